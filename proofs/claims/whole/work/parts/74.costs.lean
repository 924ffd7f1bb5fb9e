/-- what a pair of letters costs -/
def tm (O G : Int → Int → Int) (f : Int → Int) (a b : Int) : Int := if a = b then 0 else O a b * G (f a) (f b)
/-- a setting's cost -/
def wc (O G : Int → Int → Int) (n : Nat) (f : Int → Int) : Int := sm n (fun a => sm n (fun b => tm O G f a b))
/-- a letter's share -/
def shr (O G : Int → Int → Int) (n : Nat) (f : Int → Int) (a : Int) : Int := sm n (fun b => tm O G f a b + tm O G f b a)
theorem tm_congr {O G O' G' : Int → Int → Int} {f f' : Int → Int} {a b : Int} (ho : O' a b = O a b) (hg : G' (f' a) (f' b) = G (f a) (f b)) : tm O' G' f' a b = tm O G f a b := by
  unfold tm; rw [ho, hg]
theorem wc_congr {O G O' G' : Int → Int → Int} {n : Nat} {f f' : Int → Int} (h : ∀ a b : Int, 0 ≤ a → a < n → 0 ≤ b → b < n → O' a b = O a b ∧ G' (f' a) (f' b) = G (f a) (f b)) : wc O' G' n f' = wc O G n f := by
  unfold wc
  exact sm_congr (fun a a0 a1 => sm_congr (fun b b0 b1 => tm_congr (h a b a0 a1 b0 b1).1 (h a b a0 a1 b0 b1).2))
theorem shr_congr {O G O' G' : Int → Int → Int} {n : Nat} {f f' : Int → Int} {a : Int} (h : ∀ b : Int, 0 ≤ b → b < n → O' a b = O a b ∧ O' b a = O b a ∧ G' (f' a) (f' b) = G (f a) (f b) ∧ G' (f' b) (f' a) = G (f b) (f a)) : shr O' G' n f' a = shr O G n f a := by
  unfold shr
  refine sm_congr (fun b b0 b1 => ?_)
  obtain ⟨h1, h2, h3, h4⟩ := h b b0 b1
  rw [tm_congr h1 h3, tm_congr h2 h4]
theorem tm_self {O G : Int → Int → Int} {f : Int → Int} {a : Int} : tm O G f a a = 0 := if_pos rfl
/-- one letter goes elsewhere -/
theorem wc_fu {O G : Int → Int → Int} {n : Nat} {f : Int → Int} {a k : Int} (h0 : 0 ≤ a) (h1 : a < n) : wc O G n (fu f a k) - wc O G n f = shr O G n (fu f a k) a - shr O G n f a := by
  have e : wc O G n (fu f a k) = sm n (fun b => (sm n (fun c => tm O G f b c) + (tm O G (fu f a k) b a + (-1) * tm O G f b a)) + (if b = a then sm n (fun c => tm O G (fu f a k) a c) - sm n (fun c => tm O G f a c) else 0)) := by
    unfold wc
    apply sm_congr
    intro b b0 b1
    by_cases e : b = a
    · subst e
      rw [if_pos rfl, tm_self, tm_self]; omega
    · rw [if_neg e, sm_diff (n := n) (g := fun c => tm O G f b c) h0 h1]
      · omega
      · intro c c0 c1 c2
        exact tm_congr rfl (by rw [fu_n _ _ e, fu_n _ _ c2])
  rw [e, sm_add, sm_add, sm_add, sm_mul, sm_one (t := a) h0 h1 (fun i _ _ i2 => if_neg i2), if_pos rfl]
  unfold wc shr
  rw [sm_add, sm_add]
  show _ + (sm n (fun c => tm O G (fu f a k) a c) - sm n (fun c => tm O G f a c)) - _ = sm n (fun c => tm O G (fu f a k) a c) + _ - (sm n (fun c => tm O G f a c) + _)
  omega
/-- a share, where another letter goes elsewhere -/
theorem shr_fu {O G : Int → Int → Int} {n : Nat} {f : Int → Int} {a z k : Int} (z0 : 0 ≤ z) (z1 : z < n) (hne : a ≠ z) : shr O G n (fu f z k) a = shr O G n f a - (tm O G f a z + tm O G f z a) + (tm O G (fu f z k) a z + tm O G (fu f z k) z a) := by
  unfold shr
  rw [sm_diff (n := n) (g := fun b => tm O G f a b + tm O G f b a) z0 z1]
  · omega
  · intro b b0 b1 b2
    rw [tm_congr (f := f) (f' := fu f z k) rfl (by rw [fu_n _ _ hne, fu_n _ _ b2]), tm_congr (f := f) (f' := fu f z k) rfl (by rw [fu_n _ _ hne, fu_n _ _ b2])]
/-- what of the cost has the one or the other -/
def shb (O G : Int → Int → Int) (n : Nat) (f : Int → Int) (a z : Int) : Int := if z = -1 ∨ z = a then shr O G n f a else shr O G n f a + shr O G n f z - tm O G f a z - tm O G f z a
theorem wc_mv {O G : Int → Int → Int} {n : Nat} {f : Int → Int} {a k : Int} (h0 : 0 ≤ a) (h1 : a < n) : wc O G n (mv f n a k) - wc O G n f = shb O G n (mv f n a k) a (lon f k n) - shb O G n f a (lon f k n) := by
  have hl := lon_cases f k n
  unfold mv shb
  by_cases e : lon f k n = -1
  · rw [if_pos e, if_pos (Or.inl e), if_pos (Or.inl e)]
    exact wc_fu h0 h1
  · rw [if_neg e]
    obtain ⟨l1, l2, l3, l4⟩ := hl.resolve_left (fun q => e q.1)
    by_cases e2 : lon f k n = a
    · rw [if_pos (Or.inr e2), if_pos (Or.inr e2), e2]
      have e3 : fu f a (f a) = f := by
        funext j; simp only [fu_ap]; split
        · rename_i q; rw [q]
        · rfl
      rw [e3]
      exact wc_fu h0 h1
    · rw [if_neg (by omega), if_neg (by omega)]
      have A1 := wc_fu (O := O) (G := G) (n := n) (f := f) (a := lon f k n) (k := f a) l1 l2
      have A2 := wc_fu (O := O) (G := G) (n := n) (f := fu f (lon f k n) (f a)) (a := a) (k := k) h0 h1
      have B1 := shr_fu (O := O) (G := G) (n := n) (f := f) (a := a) (z := lon f k n) (k := f a) l1 l2 (by omega)
      have B2 := shr_fu (O := O) (G := G) (n := n) (f := fu f (lon f k n) (f a)) (a := lon f k n) (z := a) (k := k) h0 h1 e2
      omega
/-- moving back undoes it -/
theorem mv_back {f : Int → Int} {n : Nat} {a k : Int} (h0 : 0 ≤ a) (h1 : a < n) (hne : ∀ b : Int, 0 ≤ b → b < n → f b ≠ -1) (hi : ∀ b c : Int, 0 ≤ b → b < n → 0 ≤ c → c < n → f b = f c → b = c) : mv (mv f n a k) n a (f a) = f := by
  have hl := lon_cases f k n
  by_cases e : lon f k n = -1
  · have hk := (hl.resolve_right (fun q => by omega)).2
    have e1 : mv f n a k = fu f a k := by unfold mv; rw [if_pos e]
    rw [e1]
    have e2 : lon (fu f a k) (f a) n = -1 := by
      apply lon_none
      intro b b0 b1 q
      simp only [fu_ap] at q
      by_cases eb : b = a
      · rw [if_pos eb] at q
        exact hk a h0 h1 q.symm
      · rw [if_neg eb] at q
        exact eb (hi b a b0 b1 h0 h1 q)
    unfold mv
    rw [if_pos e2]
    funext j
    simp only [fu_ap]
    split
    · rename_i q; rw [q]
    · rfl
  · obtain ⟨l1, l2, l3, l4⟩ := hl.resolve_left (fun q => e q.1)
    have e1 : mv f n a k = fu (fu f (lon f k n) (f a)) a k := by unfold mv; rw [if_neg e]
    rw [e1]
    generalize hz : lon f k n = z at *
    by_cases ea : z = a
    · have e2 : fu (fu f z (f a)) a k = f := by
        funext j
        simp only [fu_ap]
        split
        · rename_i q; rw [q, ← ea]; exact l3.symm
        · split
          · rename_i q1 q2; exact absurd (q2.trans ea) q1
          · rfl
      rw [e2]
      have e3 : lon f (f a) n = a := lon_hit h0 h1 rfl (fun b b0 b1 q => by have := hi b a b0 (by omega) h0 h1 q; omega)
      unfold mv
      rw [e3, if_neg (by omega)]
      funext j
      simp only [fu_ap]
      split
      · rename_i q; rw [q]
      · rfl
    · have e3 : lon (fu (fu f z (f a)) a k) (f a) n = z := by
        refine lon_hit l1 l2 ?_ (fun b b0 b1 q => ?_)
        · simp only [fu_ap]; rw [if_neg ea, if_pos trivial]
        · simp only [fu_ap] at q
          by_cases eb : b = a
          · rw [if_pos eb] at q
            have := hi z a l1 l2 h0 h1 (l3.trans q); omega
          · rw [if_neg eb, if_neg (by omega)] at q
            exact eb (hi b a b0 (by omega) h0 h1 q)
      unfold mv
      rw [e3, if_neg (by omega)]
      funext j
      simp only [fu_ap]
      by_cases e5 : j = a
      · rw [if_pos e5, e5]
      · rw [if_neg e5]
        by_cases e6 : j = z
        · rw [if_pos e6, if_pos trivial, e6, l3]
        · rw [if_neg e6, if_neg e5, if_neg e6]
/-- the class's numbers -/
abbrev Oc1 (M : Mm) : Int → Int → Int := fun a b => M 13 (10 * a + b)
abbrev Gc1 (M : Mm) : Int → Int → Int := fun i k => M 17 (12 * i + k)
abbrev Om1 (M : Mm) : Int → Int → Int := fun a b => M 33 (10 * a + b)
abbrev Gm1 (M : Mm) : Int → Int → Int := fun i k => cst (M 34) (M 35) (M 36) i k
theorem s_pair (a b : Int) (M : Mm) (Q : Int → Mm → Prop) (ha : 0 ≤ a ∧ a < 10) (hb : 0 ≤ b ∧ b < 10) (fa : 0 ≤ M 19 a ∧ M 19 a < 12) (fb : 0 ≤ M 19 b ∧ M 19 b < 12) (hne : a ≠ b) (h : Q (tm (Oc1 M) (Gc1 M) (M 19) a b) M) : wp_X5_pairCost a b M Q := by
  unfold wp_X5_pairCost
  unfold tm at h
  rw [if_neg hne] at h
  exact ⟨ha, hb, ha, fa, hb, fb, h⟩
theorem s_whole (M : Mm) (Q : Int → Mm → Prop) (hn : 0 ≤ M 1 0 ∧ M 1 0 ≤ 10) (hf : ∀ a, 0 ≤ a → a < M 1 0 → 0 ≤ M 19 a ∧ M 19 a < 12) (h : Q (wc (Oc1 M) (Gc1 M) (M 1 0).toNat (M 19)) M) : wp_X5_wholeCost M Q := by
  refine LP2.of (b := bc_X5_wholeCost_L4 Q) (fun s a B => B = M ∧ 0 ≤ a ∧ a ≤ M 1 0 ∧ s = sm a.toNat (fun a => sm (M 1 0).toNat (fun b => tm (Oc1 M) (Gc1 M) (M 19) a b))) (fun _ a _ => (M 1 0 - a).toNat) ?_ 0 0 M ⟨rfl, by omega, by omega, rfl⟩
  rintro R s a B ⟨rfl, a0, a1, hs⟩ ih
  unfold bc_X5_wholeCost_L4
  refine ⟨fun q => ?_, fun q => ?_⟩
  · rw [show a = B 1 0 by omega] at hs
    rw [hs]; exact h
  · refine LP2.of (b := bc_X5_wholeCost_L18 a Q (fun y1_1 M1 => iR (a + 1) ∧ R y1_1 (a + 1) M1)) (fun t b C => C = B ∧ 0 ≤ b ∧ b ≤ B 1 0 ∧ t = s + sm b.toNat (fun b => tm (Oc1 B) (Gc1 B) (B 19) a b)) (fun _ b _ => (B 1 0 - b).toNat) ?_ s 0 B ⟨rfl, by omega, by omega, by show s = s + (0 : Int); omega⟩
    rintro R2 t b C ⟨rfl, b0, b1, ht⟩ ih2
    unfold bc_X5_wholeCost_L18
    have hstep : ∀ b : Int, 0 ≤ b → sm (b + 1).toNat (fun b => tm (Oc1 C) (Gc1 C) (C 19) a b) = sm b.toNat (fun b => tm (Oc1 C) (Gc1 C) (C 19) a b) + tm (Oc1 C) (Gc1 C) (C 19) a b := by
      intro b b0
      rw [show (b + 1).toNat = b.toNat + 1 by omega]
      show sm b.toNat _ + tm (Oc1 C) (Gc1 C) (C 19) a (b.toNat : Int) = _
      rw [show ((b.toNat : Nat) : Int) = b by omega]
    refine ⟨fun q2 => ⟨by omega, ih _ _ _ ⟨rfl, by omega, by omega, ?_⟩ (by omega)⟩, fun q2 => ⟨fun q3 => ⟨by omega, ih2 _ _ _ ⟨rfl, by omega, by omega, ?_⟩ (by omega)⟩, fun q3 => ?_⟩⟩
    · rw [ht, hs, show (a + 1).toNat = a.toNat + 1 by omega, show b = C 1 0 by omega]
      show _ = sm a.toNat _ + sm (C 1 0).toNat (fun b => tm (Oc1 C) (Gc1 C) (C 19) (a.toNat : Int) b)
      rw [show ((a.toNat : Nat) : Int) = a by omega]
    · rw [hstep b b0, ht, ← q3, tm_self]; omega
    · refine s_pair a b C _ (by omega) (by omega) (hf a a0 (by omega)) (hf b b0 (by omega)) q3 ⟨by omega, ih2 _ _ _ ⟨rfl, by omega, by omega, ?_⟩ (by omega)⟩
      rw [hstep b b0, ht]; omega
/-- a letter's share without what it has together with one that is left out -/
def shx (O G : Int → Int → Int) (n : Nat) (f : Int → Int) (a l : Int) : Int := sm n (fun b => if b = l then 0 else tm O G f a b + tm O G f b a)
theorem shx_none {O G : Int → Int → Int} {n : Nat} {f : Int → Int} {a : Int} : shx O G n f a (-1) = shr O G n f a := by
  unfold shx shr
  exact sm_congr (fun b b0 _ => if_neg (by omega))
theorem shx_r {O G : Int → Int → Int} {n : Nat} {f : Int → Int} {a l : Int} (l0 : 0 ≤ l) (l1 : l < n) : shx O G n f a l = shr O G n f a - (tm O G f a l + tm O G f l a) := by
  unfold shx shr
  rw [sm_diff (n := n) (f := fun b => if b = l then 0 else tm O G f a b + tm O G f b a) (g := fun b => tm O G f a b + tm O G f b a) l0 l1 (fun i _ _ i2 => if_neg i2)]
  show _ + ((if l = l then 0 else tm O G f a l + tm O G f l a) - (tm O G f a l + tm O G f l a)) = _
  rw [if_pos rfl]; omega
/-- what the class sums up of two letters -/
def sht (O G : Int → Int → Int) (n : Nat) (f : Int → Int) (a z : Int) : Int := shr O G n f a + (if 0 ≤ z ∧ z < n then shx O G n f z a else 0)
theorem mv_self {f : Int → Int} {n : Nat} {a k : Int} (e : lon f k n = a) (h0 : 0 ≤ a) : mv f n a k = f := by
  have hl := lon_cases f k n
  obtain ⟨l1, l2, l3, l4⟩ := hl.resolve_left (fun q => by omega)
  unfold mv
  rw [if_neg (by omega), e]
  rw [e] at l3
  funext j
  simp only [fu_ap]
  by_cases q : j = a
  · rw [if_pos q, q, l3]
  · rw [if_neg q, if_neg q]
theorem sht_mv {O G : Int → Int → Int} {n : Nat} {f : Int → Int} {a k : Int} (h0 : 0 ≤ a) (h1 : a < n) : wc O G n (mv f n a k) - wc O G n f = sht O G n (mv f n a k) a (lon f k n) - sht O G n f a (lon f k n) := by
  have hl := lon_cases f k n
  by_cases e2 : lon f k n = a
  · rw [mv_self e2 h0]; omega
  · rw [wc_mv h0 h1]
    unfold sht shb
    by_cases e : lon f k n = -1
    · rw [if_pos (Or.inl e), if_pos (Or.inl e), if_neg (by omega), if_neg (by omega)]; omega
    · rw [if_neg (by omega), if_neg (by omega), if_pos (by omega), if_pos (by omega), shx_r h0 h1, shx_r h0 h1]; omega
theorem s_shx (x l : Int) (M : Mm) (Q : Int → Mm → Prop) (hn : 0 ≤ M 1 0 ∧ M 1 0 ≤ 10) (hx : 0 ≤ x ∧ x < M 1 0) (hf : ∀ a, 0 ≤ a → a < M 1 0 → 0 ≤ M 19 a ∧ M 19 a < 12) (h : Q (shx (Oc1 M) (Gc1 M) (M 1 0).toNat (M 19) x l) M) : wp_X5_shareOf x l M Q := by
  have hw : wp_X5_shareOf_L18 x l Q 0 0 M := by
    refine LP2.of (b := bc_X5_shareOf_L18 x l Q) (fun s b B => B = M ∧ 0 ≤ b ∧ b ≤ M 1 0 ∧ s = sm b.toNat (fun b => if b = l then 0 else tm (Oc1 M) (Gc1 M) (M 19) x b + tm (Oc1 M) (Gc1 M) (M 19) b x)) (fun _ a _ => (M 1 0 - a).toNat) ?_ 0 0 M ⟨rfl, by omega, by omega, rfl⟩
    rintro R s b B ⟨rfl, b0, b1, hs⟩ ih
    unfold bc_X5_shareOf_L18
    have hstep : sm (b + 1).toNat (fun b => if b = l then 0 else tm (Oc1 B) (Gc1 B) (B 19) x b + tm (Oc1 B) (Gc1 B) (B 19) b x) = sm b.toNat (fun b => if b = l then 0 else tm (Oc1 B) (Gc1 B) (B 19) x b + tm (Oc1 B) (Gc1 B) (B 19) b x) + (if b = l then 0 else tm (Oc1 B) (Gc1 B) (B 19) x b + tm (Oc1 B) (Gc1 B) (B 19) b x) := by
      rw [show (b + 1).toNat = b.toNat + 1 by omega]
      show sm b.toNat _ + (if (b.toNat : Int) = l then 0 else tm (Oc1 B) (Gc1 B) (B 19) x (b.toNat : Int) + tm (Oc1 B) (Gc1 B) (B 19) (b.toNat : Int) x) = _
      rw [show ((b.toNat : Nat) : Int) = b by omega]
    refine ⟨fun q => ?_, fun q => ⟨fun q1 => ⟨by omega, ih _ _ _ ⟨rfl, by omega, by omega, ?_⟩ (by omega)⟩, fun q1 => ⟨fun q2 => ⟨by omega, ih _ _ _ ⟨rfl, by omega, by omega, ?_⟩ (by omega)⟩, fun q2 => ?_⟩⟩⟩
    · rw [show b = B 1 0 by omega] at hs
      rw [hs]; exact h
    · rw [hstep, hs, q1, tm_self]; split <;> omega
    · rw [hstep, hs, if_pos q2]; omega
    · refine s_pair x b B _ (by omega) (by omega) (hf x hx.1 hx.2) (hf b b0 (by omega)) (by omega) ?_
      refine s_pair b x B _ (by omega) (by omega) (hf b b0 (by omega)) (hf x hx.1 hx.2) q1 ⟨by omega, ih _ _ _ ⟨rfl, by omega, by omega, ?_⟩ (by omega)⟩
      rw [hstep, hs, if_neg q2]
  unfold wp_X5_shareOf wp_X3_has
  exact ⟨fun q => absurd q (by omega), fun _ => ⟨fun q => absurd q (by omega), fun _ => ⟨fun _ => hw, fun q => absurd q (by decide)⟩⟩⟩
theorem s_share (x : Int) (M : Mm) (Q : Int → Mm → Prop) (hn : 0 ≤ M 1 0 ∧ M 1 0 ≤ 10) (hx : 0 ≤ x ∧ x < M 1 0) (hf : ∀ a, 0 ≤ a → a < M 1 0 → 0 ≤ M 19 a ∧ M 19 a < 12) (h : Q (shr (Oc1 M) (Gc1 M) (M 1 0).toNat (M 19) x) M) : wp_X5_shareOf x (-1) M Q := by
  refine s_shx x (-1) M Q hn hx hf ?_
  rw [shx_none]; exact h
theorem s_shareNo (x l : Int) (M : Mm) (Q : Int → Mm → Prop) (hx : ¬ (0 ≤ x ∧ x < M 1 0)) (h : Q 0 M) : wp_X5_shareOf x l M Q := by
  unfold wp_X5_shareOf wp_X3_has
  exact ⟨fun _ => ⟨fun q => absurd rfl q, fun _ => h⟩, fun q0 => ⟨fun _ => ⟨fun q => absurd rfl q, fun _ => h⟩, fun q1 => absurd ⟨by omega, by omega⟩ hx⟩⟩
theorem s_shareBoth (x z : Int) (M : Mm) (Q : Int → Mm → Prop) (hn : 0 ≤ M 1 0 ∧ M 1 0 ≤ 10) (hx : 0 ≤ x ∧ x < M 1 0) (hf : ∀ a, 0 ≤ a → a < M 1 0 → 0 ≤ M 19 a ∧ M 19 a < 12) (h : Q (sht (Oc1 M) (Gc1 M) (M 1 0).toNat (M 19) x z) M) : wp_X5_shareOf x (-1) M (fun z2 M2 => wp_X5_shareOf z x M2 (fun z3 M3 => Q (z2 + z3) M3)) := by
  refine s_share x M _ hn hx hf ?_
  unfold sht at h
  by_cases hz : 0 ≤ z ∧ z < M 1 0
  · rw [if_pos (by omega)] at h
    exact s_shx z x M _ hn hz hf h
  · rw [if_neg (by omega)] at h
    exact s_shareNo z x M _ hz h
