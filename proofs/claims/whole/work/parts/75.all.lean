/-- the reference's cells that a cost reads -/
def Md (M : Mm) (n k : Int) (O G : Int → Int → Int) : Prop := M 8 0 = n ∧ M 8 5 = k ∧ 1 ≤ n ∧ n ≤ 10 ∧ 0 ≤ k ∧ k ≤ 12 ∧ (∀ a b, 0 ≤ a → a < n → 0 ≤ b → b < n → M 33 (10 * a + b) = O a b) ∧ (∀ j, 0 ≤ j → j < k → 0 ≤ M 34 j ∧ M 34 j ≤ 3 ∧ 0 ≤ M 35 j ∧ M 35 j ≤ 1000) ∧ (∀ j, 0 ≤ j → j < 144 → 0 ≤ M 36 j ∧ M 36 j ≤ 1000) ∧ (∀ i j, 0 ≤ i → i < k → 0 ≤ j → j < k → cst (M 34) (M 35) (M 36) i j = G i j)
theorem Md_fr {M M' : Mm} {n k : Int} {O G : Int → Int → Int} (h : Md M n k O G) (h0 : M' 8 0 = M 8 0) (h5 : M' 8 5 = M 8 5) (h33 : M' 33 = M 33) (h34 : M' 34 = M 34) (h35 : M' 35 = M 35) (h36 : M' 36 = M 36) : Md M' n k O G := by
  unfold Md at *
  rw [h0, h5, h33, h34, h35, h36]
  exact h
theorem Inv_Md {M : Mm} (hI : Inv M) : Md M (M 1 0) (M 3 0) (Oc1 M) (Gc1 M) := by
  obtain ⟨hn, hk, hg, hc, hf, hs, hd, ht, hz, hb, hp, hq, ho⟩ := id hI
  obtain ⟨n1, n2, k1, k2, e1, e2⟩ := id hn
  refine ⟨e1, e2, n1, n2, k1, k2, fun a b a0 a1 b0 b1 => ?_, fun j j0 j1 => ?_, fun j j0 j1 => ?_, fun i j i0 i1 j0 j1 => ?_⟩
  · obtain ⟨h1, h2⟩ := ho a b a0 (by omega) b0 (by omega)
    show _ = M 13 (10 * a + b)
    rw [h1, h2, if_pos ⟨a1, b1⟩]
  · have := hk j j0 j1; omega
  · have := hg j j0 j1; omega
  · show _ = M 17 (12 * i + j)
    rw [hc i j i0 i1 j0 j1]
    have a1 := hk j j0 j1
    exact cst_congr (by omega) (by omega) (hg (12 * i + j) (by omega) (by omega)).2.2
/-- a setting's keys are there -/
def Kin (n k : Int) (f : Int → Int) : Prop := ∀ a, 0 ≤ a → a < n → 0 ≤ f a ∧ f a < k
theorem s_between (x1 x2 x3 x4 : Int) (M : Mm) (Q : Int → Mm → Prop) {n k : Int} {O G : Int → Int → Int} (hM : Md M n k O G) (hx1 : 0 ≤ x1 ∧ x1 < n) (hx2 : 0 ≤ x2 ∧ x2 < n) (hx3 : 0 ≤ x3 ∧ x3 < k) (hx4 : 0 ≤ x4 ∧ x4 < k) (h : Q (O x1 x2 * G x3 x4) M) : wp_X8_between x1 x2 x3 x4 M Q := by
  obtain ⟨m1, m2, m3, m4, m5, m6, m7, m8, m9, m10⟩ := hM
  have a1 := m8 x4 hx4.1 hx4.2
  refine ⟨by omega, s_costOf x3 x4 M _ (by omega) (by omega) (by omega) (by omega) (m9 _ (by omega) (by omega)) ?_⟩
  rw [m7 x1 x2 hx1.1 hx1.2 hx2.1 hx2.2, m10 x3 x4 hx3.1 hx3.2 hx4.1 hx4.2]
  exact h
theorem tm_ne {O G : Int → Int → Int} {f : Int → Int} {a b : Int} (h : a ≠ b) : tm O G f a b = O a b * G (f a) (f b) := if_neg h
theorem sm_step {g : Int → Int} {b : Int} (b0 : 0 ≤ b) : sm (b + 1).toNat g = sm b.toNat g + g b := by
  rw [show (b + 1).toNat = b.toNat + 1 by omega]
  show sm b.toNat g + g (b.toNat : Int) = _
  rw [show ((b.toNat : Nat) : Int) = b by omega]
theorem s_costAll (M : Mm) (Q : Int → Mm → Prop) {n k : Int} {O G : Int → Int → Int} {f : Int → Int} (hM : Md M n k O G) (hf : ∀ a, 0 ≤ a → a < n → M 38 a = f a) (hK : Kin n k f) (h : Q (wc O G n.toNat f) M) : wp_X8_costAll M Q := by
  obtain ⟨m1, m2, m3, m4, m5, m6, m7, m8, m9, m10⟩ := id hM
  refine LP2.of (b := bc_X8_costAll_L4 Q) (fun s a B => B = M ∧ 0 ≤ a ∧ a ≤ n ∧ s = sm a.toNat (fun a => sm n.toNat (fun b => tm O G f a b))) (fun _ a _ => (n - a).toNat) ?_ 0 0 M ⟨rfl, by omega, by omega, rfl⟩
  rintro R s a B ⟨rfl, a0, a1, hs⟩ ih
  unfold bc_X8_costAll_L4
  refine ⟨fun q => ?_, fun q => ?_⟩
  · rw [show a = n by omega] at hs
    rw [hs]; exact h
  · refine LP2.of (b := bc_X8_costAll_L15 a Q (fun y1_1 M1 => iR (a + 1) ∧ R y1_1 (a + 1) M1)) (fun t b C => C = B ∧ 0 ≤ b ∧ b ≤ n ∧ t = s + sm b.toNat (fun b => tm O G f a b)) (fun _ b _ => (n - b).toNat) ?_ s 0 B ⟨rfl, by omega, by omega, by show s = s + (0 : Int); omega⟩
    rintro R2 t b C ⟨rfl, b0, b1, ht⟩ ih2
    unfold bc_X8_costAll_L15
    refine ⟨fun q2 => ⟨by omega, ih _ _ _ ⟨rfl, by omega, by omega, ?_⟩ (by omega)⟩, fun q2 => ⟨fun q3 => ⟨by omega, by omega, ?_⟩, fun q3 => ⟨by omega, ih2 _ _ _ ⟨rfl, by omega, by omega, ?_⟩ (by omega)⟩⟩⟩
    · rw [ht, hs, sm_step a0, show b = n by omega]
    · have fa := hf a a0 (by omega)
      have fb := hf b b0 (by omega)
      refine s_between a b _ _ C _ hM (by omega) (by omega) (by rw [fa]; exact hK a a0 (by omega)) (by rw [fb]; exact hK b b0 (by omega)) ⟨by omega, ih2 _ _ _ ⟨rfl, by omega, by omega, ?_⟩ (by omega)⟩
      rw [fa, fb, sm_step b0, ht, tm_ne q3]; omega
    · rw [sm_step b0, ht, ← q3, tm_self]; omega
theorem e_all (M : Mm) (hI : Inv M) : Same wp_X7_all wp_X8_all M := by
  obtain ⟨hn, hk, hg, hc, hf, hs, hd, ht, hz, hb, hp, hq, ho⟩ := id hI
  obtain ⟨n1, n2, k1, k2, e1, e2⟩ := id hn
  obtain ⟨s1, s2, s3⟩ := id hs
  unfold Same wp_X7_all
  refine ⟨fun q => ⟨fun _ => ⟨rfl, hI⟩, fun q1 => absurd (s1.trans q) q1⟩, fun q => ?_⟩
  obtain ⟨sk, sm⟩ := s3 q
  refine s_whole M _ (by omega) (fun a a0 a1 => ?_) ?_
  · have := sk.2.1 a a0 a1; omega
  · refine ⟨fun q1 => absurd (s1.symm.trans q1) q, fun _ => s_costAll M _ (Inv_Md hI) sm (fun a a0 a1 => ?_) ⟨rfl, hI⟩⟩
    have := sk.2.1 a a0 a1; omega
theorem e_share (x : Int) (M : Mm) (hI : Inv M) : Same (wp_X7_share x) (wp_X8_share x) M := by
  obtain ⟨hn, hk, hg, hc, hf, hs, hd, ht, hz, hb, hp, hq, ho⟩ := id hI
  obtain ⟨n1, n2, k1, k2, e1, e2⟩ := id hn
  obtain ⟨s1, s2, s3⟩ := id hs
  by_cases hx : 0 ≤ x ∧ x < M 1 0
  · by_cases hp0 : M 4 4 = 0
    · unfold Same wp_X7_share wp_X3_has wp_X8_share wp_X8_isLetter wp_X8_in
      repeat' (first | with_reducible (apply And.intro) | with_reducible (intro _))
      all_goals (try first | omega | exact absurd trivial (by assumption) | exact False.elim (by assumption))
      all_goals (try (exact hI))
      all_goals (exfalso; omega)
    · obtain ⟨sk, sM⟩ := s3 hp0
      have hM := Inv_Md hI
      have hK : Kin (M 1 0) (M 3 0) (M 19) := fun a a0 a1 => by have := sk.2.1 a a0 a1; omega
      have hfin : wp_X8_share x M (fun r' M2 => shr (Oc1 M) (Gc1 M) (M 1 0).toNat (M 19) x = r' ∧ Inv M2) := by
        unfold wp_X8_share wp_X8_isLetter wp_X8_in
        repeat' (first | with_reducible (apply And.intro) | with_reducible (intro _))
        all_goals (try first | omega | exact absurd trivial (by assumption) | exact False.elim (by assumption))
        refine LP2.of (b := bc_X8_share_L28 x _) (fun s b B => B = M ∧ 0 ≤ b ∧ b ≤ M 1 0 ∧ s = sm b.toNat (fun b => tm (Oc1 M) (Gc1 M) (M 19) x b + tm (Oc1 M) (Gc1 M) (M 19) b x)) (fun _ b _ => (M 1 0 - b).toNat) ?_ 0 0 M ⟨rfl, by omega, by omega, rfl⟩
        rintro R s b B ⟨rfl, b0, b1, hs'⟩ ih
        unfold bc_X8_share_L28
        refine ⟨fun q => ⟨?_, hI⟩, fun q => ⟨fun q1 => ⟨by omega, ih _ _ _ ⟨rfl, by omega, by omega, ?_⟩ (by omega)⟩, fun q1 => ⟨by omega, by omega, ?_⟩⟩⟩
        · rw [hs', show b = B 1 0 by omega]; rfl
        · rw [sm_step b0, hs', q1, tm_self]; omega
        · have fa := sM x hx.1 (by omega)
          have fb := sM b b0 (by omega)
          have ka := hK x hx.1 hx.2
          have kb := hK b b0 (by omega)
          refine s_between x b _ _ B _ hM (by omega) (by omega) (by omega) (by omega) ⟨by omega, by omega, ?_⟩
          refine s_between b x _ _ B _ hM (by omega) (by omega) (by omega) (by omega) ⟨by omega, ih _ _ _ ⟨rfl, by omega, by omega, ?_⟩ (by omega)⟩
          rw [fa, fb, sm_step b0, hs', tm_ne (fun e => q1 e.symm), tm_ne q1]
      unfold Same wp_X7_share wp_X3_has
      repeat' (first | with_reducible (apply And.intro) | with_reducible (intro _))
      all_goals (try first | omega | exact absurd trivial (by assumption) | exact False.elim (by assumption))
      refine s_share x M _ (by omega) hx (fun a a0 a1 => by have := hK a a0 a1; omega) ?_
      exact hfin
  · unfold Same wp_X7_share wp_X3_has wp_X8_share wp_X8_isLetter wp_X8_in
    repeat' (first | with_reducible (apply And.intro) | with_reducible (intro _))
    all_goals (try first | omega | exact absurd trivial (by assumption) | exact False.elim (by assumption))
    all_goals (try (exact hI))
    all_goals (exfalso; omega)
theorem s_changeBy (x y : Int) (M : Mm) (Q : Int → Mm → Prop) (hn : 0 ≤ M 1 0 ∧ M 1 0 ≤ 10) (hx : 0 ≤ x ∧ x < M 1 0) (hf : Kin (M 1 0) 12 (M 19)) (hy : 0 ≤ y ∧ y < 12) (hi : ∀ b c, 0 ≤ b → b < M 1 0 → 0 ≤ c → c < M 1 0 → M 19 b = M 19 c → b = c) (h : Q (wc (Oc1 M) (Gc1 M) (M 1 0).toNat (mv (M 19) (M 1 0).toNat x y) - wc (Oc1 M) (Gc1 M) (M 1 0).toNat (M 19)) M) : wp_X5_changeByMove x y M Q := by
  unfold wp_X5_changeByMove
  refine s_letterOn y M _ hn ⟨by omega, ?_⟩
  refine s_shareBoth x _ M (fun s B => wp_X5_move x y B (fun M4 => wp_X5_shareOf x (-1) M4 (fun z4 M5 => wp_X5_shareOf (lon (M 19) y (M 1 0).toNat) x M5 (fun z5 M6 => wp_X5_move x (M 19 x) M6 (fun M7 => Q ((z4 + z5) - s) M7))))) hn hx hf ?_
  refine s_move x y M _ hn (by omega) ?_
  have e2 : fu M 19 (mv (M 19) (M 1 0).toNat x y) 1 = M 1 := rfl
  have e3 : fu M 19 (mv (M 19) (M 1 0).toNat x y) 19 = mv (M 19) (M 1 0).toNat x y := rfl
  have e4 : fu M 19 (mv (M 19) (M 1 0).toNat x y) 13 = M 13 := rfl
  have e5 : fu M 19 (mv (M 19) (M 1 0).toNat x y) 17 = M 17 := rfl
  generalize hM1 : fu M 19 (mv (M 19) (M 1 0).toNat x y) = M1 at *
  refine s_shareBoth x _ M1 (fun s B => wp_X5_move x (M 19 x) B (fun M7 => Q (s - sht (Oc1 M) (Gc1 M) (M 1 0).toNat (M 19) x (lon (M 19) y (M 1 0).toNat)) M7)) (by rw [e2]; exact hn) (by rw [e2]; exact hx) ?_ ?_
  · intro a a0 a1
    rw [e2] at a1
    rw [e3, mv_ap]
    split
    · exact hy
    · split
      · exact hf x hx.1 hx.2
      · exact hf a a0 a1
  · refine s_move x _ M1 _ (by rw [e2]; exact hn) (by omega) ?_
    have eO : Oc1 M1 = Oc1 M := by unfold Oc1; rw [e4]
    have eG : Gc1 M1 = Gc1 M := by unfold Gc1; rw [e5]
    rw [e3, e2, eO, eG]
    have hb := mv_back (f := M 19) (n := (M 1 0).toNat) (a := x) (k := y) hx.1 (by omega) (fun b b0 b1 => by have := hf b b0 (by omega); omega) (fun b c b0 b1 c0 c1 => hi b c b0 (by omega) c0 (by omega))
    rw [hb, ← sht_mv hx.1 (by omega), ← hM1]
    refine cast (congrArg (Q _) ?_) h
    funext c
    simp only [fu_ap]
    by_cases e : c = 19
    · subst e; rfl
    · simp only [e, reduceIte]

theorem lon_at {f : Int → Int} {n : Nat} {b : Int} (b0 : 0 ≤ b) (b1 : b < n) (hi : ∀ b c : Int, 0 ≤ b → b < n → 0 ≤ c → c < n → f b = f c → b = c) : lon f (f b) n = b := lon_hit b0 b1 rfl (fun a a0 a1 e => by have := hi a b a0 (by omega) b0 b1 e; omega)
/-- an exchange is a move to where the other is -/
theorem mv_ex {f : Int → Int} {n : Nat} {a b c : Int} (b0 : 0 ≤ b) (b1 : b < n) (hi : ∀ b c : Int, 0 ≤ b → b < n → 0 ≤ c → c < n → f b = f c → b = c) : mv f n a (f b) c = if c = a then f b else if c = b then f a else f c := by
  rw [mv_ap, lon_at b0 b1 hi]
  by_cases e : c = a
  · rw [if_pos e, if_pos e]
  · rw [if_neg e, if_neg e]
    by_cases e2 : c = b
    · rw [if_pos e2, if_pos ⟨by omega, e2⟩]
    · rw [if_neg e2, if_neg (fun q => e2 q.2)]
theorem Kin_mv {n k : Int} {f : Int → Int} {N : Nat} {a y : Int} (h : Kin n k f) (ha : 0 ≤ a ∧ a < n) (hy : 0 ≤ y ∧ y < k) : Kin n k (mv f N a y) := by
  intro b b0 b1
  rw [mv_ap]
  split
  · exact hy
  · split
    · exact h a ha.1 ha.2
    · exact h b b0 b1
theorem s_exchange (x1 x2 : Int) (M : Mm) (Q : Mm → Prop) (hx1 : 0 ≤ x1 ∧ x1 < 10) (hx2 : 0 ≤ x2 ∧ x2 < 10) (hne : x1 ≠ x2) (h : ∀ M' : Mm, (∀ c, c ≠ 38 → M' c = M c) → (∀ c, M' 38 c = if c = x1 then M 38 x2 else if c = x2 then M 38 x1 else M 38 c) → Q M') : wp_X8_exchange x1 x2 M Q := by
  refine ⟨hx1, hx2, hx1, hx2, h _ (fun c hc => ?_) (fun c => ?_)⟩
  · simp only [mset_eq, fu_ap, hc, reduceIte]
  · simp only [mset_eq, fu_ap, reduceIte]
    by_cases e : c = x1
    · rw [if_pos e, if_neg (by omega), if_pos e]
    · rw [if_neg e]
      by_cases e2 : c = x2
      · rw [if_pos e2, if_neg e]
      · rw [if_neg e2, if_neg e]
/-- the reference exchanges, reckons and exchanges back -/
theorem s_exTry (x1 x2 : Int) (M : Mm) (Q : Int → Mm → Prop) {n k : Int} {O G : Int → Int → Int} {f : Int → Int} (hM : Md M n k O G) (hf : ∀ a, 0 ≤ a → a < n → M 38 a = f a) (hK : Kin n k f) (hi : ∀ b c, 0 ≤ b → b < n → 0 ≤ c → c < n → f b = f c → b = c) (hx1 : 0 ≤ x1 ∧ x1 < n) (hx2 : 0 ≤ x2 ∧ x2 < n) (hne : x1 ≠ x2) (h : Q (wc O G n.toNat (mv f n.toNat x1 (f x2))) M) : wp_X8_exchange x1 x2 M (fun M1 => wp_X8_costAll M1 (fun z M2 => wp_X8_exchange x1 x2 M2 (fun M3 => Q z M3))) := by
  obtain ⟨m1, m2, m3, m4, m5, m6, m7, m8, m9, m10⟩ := id hM
  refine s_exchange x1 x2 M _ (by omega) (by omega) hne (fun M1 f1 g1 => ?_)
  have hm : ∀ c, c ≠ 38 → M1 c = M c := f1
  refine s_costAll M1 _ (Md_fr hM (by rw [hm 8 (by decide)]) (by rw [hm 8 (by decide)]) (hm 33 (by decide)) (hm 34 (by decide)) (hm 35 (by decide)) (hm 36 (by decide))) (f := mv f n.toNat x1 (f x2)) (fun a a0 a1 => ?_) (Kin_mv hK hx1 (hK x2 hx2.1 hx2.2)) ?_
  · rw [g1, mv_ex hx2.1 (by omega) (fun b c b0 b1 c0 c1 => hi b c b0 (by omega) c0 (by omega)), hf x1 hx1.1 hx1.2, hf x2 hx2.1 hx2.2, hf a a0 a1]
  · refine s_exchange x1 x2 M1 _ (by omega) (by omega) hne (fun M2 f2 g2 => ?_)
    refine cast (congrArg (Q _) ?_) h
    funext c
    by_cases e : c = 38
    · subst e
      funext j
      rw [g2, g1, g1, g1]
      by_cases e1 : j = x1
      · rw [if_pos e1, if_neg (by omega), if_pos rfl, e1]
      · rw [if_neg e1]
        by_cases e2 : j = x2
        · rw [if_pos e2, if_pos rfl, e2]
        · rw [if_neg e2, if_neg e1, if_neg e2]
    · rw [f2 c e, f1 c e]
theorem e_change (x1 x2 : Int) (M : Mm) (hI : Inv M) : Same (wp_X7_change x1 x2) (wp_X8_change x1 x2) M := by
  obtain ⟨hn, hk, hg, hc, hf, hs, hd, ht, hz, hb, hp, hq, ho⟩ := id hI
  obtain ⟨n1, n2, k1, k2, e1, e2⟩ := id hn
  obtain ⟨s1, s2, s3⟩ := id hs
  by_cases hx : 0 ≤ x1 ∧ x1 < M 1 0 ∧ 0 ≤ x2 ∧ x2 < M 1 0 ∧ x1 ≠ x2
  · have g1 := (hf.1 x1 (by omega) (by omega)).1
    have g2 := (hf.1 x2 (by omega) (by omega)).1
    by_cases hp0 : M 4 4 ≠ 0 ∧ M 9 x1 = -1 ∧ M 9 x2 = -1
    · obtain ⟨sk, sM⟩ := s3 hp0.1
      have hM := Inv_Md hI
      have hK : Kin (M 1 0) (M 3 0) (M 19) := fun a a0 a1 => by have := sk.2.1 a a0 a1; omega
      have hK2 := hK x2 (by omega) (by omega)
      have hfin : wp_X8_change x1 x2 M (fun r' M2 => wc (Oc1 M) (Gc1 M) (M 1 0).toNat (mv (M 19) (M 1 0).toNat x1 (M 19 x2)) - wc (Oc1 M) (Gc1 M) (M 1 0).toNat (M 19) = r' ∧ Inv M2) := by
        unfold wp_X8_change wp_X8_isLetter wp_X8_in
        repeat' (first | with_reducible (apply And.intro) | with_reducible (intro _))
        all_goals (try first | omega | exact absurd trivial (by assumption) | exact False.elim (by assumption))
        refine s_costAll M _ hM sM hK ?_
        exact s_exTry x1 x2 M (fun z4 M6 => wc (Oc1 M) (Gc1 M) (M 1 0).toNat (mv (M 19) (M 1 0).toNat x1 (M 19 x2)) - wc (Oc1 M) (Gc1 M) (M 1 0).toNat (M 19) = z4 - wc (Oc1 M) (Gc1 M) (M 1 0).toNat (M 19) ∧ Inv M6) hM sM hK sk.2.2 (by omega) (by omega) hx.2.2.2.2 ⟨rfl, hI⟩
      unfold Same wp_X7_change wp_X3_has wp_X3_isFixed
      repeat' (first | with_reducible (apply And.intro) | with_reducible (intro _))
      all_goals (try first | omega | exact absurd trivial (by assumption) | exact False.elim (by assumption))
      refine s_changeBy x1 (M 19 x2) M _ (by omega) (by omega) (fun a a0 a1 => by have := hK a a0 a1; omega) (by omega) sk.2.2 ?_
      exact hfin
    · unfold Same wp_X7_change wp_X3_has wp_X3_isFixed wp_X8_change wp_X8_isLetter wp_X8_in
      repeat' (first | with_reducible (apply And.intro) | with_reducible (intro _))
      all_goals (try first | omega | exact absurd trivial (by assumption) | exact False.elim (by assumption))
      all_goals (try (exact hI))
      all_goals (exfalso; omega)
  · unfold Same wp_X7_change wp_X3_has wp_X8_change wp_X8_isLetter wp_X8_in
    repeat' (first | with_reducible (apply And.intro) | with_reducible (intro _))
    all_goals (try first | omega | exact absurd trivial (by assumption) | exact False.elim (by assumption))
    all_goals (try (exact hI))
    all_goals (exfalso; omega)
