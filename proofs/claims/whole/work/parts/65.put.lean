/-- the first place below n where f is x; -1 where there is none -/
def lon (f : Int → Int) (x : Int) : Nat → Int
  | 0 => -1
  | n + 1 => if lon f x n = -1 then (if f n = x then (n : Int) else -1) else lon f x n
theorem lon_none {f : Int → Int} {x : Int} {n : Nat} (h : ∀ a : Int, 0 ≤ a → a < n → f a ≠ x) : lon f x n = -1 := by
  induction n with
  | zero => rfl
  | succ n ih =>
    unfold lon
    rw [if_pos (ih (fun a a0 a1 => h a a0 (by omega))), if_neg (h n (by omega) (by omega))]
theorem lon_hit {f : Int → Int} {x : Int} {n : Nat} {z : Int} (h0 : 0 ≤ z) (h1 : z < n) (hz : f z = x) (h : ∀ a : Int, 0 ≤ a → a < z → f a ≠ x) : lon f x n = z := by
  induction n with
  | zero => omega
  | succ n ih =>
    unfold lon
    by_cases e : z = n
    · rw [if_pos (lon_none (fun a a0 a1 => h a a0 (by omega))), ← e, if_pos hz]
    · rw [ih (by omega), if_neg (by omega)]
theorem lon_cases (f : Int → Int) (x : Int) (n : Nat) : (lon f x n = -1 ∧ ∀ a : Int, 0 ≤ a → a < n → f a ≠ x) ∨ (0 ≤ lon f x n ∧ lon f x n < n ∧ f (lon f x n) = x ∧ ∀ a : Int, 0 ≤ a → a < lon f x n → f a ≠ x) := by
  induction n with
  | zero => exact Or.inl ⟨rfl, fun a a0 a1 => by omega⟩
  | succ n ih =>
    unfold lon
    rcases ih with ⟨h1, h2⟩ | ⟨h1, h2, h3, h4⟩
    · rw [if_pos h1]
      by_cases e : f n = x
      · rw [if_pos e]
        exact Or.inr ⟨by omega, by omega, e, fun a a0 a1 => h2 a a0 (by omega)⟩
      · rw [if_neg e]
        refine Or.inl ⟨rfl, fun a a0 a1 => ?_⟩
        by_cases ea : a = n
        · rw [ea]; exact e
        · exact h2 a a0 (by omega)
    · rw [if_neg (by omega)]
      exact Or.inr ⟨h1, by omega, h3, h4⟩
theorem lon_congr {f g : Int → Int} {x : Int} {n : Nat} (h : ∀ a : Int, 0 ≤ a → a < n → f a = g a) : lon f x n = lon g x n := by
  induction n with
  | zero => rfl
  | succ n ih =>
    unfold lon
    rw [ih (fun a a0 a1 => h a a0 (by omega)), h n (by omega) (by omega)]
theorem s_letterOn (x : Int) (M : Mm) (Q : Int → Mm → Prop) (hn : 0 ≤ M 1 0 ∧ M 1 0 ≤ 10) (h : Q (lon (M 19) x (M 1 0).toNat) M) : wp_X5_letterOn x M Q := by
  refine LP1.of (b := bc_X5_letterOn_L2 x Q) (fun i B => B = M ∧ 0 ≤ i ∧ i ≤ M 1 0 ∧ ∀ a, 0 ≤ a → a < i → M 19 a ≠ x) (fun i _ => (M 1 0 - i).toNat) ?_ 0 M ⟨rfl, by omega, by omega, fun a a0 a1 => by omega⟩
  rintro R i B ⟨rfl, i0, i1, hi⟩ ih
  unfold bc_X5_letterOn_L2
  refine ⟨fun q => ?_, fun q => ⟨by omega, fun q1 => ⟨by omega, ih _ _ ⟨rfl, by omega, by omega, fun a a0 a1 => ?_⟩ (by omega)⟩, fun q1 => ?_⟩⟩
  · rwa [lon_none (fun a a0 a1 => hi a a0 (by omega))] at h
  · by_cases e : a = i
    · rw [e]; exact q1
    · exact hi a a0 (by omega)
  · rwa [lon_hit i0 (by omega) q1 hi] at h
theorem s_borne (x : Int) (M : Mm) (Q : Int → Mm → Prop) (hn : 0 ≤ M 8 0 ∧ M 8 0 ≤ 10) (h : Q (lon (M 38) x (M 8 0).toNat) M) : wp_X8_borne x M Q := by
  refine LP1.of (b := bc_X8_borne_L2 x Q) (fun i B => B = M ∧ 0 ≤ i ∧ i ≤ M 8 0 ∧ ∀ a, 0 ≤ a → a < i → M 38 a ≠ x) (fun i _ => (M 8 0 - i).toNat) ?_ 0 M ⟨rfl, by omega, by omega, fun a a0 a1 => by omega⟩
  rintro R i B ⟨rfl, i0, i1, hi⟩ ih
  unfold bc_X8_borne_L2
  refine ⟨fun q => ?_, fun q => ⟨by omega, fun q1 => ⟨by omega, ih _ _ ⟨rfl, by omega, by omega, fun a a0 a1 => ?_⟩ (by omega)⟩, fun q1 => ?_⟩⟩
  · rwa [lon_none (fun a a0 a1 => hi a a0 (by omega))] at h
  · by_cases e : a = i
    · rw [e]; exact q1
    · exact hi a a0 (by omega)
  · rwa [lon_hit i0 (by omega) q1 hi] at h
/-- a letter goes to a key, what is there to its key -/
def mv (f : Int → Int) (n : Nat) (a k : Int) : Int → Int := if lon f k n = -1 then fu f a k else fu (fu f (lon f k n) (f a)) a k
theorem s_move (x1 x2 : Int) (M : Mm) (Q : Mm → Prop) (hn : 0 ≤ M 1 0 ∧ M 1 0 ≤ 10) (hx1 : 0 ≤ x1 ∧ x1 < 10) (h : Q (fu M 19 (mv (M 19) (M 1 0).toNat x1 x2))) : wp_X5_move x1 x2 M Q := by
  unfold wp_X5_move
  refine s_letterOn x2 M _ hn ?_
  unfold mv at h
  have hl := lon_cases (M 19) x2 (M 1 0).toNat
  refine ⟨fun q => ⟨hx1, ?_⟩, fun q => ⟨hx1, by omega, hx1, ?_⟩⟩
  · rw [if_pos q] at h; exact h
  · rw [if_neg q] at h
    refine cast (congrArg Q ?_) h
    funext c
    simp only [mset_eq, fu_ap]
    by_cases e : c = 19
    · subst e; simp only [reduceIte]
    · simp only [e, reduceIte]
theorem mv_ap {f : Int → Int} {n : Nat} {a k b : Int} : mv f n a k b = if b = a then k else if lon f k n ≠ -1 ∧ b = lon f k n then f a else f b := by
  unfold mv
  by_cases h : lon f k n = -1
  · rw [if_pos h]
    simp only [fu_ap, h, ne_eq, not_true_eq_false, false_and, reduceIte]
  · rw [if_neg h]
    simp only [fu_ap, h, ne_eq, not_false_eq_true, true_and]
/-- a setting stays one if a letter that isn't fixed goes to a key that none has fixed -/
theorem Sok_mv {n k a x : Int} {fo f : Int → Int} {N : Nat} (hN : (N : Int) = n) (h : Sok n k fo f) (ha : 0 ≤ a ∧ a < n) (hx : 0 ≤ x ∧ x < k) (hfa : fo a = -1) (hfx : ∀ b, 0 ≤ b → b < n → fo b ≠ x) : Sok n k fo (mv f N a x) := by
  obtain ⟨h1, h2, h3⟩ := h
  have hx1 : x ≠ -1 := by omega
  have hl := lon_cases f x N
  refine ⟨h1, fun b b0 b1 => ?_, fun b c b0 b1 c0 c1 e => ?_⟩
  · rw [mv_ap]
    obtain ⟨g1, g2, g3⟩ := h2 b b0 b1
    obtain ⟨i1, i2, i3⟩ := h2 a ha.1 ha.2
    by_cases e1 : b = a
    · rw [if_pos e1, e1]; exact ⟨hx.1, hx.2, fun q => absurd hfa q⟩
    · rw [if_neg e1]
      by_cases e2 : lon f x N ≠ -1 ∧ b = lon f x N
      · rw [if_pos e2]
        refine ⟨i1, i2, fun q => ?_⟩
        rcases hl with ⟨l1, -⟩ | ⟨l1, l2, l3, l4⟩
        · exact absurd l1 e2.1
        · rw [← e2.2] at l3
          rw [g3 q] at l3
          exact absurd l3 (hfx b b0 b1)
      · rw [if_neg e2]; exact ⟨g1, g2, g3⟩
  · rw [mv_ap, mv_ap] at e
    rcases hl with ⟨l1, l5⟩ | ⟨l1, l2, l3, l4⟩
    · by_cases eb : b = a
      · by_cases ec : c = a
        · omega
        · rw [if_pos eb, if_neg ec, if_neg (fun q => q.1 l1)] at e
          exact absurd e.symm (l5 c c0 (by omega))
      · by_cases ec : c = a
        · rw [if_neg eb, if_pos ec, if_neg (fun q => q.1 l1)] at e
          exact absurd e (l5 b b0 (by omega))
        · rw [if_neg eb, if_neg ec, if_neg (fun q => q.1 l1), if_neg (fun q => q.1 l1)] at e
          exact h3 b c b0 b1 c0 c1 e
    · have hz := h2 (lon f x N) l1 (by omega)
      have hu : ∀ d, 0 ≤ d → d < n → f d = x → d = lon f x N := fun d d0 d1 e => h3 d _ d0 d1 l1 (by omega) (e.trans l3.symm)
      have hne : lon f x N ≠ -1 := by omega
      by_cases eb : b = a
      · by_cases ec : c = a
        · omega
        · rw [if_pos eb, if_neg ec] at e
          by_cases ed : c = lon f x N
          · rw [if_pos ⟨hne, ed⟩] at e
            have := hu a ha.1 ha.2 e.symm
            omega
          · rw [if_neg (fun q => ed q.2)] at e
            exact absurd (hu c c0 c1 e.symm) ed
      · by_cases ec : c = a
        · rw [if_neg eb, if_pos ec] at e
          by_cases ed : b = lon f x N
          · rw [if_pos ⟨hne, ed⟩] at e
            have := hu a ha.1 ha.2 e
            omega
          · rw [if_neg (fun q => ed q.2)] at e
            exact absurd (hu b b0 b1 e) ed
        · rw [if_neg eb, if_neg ec] at e
          by_cases ed : b = lon f x N
          · by_cases ef : c = lon f x N
            · omega
            · rw [if_pos ⟨hne, ed⟩, if_neg (fun q => ef q.2)] at e
              have := h3 a c ha.1 ha.2 c0 c1 e
              omega
          · by_cases ef : c = lon f x N
            · rw [if_neg (fun q => ed q.2), if_pos ⟨hne, ef⟩] at e
              have := h3 b a b0 b1 ha.1 ha.2 e
              omega
            · rw [if_neg (fun q => ed q.2), if_neg (fun q => ef q.2)] at e
              exact h3 b c b0 b1 c0 c1 e
theorem e_put (x1 x2 : Int) (M : Mm) (hI : Inv M) : Same (wp_X7_put x1 x2) (wp_X8_put x1 x2) M := by
  obtain ⟨hn, hk, hg, hc, hf, hs, hd, ht, hz, hb, hp, hq, ho⟩ := id hI
  obtain ⟨n1, n2, k1, k2, e1, e2⟩ := id hn
  obtain ⟨s1, s2, s3⟩ := id hs
  by_cases hx : 0 ≤ x1 ∧ x1 < M 1 0 ∧ 0 ≤ x2 ∧ x2 < M 3 0
  · by_cases hp0 : M 4 4 = 0
    · unfold Same wp_X7_put wp_X3_has wp_X2_has wp_X8_put wp_X8_isLetter wp_X8_isKey wp_X8_in
      repeat' (first | with_reducible (apply And.intro) | with_reducible (intro _))
      all_goals (try first | omega | exact absurd trivial (by assumption) | exact False.elim (by assumption))
      all_goals (try (exact hI))
      all_goals (exfalso; omega)
    · obtain ⟨sk, sm⟩ := s3 hp0
      have hle : lon (M 38) x2 (M 8 0).toNat = lon (M 19) x2 (M 1 0).toNat := by
        rw [e1]; exact lon_congr (fun a a0 a1 => sm a a0 (by omega))
      have hl := lon_cases (M 19) x2 (M 1 0).toNat
      have h37 := (hf.1 x1 (by omega) (by omega))
      -- what the letter there has
      have hoth : lon (M 19) x2 (M 1 0).toNat ≠ -1 → (M 37 (lon (M 19) x2 (M 1 0).toNat) ≠ -1 ↔ M 10 x2 ≠ -1) := by
        intro q
        rcases hl with ⟨l1, -⟩ | ⟨l1, l2, l3, l4⟩
        · exact absurd l1 q
        · obtain ⟨g1, g2⟩ := hf.1 (lon (M 19) x2 (M 1 0).toNat) l1 (by omega)
          obtain ⟨t1, t2, t3⟩ := sk.2.1 (lon (M 19) x2 (M 1 0).toNat) l1 (by omega)
          constructor
          · intro q2
            rw [g1] at q2
            have e9 := t3 q2
            rcases g2 with g2 | ⟨-, -, -, g2⟩
            · exact absurd g2 q2
            · rw [← e9, l3] at g2; omega
          · intro q2
            rcases hf.2 x2 (by omega) (by omega) with g | ⟨a1, a2, a3⟩
            · exact absurd g q2
            · obtain ⟨u1, u2, u3⟩ := sk.2.1 (M 10 x2) a1 a2
              have e9 := u3 (by omega)
              have := sk.2.2 _ _ a1 a2 l1 (by omega) ((e9.trans a3).trans l3.symm)
              rw [← this, (hf.1 (M 10 x2) a1 (by omega)).1]
              omega
      have hnone : lon (M 19) x2 (M 1 0).toNat = -1 → M 10 x2 = -1 := by
        intro q
        rcases hl with ⟨l1, l2⟩ | ⟨l1, -⟩
        · rcases hf.2 x2 (by omega) (by omega) with g | ⟨a1, a2, a3⟩
          · exact g
          · obtain ⟨u1, u2, u3⟩ := sk.2.1 (M 10 x2) a1 a2
            exact absurd ((u3 (by omega)).trans a3) (l2 _ a1 (by omega))
        · omega
      by_cases hok : M 9 x1 = -1 ∧ M 10 x2 = -1
      · unfold Same wp_X7_put wp_X3_has wp_X2_has wp_X3_isFixed
        repeat' (first | with_reducible (apply And.intro) | with_reducible (intro _))
        all_goals (try first | omega | exact absurd trivial (by assumption) | exact False.elim (by assumption))
        refine s_move x1 x2 M _ (by omega) (by omega) ?_
        unfold wp_X8_put wp_X8_isLetter wp_X8_isKey wp_X8_in
        simp only [fu_ap, reduceIte, Nat.reduceEqDiff]
        repeat' (first | with_reducible (apply And.intro) | with_reducible (intro _))
        all_goals (try first | omega | exact absurd trivial (by assumption) | exact False.elim (by assumption))
        refine s_borne x2 _ _ (by simp only [fu_ap, reduceIte, Nat.reduceEqDiff]; omega) ?_
        simp only [fu_ap, reduceIte, Nat.reduceEqDiff, hle]
        have hfin : ∀ M2 : Mm, (∀ c, c ≠ 19 → c ≠ 38 → M2 c = M c) → M2 19 = mv (M 19) (M 1 0).toNat x1 x2 → (∀ a, 0 ≤ a → a < M 1 0 → M2 38 a = mv (M 19) (M 1 0).toNat x1 x2 a) → Inv M2 := by
          intro M2 p1 p2 p3
          unfold Inv
          simp only [p1, p2, ne_eq, Nat.reduceEqDiff, not_false_eq_true]
          refine ⟨hn, hk, hg, hc, hf, ⟨s1, s2, fun q => ⟨Sok_mv (by omega) sk (by omega) (by omega) hok.1 (fun b b0 b1 e => ?_), p3⟩⟩, hd, ht, hz, hb, hp, hq, ho⟩
          rcases (hf.1 b b0 (by omega)).2 with g2 | ⟨-, -, -, g2⟩
          · omega
          · rw [e] at g2; omega
        have h37' : M 37 x1 = -1 := by omega
        by_cases hz1 : lon (M 19) x2 (M 1 0).toNat = -1
        · refine ⟨by omega, fun q => absurd h37' q, fun _ => ⟨fun _ => ⟨fun _ => ⟨by omega, trivial, ?_⟩, fun q => absurd hz1 q⟩, fun q => absurd hz1 q⟩⟩
          refine hfin _ (fun c h1 h2 => ?_) ?_ (fun a a0 a1 => ?_)
          · simp only [mset_eq, fu_ap, h1, h2, reduceIte]
          · simp only [mset_eq, fu_ap, reduceIte, Nat.reduceEqDiff]
          · rw [mv_ap]
            simp only [mset_eq, fu_ap, reduceIte, Nat.reduceEqDiff]
            by_cases ea : a = x1
            · rw [if_pos ea, if_pos ea]
            · rw [if_neg ea, if_neg ea, if_neg (fun q => q.1 hz1), sm a a0 a1]
        · have hz2 : M 37 (lon (M 19) x2 (M 1 0).toNat) = -1 := by
            by_cases q : M 37 (lon (M 19) x2 (M 1 0).toNat) = -1
            · exact q
            · exact absurd hok.2 ((hoth hz1).mp q)
          have hr := hl.resolve_left (fun q => hz1 q.1)
          refine ⟨by omega, fun q => absurd h37' q, fun _ => ⟨fun q => absurd q hz1, fun _ => ⟨by omega, fun _ => ⟨fun q => absurd q hz1, fun _ => ⟨by omega, by omega, by omega, trivial, ?_⟩⟩, fun q => absurd hz2 q⟩⟩⟩
          refine hfin _ (fun c h1 h2 => ?_) ?_ (fun a a0 a1 => ?_)
          · simp only [mset_eq, fu_ap, h1, h2, reduceIte]
          · simp only [mset_eq, fu_ap, reduceIte, Nat.reduceEqDiff]
          · rw [mv_ap]
            simp only [mset_eq, fu_ap, reduceIte, Nat.reduceEqDiff]
            by_cases ea : a = x1
            · rw [if_pos ea, if_pos ea]
            · rw [if_neg ea, if_neg ea]
              by_cases eb : a = lon (M 19) x2 (M 1 0).toNat
              · rw [if_pos eb, if_pos ⟨hz1, eb⟩, sm x1 (by omega) (by omega)]
              · rw [if_neg eb, if_neg (fun q => eb q.2), sm a a0 a1]
      · have hfin : wp_X8_put x1 x2 M (fun r' M2 => -3 = r' ∧ Inv M2) := by
          unfold wp_X8_put wp_X8_isLetter wp_X8_isKey wp_X8_in
          repeat' (first | with_reducible (apply And.intro) | with_reducible (intro _))
          all_goals (try first | omega | exact absurd trivial (by assumption) | exact False.elim (by assumption))
          refine s_borne x2 _ _ (by omega) ?_
          rw [hle]
          by_cases hz1 : lon (M 19) x2 (M 1 0).toNat = -1
          · have h10 := hnone hz1
            refine ⟨by omega, fun q => ⟨rfl, hI⟩, fun q => ?_⟩
            exfalso; omega
          · have hr := hl.resolve_left (fun q => hz1 q.1)
            have hiff := hoth hz1
            refine ⟨by omega, fun q => ⟨rfl, hI⟩, fun q => ⟨fun q1 => absurd q1 hz1, fun _ => ⟨by omega, fun q2 => ?_, fun q2 => ⟨rfl, hI⟩⟩⟩⟩
            exfalso
            have : M 10 x2 = -1 := by
              by_cases q3 : M 10 x2 = -1
              · exact q3
              · exact absurd q2 (hiff.mpr q3)
            omega
        unfold Same wp_X7_put wp_X3_has wp_X2_has wp_X3_isFixed
        repeat' (first | with_reducible (apply And.intro) | with_reducible (intro _))
        all_goals (try first | omega | exact absurd trivial (by assumption) | exact False.elim (by assumption))
        all_goals exact hfin
  · unfold Same wp_X7_put wp_X3_has wp_X2_has wp_X8_put wp_X8_isLetter wp_X8_isKey wp_X8_in
    repeat' (first | with_reducible (apply And.intro) | with_reducible (intro _))
    all_goals (try first | omega | exact absurd trivial (by assumption) | exact False.elim (by assumption))
    all_goals (try (exact hI))
    all_goals (exfalso; omega)
