def Fr (M0 M : Mm) : Prop := (∀ c, c ≠ 4 → M c = M0 c) ∧ (∀ j, j ≠ 5 → j ≠ 6 → j ≠ 7 → M 4 j = M0 4 j)
def Cst3 (s : St3) (M : Mm) : Prop := M 4 5 = s.1 ∧ (s.1 < 0 → M 4 6 = s.2.1 ∧ M 4 7 = s.2.2)
/-- the class's cells that bettering reads -/
def Cm (M : Mm) (O G : Int → Int → Int) (n k : Int) (fo f : Int → Int) : Prop := M 1 0 = n ∧ M 3 0 = k ∧ Oc1 M = O ∧ Gc1 M = G ∧ M 9 = fo ∧ M 19 = f ∧ ∀ j, 0 ≤ j → j < 12 → M 10 j = -1 ∨ (0 ≤ M 10 j ∧ M 10 j < n ∧ fo (M 10 j) = j)
theorem Cm_fr {M0 M : Mm} {O G : Int → Int → Int} {n k : Int} {fo f : Int → Int} (h : Cm M0 O G n k fo f) (hF : Fr M0 M) : Cm M O G n k fo f := by
  unfold Cm Oc1 Gc1 at *
  rw [hF.1 1 (by decide), hF.1 3 (by decide), hF.1 13 (by decide), hF.1 17 (by decide), hF.1 9 (by decide), hF.1 19 (by decide), hF.1 10 (by decide)]
  exact h
theorem s_weigh {O G : Int → Int → Int} {n k : Int} {fo f : Int → Int} (hc : Bx O G n k fo f) (a y : Int) (M0 M : Mm) (hm : Cm M0 O G n k fo f) (hF : Fr M0 M) (s : St3) (hs : Cst3 s M) (hv : Vs O G n k fo f s) (ok : Ok2 n k fo f a y) (Q : Mm → Prop) (h : ∀ M', Fr M0 M' → Cst3 (wg O G n f a y s) M' → Q M') : wp_X5_weigh a y M Q := by
  obtain ⟨m1, m2, m3, m4, m5, m6, m7⟩ := Cm_fr hm hF
  have hn1 := hc.n1
  have hn2 := hc.n2
  have hk2 := hc.k2
  have hK := Sok_Kin hc.sk
  have hcb := chg_b hc ok
  obtain ⟨o1, o2, o3, o4, o5, o6⟩ := id ok
  refine s_changeBy a y M _ (by omega) (by omega) (fun b b0 b1 => by rw [m6]; have := hK b b0 (by omega); omega) (by omega) (by rw [m6, m1]; exact hc.sk.2.2) ?_
  rw [m3, m4, m6, m1]
  show ((lR (chg O G n f a y) ∧ lR (M 4 5)) ∨ _) ∧ (M 4 5 ≤ chg O G n f a y → Q M) ∧ (¬ (M 4 5 ≤ chg O G n f a y) → lR (chg O G n f a y) ∧ Q (mset (mset (mset M 4 5 (chg O G n f a y)) 4 6 a) 4 7 y))
  obtain ⟨s1, s2⟩ := hs
  obtain ⟨v1, v2, v3⟩ := hv
  refine ⟨Or.inl ⟨⟨by omega, by omega⟩, ⟨by omega, by omega⟩⟩, fun q => h M hF ?_, fun q => ⟨⟨by omega, by omega⟩, h _ ⟨fun c hc' => ?_, fun j j5 j6 j7 => ?_⟩ ?_⟩⟩
  · unfold wg
    rw [if_neg (by omega)]
    exact ⟨s1, s2⟩
  · simp only [mset_eq, fu_ap, hc', reduceIte]; exact hF.1 c hc'
  · simp only [mset_eq, fu_ap, j5, j6, j7, reduceIte]; exact hF.2 j j5 j6 j7
  · unfold wg
    rw [if_pos (by omega)]
    exact ⟨rfl, fun _ => ⟨rfl, rfl⟩⟩
theorem s_weighX {O G : Int → Int → Int} {n k : Int} {fo f : Int → Int} (hc : Bx O G n k fo f) (a : Int) (M0 M : Mm) (hm : Cm M0 O G n k fo f) (hF : Fr M0 M) (s : St3) (hs : Cst3 s M) (hv : Vs O G n k fo f s) (ha : 0 ≤ a ∧ a < n) (Q : Mm → Prop) (h : ∀ M', Fr M0 M' → Cst3 (gX O G n fo f a s) M' → Q M') : wp_X5_weighExchanges a M Q := by
  have hn2 := hc.n2
  obtain ⟨m1, m2, m3, m4, m5, m6, m7⟩ := Cm_fr hm hF
  unfold wp_X5_weighExchanges wp_X3_isFixed
  rw [m5]
  refine ⟨by omega, fun q => ⟨fun _ => ⟨by omega, ?_⟩, fun q1 => absurd rfl q1⟩, fun q => ⟨fun q1 => absurd q1 (by decide), fun _ => ?_⟩⟩
  · unfold gX at h
    rw [if_pos q] at h
    refine LP1.of (b := bc_X5_weighExchanges_L16 a Q) (fun b B => Fr M0 B ∧ a < b ∧ b ≤ n ∧ ∃ t, Cst3 t B ∧ Vs O G n k fo f t ∧ fl (gx O G n fo f a) (n - b).toNat b t = fl (gx O G n fo f a) (n - (a + 1)).toNat (a + 1) s) (fun b _ => (n - b).toNat) ?_ (a + 1) M ⟨hF, by omega, by omega, s, hs, hv, rfl⟩
    rintro R b B ⟨hB, b0, b1, t, ht, hvt, he⟩ ih
    obtain ⟨c1, c2, c3, c4, c5, c6, c7⟩ := Cm_fr hm hB
    unfold bc_X5_weighExchanges_L16 wp_X3_isFixed
    rw [c1, c5]
    refine ⟨fun q1 => h B hB ?_, fun q1 => ⟨by omega, fun q2 => ⟨fun q3 => absurd rfl q3, fun _ => ⟨by omega, ?_⟩⟩, fun q2 => ⟨fun _ => ⟨by omega, ih _ _ ⟨hB, by omega, by omega, t, ht, hvt, ?_⟩ (by omega)⟩, fun q3 => absurd q3 (by decide)⟩⟩⟩
    · rw [← he, fl_end q1]; exact ht
    · show wp_X5_weigh a (B 19 b) B _
      rw [c6]
      have ok : Ok2 n k fo f a (f b) := Ok2_x hc.sk ha.1 ha.2 (by omega) (by omega) q q2
      refine s_weigh hc a (f b) M0 B hm hB t ht hvt ok _ (fun M' f1 f2 => ⟨by omega, ih _ _ ⟨f1, by omega, by omega, _, f2, Vs_wg hc ok hvt, ?_⟩ (by omega)⟩)
      rw [← he, fl_step (i := b) (by omega)]
      rw [show gx O G n fo f a b t = wg O G n f a (f b) t from if_pos q2]
    · rw [← he, fl_step (i := b) (by omega)]
      rw [show gx O G n fo f a b t = t from if_neg q2]
  · refine h M hF ?_
    unfold gX
    rw [if_neg q]
    exact hs
theorem s_weighG {O G : Int → Int → Int} {n k : Int} {fo f : Int → Int} (hc : Bx O G n k fo f) (a : Int) (M0 M : Mm) (hm : Cm M0 O G n k fo f) (hF : Fr M0 M) (s : St3) (hs : Cst3 s M) (hv : Vs O G n k fo f s) (ha : 0 ≤ a ∧ a < n) (Q : Mm → Prop) (h : ∀ M', Fr M0 M' → Cst3 (gG O G n k fo f a s) M' → Q M') : wp_X5_weighGoings a M Q := by
  have hn2 := hc.n2
  have hk1 := hc.k1
  have hk2 := hc.k2
  obtain ⟨m1, m2, m3, m4, m5, m6, m7⟩ := Cm_fr hm hF
  unfold wp_X5_weighGoings wp_X3_isFixed
  rw [m5]
  refine ⟨by omega, fun q => ⟨fun _ => ?_, fun q1 => absurd rfl q1⟩, fun q => ⟨fun q1 => absurd q1 (by decide), fun _ => ?_⟩⟩
  · unfold gG at h
    rw [if_pos q] at h
    refine LP1.of (b := bc_X5_weighGoings_L14 a Q) (fun b B => Fr M0 B ∧ 0 ≤ b ∧ b ≤ k ∧ ∃ t, Cst3 t B ∧ Vs O G n k fo f t ∧ fl (gg O G n f a) (k - b).toNat b t = fl (gg O G n f a) (k - 0).toNat 0 s) (fun b _ => (k - b).toNat) ?_ 0 M ⟨hF, by omega, by omega, s, hs, hv, rfl⟩
    rintro R b B ⟨hB, b0, b1, t, ht, hvt, he⟩ ih
    obtain ⟨c1, c2, c3, c4, c5, c6, c7⟩ := Cm_fr hm hB
    have hskip : ¬ k ≤ b → ¬ lon f b n.toNat = -1 → iR (b + 1) ∧ R (b + 1) B := by
      intro q1 q2
      refine ⟨by omega, ih _ _ ⟨hB, by omega, by omega, t, ht, hvt, ?_⟩ (by omega)⟩
      rw [← he, fl_step (i := b) (by omega)]
      rw [show gg O G n f a b t = t from if_neg q2]
    unfold bc_X5_weighGoings_L14 wp_X3_allow wp_X3_isFixed
    rw [c2, c5]
    refine ⟨fun q1 => h B hB ?_, fun q1 => ⟨by omega, fun q2 => ⟨fun _ => ⟨by omega, fun q3 => ⟨fun _ => hskip q1 (fun e => ?_), fun q4 => absurd rfl q4⟩, fun q3 => ⟨fun q4 => absurd q4 (by decide), fun _ => ?_⟩⟩, fun q3 => absurd rfl q3⟩, fun q2 => absurd q q2⟩⟩
    · rw [← he, fl_end q1]; exact ht
    · rcases c7 b b0 (by omega) with g | ⟨g1, g2, g3⟩
      · exact q3 g
      · have u := hc.sk.2.1 (B 10 b) g1 g2
        rcases lon_cases f b n.toNat with ⟨l1, l2⟩ | ⟨l1, -⟩
        · exact l2 (B 10 b) g1 (by omega) ((u.2.2 (by omega)).trans g3)
        · omega
    · refine s_letterOn b B _ (by omega) ?_
      rw [c6, c1]
      refine ⟨fun q4 => hskip q1 q4, fun q4 => ?_⟩
      have ok : Ok2 n k fo f a b := Ok2_g hc.sk ha.1 ha.2 b0 (by omega) q q4
      refine s_weigh hc a b M0 B hm hB t ht hvt ok _ (fun M' f1 f2 => ⟨by omega, ih _ _ ⟨f1, by omega, by omega, _, f2, Vs_wg hc ok hvt, ?_⟩ (by omega)⟩)
      rw [← he, fl_step (i := b) (by omega)]
      rw [show gg O G n f a b t = wg O G n f a b t from if_pos q4]
  · refine h M hF ?_
    unfold gG
    rw [if_neg q]
    exact hs
theorem s_findBest {O G : Int → Int → Int} {n k : Int} {fo f : Int → Int} (hc : Bx O G n k fo f) (M : Mm) (hm : Cm M O G n k fo f) (Q : Int → Mm → Prop) (h : ∀ M', Fr M M' → Cst3 (FB O G n k fo f) M' → ((FB O G n k fo f).1 < 0 → Q 1 M') ∧ (¬ (FB O G n k fo f).1 < 0 → Q 0 M')) : wp_X5_findBestChange M Q := by
  have hn1 := hc.n1
  have hn2 := hc.n2
  unfold wp_X5_findBestChange
  refine LP1.of (b := bc_X5_findBestChange_L7 Q _) (fun b B => Fr M B ∧ 0 ≤ b ∧ b ≤ n ∧ ∃ t, Cst3 t B ∧ Vs O G n k fo f t ∧ fl (gX O G n fo f) (n - b).toNat b t = FX O G n fo f) (fun b _ => (n - b).toNat) ?_ 0 _ ⟨⟨fun c hc' => ?_, fun j j5 j6 j7 => ?_⟩, by omega, by omega, (0, 0, 0), ⟨rfl, fun q => absurd q (by show ¬ (0 : Int) < 0; omega)⟩, Vs_0, rfl⟩
  · rintro R b B ⟨hB, b0, b1, t, ht, hvt, he⟩ ih
    have c1 := (Cm_fr hm hB).1
    unfold bc_X5_findBestChange_L7
    rw [c1]
    refine ⟨fun q => ?_, fun q => s_weighX hc b M B hm hB t ht hvt (by omega) _ (fun M' f1 f2 => ⟨by omega, ih _ _ ⟨f1, by omega, by omega, _, f2, Vs_gX hc (by omega) (by omega) hvt, ?_⟩ (by omega)⟩)⟩
    · rw [fl_end q] at he
      subst he
      refine LP1.of (b := bc_X5_findBestChange_L31 Q) (fun b B => Fr M B ∧ 0 ≤ b ∧ b ≤ n ∧ ∃ t, Cst3 t B ∧ Vs O G n k fo f t ∧ fl (gG O G n k fo f) (n - b).toNat b t = FB O G n k fo f) (fun b _ => (n - b).toNat) ?_ 0 B ⟨hB, by omega, by omega, _, ht, hvt, rfl⟩
      rintro R b B ⟨hB, b0, b1, t, ht, hvt, he⟩ ih
      have c1 := (Cm_fr hm hB).1
      unfold bc_X5_findBestChange_L31
      rw [c1]
      refine ⟨fun q => ?_, fun q => s_weighG hc b M B hm hB t ht hvt (by omega) _ (fun M' f1 f2 => ⟨by omega, ih _ _ ⟨f1, by omega, by omega, _, f2, Vs_gG hc (by omega) (by omega) hvt, ?_⟩ (by omega)⟩)⟩
      · rw [fl_end q] at he
        subst he
        obtain ⟨h1, h2⟩ := h B hB ht
        have t1 := ht.1
        refine ⟨fun q1 => h2 (by omega), fun q1 => h1 (by omega)⟩
      · rw [← he, fl_step (i := b) (by omega)]
    · rw [← he, fl_step (i := b) (by omega)]
  · simp only [mset_eq, fu_ap, hc', reduceIte]
  · simp only [mset_eq, fu_ap, j5, reduceIte]
theorem s_bettering {O G : Int → Int → Int} {n k : Int} {fo : Int → Int} (D : Nat) (g : Int → Int) (f : Int → Int) (hc : Bx O G n k fo f) (hb : Bt O G n k fo D f g) (hD : (D : Int) ≤ 7176000) (M : Mm) (hm : Cm M O G n k fo f) (Q : Int → Mm → Prop) (h : ∀ M', (∀ c, c ≠ 4 → c ≠ 19 → M' c = M c) → (∀ j, j ≠ 5 → j ≠ 6 → j ≠ 7 → M' 4 j = M 4 j) → M' 19 = g → Q D M') : wp_X5_betterToTheEnd M Q := by
  have hn1 := hc.n1
  have hn2 := hc.n2
  refine LP1.of (b := bc_X5_betterToTheEnd_L2 Q) (fun x B => (∀ c, c ≠ 4 → c ≠ 19 → B c = M c) ∧ (∀ j, j ≠ 5 → j ≠ 6 → j ≠ 7 → B 4 j = M 4 j) ∧ ∃ (d : Nat) (e : Int → Int), x + d = D ∧ 0 ≤ x ∧ Bx O G n k fo e ∧ Bt O G n k fo d e g ∧ Cm B O G n k fo e) (fun x _ => (D - x).toNat) ?_ 0 M ⟨fun _ _ _ => rfl, fun _ _ _ _ => rfl, D, f, by omega, by omega, hc, hb, hm⟩
  rintro R x B ⟨f1, f2, d, e, hx, x0, hce, hbe, hme⟩ ih
  unfold bc_X5_betterToTheEnd_L2
  refine ⟨fun q => ?_, fun q => s_findBest hce B hme _ (fun M' g1 g2 => ⟨fun q1 => ⟨fun q2 => absurd q2 (by decide), fun _ => ?_⟩, fun q1 => ⟨fun _ => ?_, fun q2 => absurd rfl q2⟩⟩)⟩
  · cases d with
    | zero =>
      obtain ⟨b1, b2⟩ := hbe
      rw [show x = D by omega]
      exact h B f1 f2 (by rw [b2]; exact hme.2.2.2.2.2.1)
    | succ d => omega
  · cases d with
    | zero => exact absurd q1 hbe.1
    | succ d =>
      obtain ⟨b1, b2⟩ := hbe
      obtain ⟨v1, v2, v3⟩ := Vs_FB hce
      obtain ⟨v4, v5⟩ := v3 q1
      obtain ⟨g3, g4⟩ := g2.2 q1
      have hm' := Cm_fr hme g1
      obtain ⟨c1, c2, c3, c4, c5, c6, c7⟩ := id hm'
      rw [g3, g4]
      refine s_move _ _ M' _ (by omega) (by have := v4.1; have := v4.2.1; omega) ⟨by omega, ih _ _ ⟨fun c h1 h2 => ?_, fun j h1 h2 h3 => ?_, d, _, by push_cast at hx; omega, by omega, Bx_mv hce v4, b2, ?_⟩ (by push_cast at hx; omega)⟩
      · simp only [fu_ap, h2, reduceIte]
        rw [g1.1 c h1]; exact f1 c h1 h2
      · simp only [fu_ap, reduceIte, Nat.reduceEqDiff]
        rw [g1.2 j h1 h2 h3]; exact f2 j h1 h2 h3
      · unfold Cm Oc1 Gc1 at *
        simp only [fu_ap, reduceIte, Nat.reduceEqDiff]
        exact ⟨c1, c2, c3, c4, c5, by rw [c6, c1], c7⟩
  · cases d with
    | zero =>
      obtain ⟨b1, b2⟩ := hbe
      rw [show x = D by omega]
      refine h M' (fun c h1 h2 => (g1.1 c h1).trans (f1 c h1 h2)) (fun j h1 h2 h3 => (g1.2 j h1 h2 h3).trans (f2 j h1 h2 h3)) ?_
      rw [g1.1 19 (by decide), b2]; exact hme.2.2.2.2.2.1
    | succ d => exact absurd hbe.1 q1
