theorem mv_free {f : Int → Int} {n : Nat} {a y c : Int} (h : lon f y n = -1) : mv f n a y c = if c = a then y else f c := by
  unfold mv
  rw [if_pos h, fu_ap]
def Ms (n : Int) (f : Int → Int) (now : Int) (s : St3) (x5 x7 x8 x9 : Int) : Prop := x5 = now + s.1 ∧ (s.1 < 0 → x7 = s.2.1 ∧ (x9 = 0 → 0 ≤ x8 ∧ x8 < n ∧ x8 ≠ x7 ∧ f x8 = s.2.2) ∧ (x9 ≠ 0 → x8 = s.2.2 ∧ lon f x8 n.toNat = -1))
def Mo (M : Mm) (O G : Int → Int → Int) (n k : Int) (fo f : Int → Int) : Prop := Md M n k O G ∧ (∀ a, 0 ≤ a → a < n → M 37 a = fo a) ∧ (∀ a, 0 ≤ a → a < n → M 38 a = f a)
theorem mset_back (M : Mm) (c : Nat) (k v : Int) : mset (mset M c k v) c k (M c k) = M := by
  funext d j
  simp only [mset_eq, fu_ap]
  by_cases e : d = c
  · subst e
    simp only [reduceIte, fu_ap]
    by_cases e2 : j = k
    · rw [if_pos e2, e2]
    · rw [if_neg e2, if_neg e2]
  · simp only [e, reduceIte]
theorem Ms_wg {O G : Int → Int → Int} {n : Int} {f : Int → Int} {now : Int} {t : St3} {x5 x7 x8 x9 : Int} (a y : Int) (hm : Ms n f now t x5 x7 x8 x9) : (x5 ≤ now + chg O G n f a y → Ms n f now (wg O G n f a y t) x5 x7 x8 x9) ∧ (¬ x5 ≤ now + chg O G n f a y → (wg O G n f a y t) = (chg O G n f a y, a, y)) := by
  obtain ⟨h1, h2⟩ := hm
  refine ⟨fun q => ?_, fun q => ?_⟩
  · unfold wg
    rw [if_neg (by omega)]
    exact ⟨h1, h2⟩
  · unfold wg
    rw [if_pos (by omega)]
theorem m_exch {O G : Int → Int → Int} {n k : Int} {fo f : Int → Int} (hc : Bx O G n k fo f) (a : Int) (M : Mm) (hm : Mo M O G n k fo f) (s : St3) (x1 x3 x5 x7 x8 : Int) (hs : Ms n f (wc O G n.toNat f) s x5 x7 x8 0) (hv : Vs O G n k fo f s) (ha : 0 ≤ a ∧ a < n) (Q : Int → Mm → Prop) (K : Int → Int → Int → Mm → Prop) (h : ∀ y5 y7 y8, Ms n f (wc O G n.toNat f) (gX O G n fo f a s) y5 y7 y8 0 → K y5 y7 y8 M) : wp_X8_better_L53 x1 x3 0 a Q K x5 x7 x8 (a + 1) M := by
  have hn2 := hc.n2
  have hw := hc.wb f (Sok_Kin hc.sk)
  obtain ⟨hM, h37, h38⟩ := id hm
  have m1 := hM.1
  have m37 := h37 a ha.1 ha.2
  refine LP4.of (b := bc_X8_better_L53 x1 x3 0 a Q K) (fun x5 x7 x8 b B => B = M ∧ a < b ∧ b ≤ n ∧ ∃ t, Ms n f (wc O G n.toNat f) t x5 x7 x8 0 ∧ Vs O G n k fo f t ∧ (fo a = -1 → fl (gx O G n fo f a) (n - b).toNat b t = gX O G n fo f a s) ∧ (¬ fo a = -1 → t = gX O G n fo f a s)) (fun _ _ _ b _ => (n - b).toNat) ?_ x5 x7 x8 (a + 1) M ⟨rfl, by omega, by omega, s, hs, hv, fun q => (if_pos q).symm, fun q => (if_neg q).symm⟩
  rintro R x5 x7 x8 b B ⟨rfl, b0, b1, t, ht, hvt, he1, he2⟩ ih
  unfold bc_X8_better_L53
  rw [m1, m37]
  refine ⟨fun q => h _ _ _ ?_, fun q => ⟨by omega, fun q1 => h _ _ _ ?_, fun q1 => ⟨by omega, ?_⟩⟩⟩
  · by_cases e : fo a = -1
    · rw [← he1 e, fl_end q]; exact ht
    · rw [← he2 e]; exact ht
  · rw [← he2 q1]; exact ht
  · rw [h37 b (by omega) (by omega)]
    refine ⟨fun q2 => ⟨by omega, ih _ _ _ _ _ ⟨rfl, by omega, by omega, t, ht, hvt, fun _ => ?_, fun e => absurd q1 e⟩ (by omega)⟩, fun q2 => ?_⟩
    · rw [← he1 q1, fl_step (i := b) (by omega), show gx O G n fo f a b t = t from if_neg q2]
    · have ok : Ok2 n k fo f a (f b) := Ok2_x hc.sk ha.1 ha.2 (by omega) (by omega) q1 q2
      have hcb := chg_b hc ok
      have hw2 : wc O G n.toNat (mv f n.toNat a (f b)) = wc O G n.toNat f + chg O G n f a (f b) := by unfold chg; omega
      obtain ⟨w1, w2⟩ := Ms_wg (O := O) (G := G) a (f b) ht
      have hv2 := Vs_wg hc ok hvt
      have hfl : fl (gx O G n fo f a) (n - (b + 1)).toNat (b + 1) (wg O G n f a (f b) t) = gX O G n fo f a s := by
        rw [← he1 q1, fl_step (i := b) (by omega), show gx O G n fo f a b t = wg O G n f a (f b) t from if_pos q2]
      have ht1 := ht.1
      refine s_exTry a b B (fun z1 M3 => ((lR z1 ∧ lR x5) ∨ z1 = x5) ∧ (x5 ≤ z1 → iR (b + 1) ∧ R x5 x7 x8 (b + 1) M3) ∧ (¬ (x5 ≤ z1) → iR (b + 1) ∧ R z1 a b (b + 1) M3)) hM h38 (Sok_Kin hc.sk) hc.sk.2.2 ha (by omega) (by omega) ?_
      rw [hw2]
      obtain ⟨v1, v2, v3⟩ := id hvt
      refine ⟨Or.inl ⟨⟨by omega, by omega⟩, ⟨by omega, by omega⟩⟩, fun q3 => ⟨by omega, ih _ _ _ _ _ ⟨rfl, by omega, by omega, _, w1 q3, hv2, fun _ => hfl, fun e => absurd q1 e⟩ (by omega)⟩, fun q3 => ⟨by omega, ih _ _ _ _ _ ⟨rfl, by omega, by omega, _, ?_, hv2, fun _ => hfl, fun e => absurd q1 e⟩ (by omega)⟩⟩
      rw [w2 q3]
      exact ⟨rfl, fun _ => ⟨rfl, fun _ => ⟨by omega, by omega, by show b ≠ a; omega, rfl⟩, fun e => absurd rfl e⟩⟩
theorem m_going {O G : Int → Int → Int} {n k : Int} {fo f : Int → Int} (hc : Bx O G n k fo f) (a : Int) (M : Mm) (hm : Mo M O G n k fo f) (s : St3) (x1 x3 x5 x7 x8 x9 : Int) (hs : Ms n f (wc O G n.toNat f) s x5 x7 x8 x9) (hv : Vs O G n k fo f s) (ha : 0 ≤ a ∧ a < n) (Q : Int → Mm → Prop) (K : Int → Int → Int → Int → Mm → Prop) (h : ∀ y5 y7 y8 y9, Ms n f (wc O G n.toNat f) (gG O G n k fo f a s) y5 y7 y8 y9 → K y5 y7 y8 y9 M) : wp_X8_better_L153 x1 x3 a Q K x5 x7 x8 x9 0 M := by
  have hn2 := hc.n2
  have hk1 := hc.k1
  have hk2 := hc.k2
  have hw := hc.wb f (Sok_Kin hc.sk)
  obtain ⟨hM, h37, h38⟩ := id hm
  have m1 := hM.1
  have m2 := hM.2.1
  have m37 := h37 a ha.1 ha.2
  refine LP5.of (b := bc_X8_better_L153 x1 x3 a Q K) (fun x5 x7 x8 x9 b B => B = M ∧ 0 ≤ b ∧ b ≤ k ∧ ∃ t, Ms n f (wc O G n.toNat f) t x5 x7 x8 x9 ∧ Vs O G n k fo f t ∧ (fo a = -1 → fl (gg O G n f a) (k - b).toNat b t = gG O G n k fo f a s) ∧ (¬ fo a = -1 → t = gG O G n k fo f a s)) (fun _ _ _ _ b _ => (k - b).toNat) ?_ x5 x7 x8 x9 0 M ⟨rfl, by omega, by omega, s, hs, hv, fun q => (if_pos q).symm, fun q => (if_neg q).symm⟩
  rintro R x5 x7 x8 x9 b B ⟨rfl, b0, b1, t, ht, hvt, he1, he2⟩ ih
  unfold bc_X8_better_L153
  rw [m2, m37]
  refine ⟨fun q => h _ _ _ _ ?_, fun q => ⟨by omega, fun q1 => h _ _ _ _ ?_, fun q1 => ?_⟩⟩
  · by_cases e : fo a = -1
    · rw [← he1 e, fl_end q]; exact ht
    · rw [← he2 e]; exact ht
  · rw [← he2 q1]; exact ht
  · refine s_borne b B _ (by omega) ?_
    rw [show lon (B 38) b (B 8 0).toNat = lon f b n.toNat by rw [m1]; exact lon_congr (fun c c0 c1 => h38 c c0 (by omega))]
    refine ⟨fun q2 => ⟨by omega, ih _ _ _ _ _ _ ⟨rfl, by omega, by omega, t, ht, hvt, fun _ => ?_, fun e => absurd q1 e⟩ (by omega)⟩, fun q2 => ⟨by omega, by omega, ?_⟩⟩
    · rw [← he1 q1, fl_step (i := b) (by omega), show gg O G n f a b t = t from if_neg q2]
    · have ok : Ok2 n k fo f a b := Ok2_g hc.sk ha.1 ha.2 b0 (by omega) q1 q2
      have hcb := chg_b hc ok
      have hw2 : wc O G n.toNat (mv f n.toNat a b) = wc O G n.toNat f + chg O G n f a b := by unfold chg; omega
      obtain ⟨w1, w2⟩ := Ms_wg (O := O) (G := G) a b ht
      have hv2 := Vs_wg hc ok hvt
      have hfl : fl (gg O G n f a) (k - (b + 1)).toNat (b + 1) (wg O G n f a b t) = gG O G n k fo f a s := by
        rw [← he1 q1, fl_step (i := b) (by omega), show gg O G n f a b t = wg O G n f a b t from if_pos q2]
      have ht1 := ht.1
      refine s_costAll (mset B 38 a b) _ (Md_fr hM rfl rfl rfl rfl rfl rfl) (f := mv f n.toNat a b) (fun c c0 c1 => ?_) (Kin_mv (Sok_Kin hc.sk) ha ⟨b0, by omega⟩) ?_
      · rw [mv_free q2]
        simp only [mset_eq, fu_ap, reduceIte]
        rw [h38 c c0 c1]
      · rw [mset_back, hw2]
        obtain ⟨v1, v2, v3⟩ := id hvt
        refine ⟨by omega, Or.inl ⟨⟨by omega, by omega⟩, ⟨by omega, by omega⟩⟩, fun q3 => ⟨by omega, ih _ _ _ _ _ _ ⟨rfl, by omega, by omega, _, w1 q3, hv2, fun _ => hfl, fun e => absurd q1 e⟩ (by omega)⟩, fun q3 => ⟨by omega, ih _ _ _ _ _ _ ⟨rfl, by omega, by omega, _, ?_, hv2, fun _ => hfl, fun e => absurd q1 e⟩ (by omega)⟩⟩
        rw [w2 q3]
        exact ⟨rfl, fun _ => ⟨rfl, fun e => absurd e (by decide), fun _ => ⟨rfl, q2⟩⟩⟩
theorem m_better {O G : Int → Int → Int} {n k : Int} {fo : Int → Int} (D : Nat) (g : Int → Int) (f : Int → Int) (hc : Bx O G n k fo f) (hb : Bt O G n k fo D f g) (hD : (D : Int) ≤ 7176000) (M : Mm) (hm : Mo M O G n k fo f) (Q : Int → Mm → Prop) (h : ∀ M', (∀ c, c ≠ 38 → M' c = M c) → (∀ a, 0 ≤ a → a < n → M' 38 a = g a) → Q D M') : wp_X8_better_L14 Q 0 1 M := by
  have hn1 := hc.n1
  have hn2 := hc.n2
  refine LP2.of (b := bc_X8_better_L14 Q) (fun x m B => (∀ c, c ≠ 38 → B c = M c) ∧ ((m = 0 ∧ x = D ∧ ∀ a, 0 ≤ a → a < n → B 38 a = g a) ∨ (m = 1 ∧ ∃ (d : Nat) (e : Int → Int), x + d = D ∧ 0 ≤ x ∧ Bx O G n k fo e ∧ Bt O G n k fo d e g ∧ Mo B O G n k fo e))) (fun x m _ => if m = 0 then 0 else (D - x).toNat + 1) ?_ 0 1 M ⟨fun _ _ => rfl, Or.inr ⟨rfl, D, f, by omega, by omega, hc, hb, hm⟩⟩
  rintro R x m B ⟨f1, hx⟩ ih
  unfold bc_X8_better_L14
  rcases hx with ⟨rfl, rfl, hg⟩ | ⟨rfl, d, e, hx, x0, hce, hbe, hme⟩
  · exact ⟨fun _ => h B f1 hg, fun q => absurd rfl q⟩
  · refine ⟨fun q => absurd q (by decide), fun _ => ?_⟩
    obtain ⟨hM, h37, h38⟩ := id hme
    have m1 := hM.1
    have hwe := hce.wb e (Sok_Kin hce.sk)
    refine s_costAll B _ hM h38 (Sok_Kin hce.sk) ?_
    unfold wp_X8_better_L38
    refine LP4.of (b := bc_X8_better_L38 x (wc O G n.toNat e) 0 Q _) (fun x5 x7 x8 a C => C = B ∧ 0 ≤ a ∧ a ≤ n ∧ ∃ t, Ms n e (wc O G n.toNat e) t x5 x7 x8 0 ∧ Vs O G n k fo e t ∧ fl (gX O G n fo e) (n - a).toNat a t = FX O G n fo e) (fun _ _ _ a _ => (n - a).toNat) ?_ _ _ _ _ _ ⟨rfl, by omega, by omega, (0, 0, 0), ⟨by show wc O G n.toNat e = wc O G n.toNat e + 0; omega, fun q => absurd q (by show ¬ (0 : Int) < 0; omega)⟩, Vs_0, rfl⟩
    rintro R1 x5 x7 x8 a C ⟨rfl, a0, a1, t, ht, hvt, he⟩ ih1
    unfold bc_X8_better_L38
    rw [m1]
    refine ⟨fun q => ?_, fun q => ⟨by omega, m_exch hce a C hme t _ _ _ _ _ ht hvt (by omega) Q _ (fun y5 y7 y8 hy => ⟨by omega, ih1 _ _ _ _ _ ⟨rfl, by omega, by omega, _, hy, Vs_gX hce (by omega) (by omega) hvt, ?_⟩ (by omega)⟩)⟩⟩
    · rw [fl_end q] at he
      subst he
      unfold wp_X8_better_L141
      refine LP5.of (b := bc_X8_better_L141 x (wc O G n.toNat e) Q _) (fun x5 x7 x8 x9 a B => B = C ∧ 0 ≤ a ∧ a ≤ n ∧ ∃ t, Ms n e (wc O G n.toNat e) t x5 x7 x8 x9 ∧ Vs O G n k fo e t ∧ fl (gG O G n k fo e) (n - a).toNat a t = FB O G n k fo e) (fun _ _ _ _ a _ => (n - a).toNat) ?_ _ _ _ _ _ _ ⟨rfl, by omega, by omega, _, ht, hvt, rfl⟩
      rintro R2 x5 x7 x8 x9 a B ⟨rfl, a0, a1, t, ht, hvt, he⟩ ih2
      unfold bc_X8_better_L141
      rw [m1]
      refine ⟨fun q => ?_, fun q => m_going hce a B hme t _ _ _ _ _ _ ht hvt (by omega) Q _ (fun y5 y7 y8 y9 hy => ⟨by omega, ih2 _ _ _ _ _ _ ⟨rfl, by omega, by omega, _, hy, Vs_gG hce (by omega) (by omega) hvt, ?_⟩ (by omega)⟩)⟩
      · rw [fl_end q] at he
        subst he
        obtain ⟨t1, t2⟩ := ht
        obtain ⟨v1, v2, v3⟩ := hvt
        refine ⟨Or.inl ⟨⟨by omega, by omega⟩, ⟨by omega, by omega⟩⟩, fun q1 => ⟨fun _ => ?_, fun q2 => absurd rfl q2⟩, fun q1 => ⟨fun q2 => absurd q2 (by decide), fun _ => ?_⟩⟩
        · cases d with
          | succ d => exact absurd hbe.1 (by omega)
          | zero =>
            obtain ⟨b1, b2⟩ := hbe
            exact ih _ _ _ ⟨f1, Or.inl ⟨rfl, by omega, fun a a0 a1 => by rw [b2]; exact h38 a a0 a1⟩⟩ (by rw [if_pos rfl, if_neg (by decide)]; omega)
        · cases d with
          | zero => exact absurd (show (FB O G n k fo e).1 < 0 by omega) hbe.1
          | succ d =>
            obtain ⟨b1, b2⟩ := hbe
            obtain ⟨v4, v5⟩ := v3 b1
            obtain ⟨t3, t4, t5⟩ := t2 b1
            have v40 := v4.1
            have v41 := v4.2.1
            have hce2 := Bx_mv hce v4
            have hfin : ∀ M' : Mm, (∀ c, c ≠ 38 → M' c = B c) → (∀ a, 0 ≤ a → a < n → M' 38 a = mv e n.toNat (FB O G n k fo e).2.1 (FB O G n k fo e).2.2 a) → iR (x + 1) ∧ R (x + 1) 1 M' := by
              intro M' h1 h2
              refine ⟨by push_cast at hx; omega, ih _ _ _ ⟨fun c hc' => (h1 c hc').trans (f1 c hc'), Or.inr ⟨rfl, d, _, by push_cast at hx; omega, by omega, hce2, b2, ?_, ?_, h2⟩⟩ ?_⟩
              · exact Md_fr hM (by rw [h1 8 (by decide)]) (by rw [h1 8 (by decide)]) (h1 33 (by decide)) (h1 34 (by decide)) (h1 35 (by decide)) (h1 36 (by decide))
              · rw [h1 37 (by decide)]; exact h37
              · rw [if_neg (by decide), if_neg (by decide)]
                push_cast at hx
                omega
            refine ⟨fun q3 => ?_, fun q3 => ⟨by omega, ?_⟩⟩
            · obtain ⟨u1, u2, u3, u4⟩ := t4 q3
              refine s_exchange x7 x8 B _ (by omega) (by omega) (by omega) (fun M' h1 h2 => hfin M' h1 (fun a a0 a1 => ?_))
              rw [h2, ← u4, ← t3, mv_ex u1 (by omega) (fun b c b0 b1 c0 c1 => hce.sk.2.2 b c b0 (by omega) c0 (by omega)), h38 x7 (by omega) (by omega), h38 x8 u1 u2, h38 a a0 a1]
            · obtain ⟨u1, u2⟩ := t5 q3
              refine hfin _ (fun c hc' => ?_) (fun a a0 a1 => ?_)
              · simp only [mset_eq, fu_ap, hc', reduceIte]
              · rw [← t3, ← u1, mv_free u2]
                simp only [mset_eq, fu_ap, reduceIte]
                rw [h38 a a0 a1]
      · rw [← he, fl_step (i := a) (by omega)]
    · rw [← he, fl_step (i := a) (by omega)]
theorem e_better (M : Mm) (hI : Inv M) : Same wp_X7_better wp_X8_better M := by
  obtain ⟨hn, hk, hg, hc, hf, hs, hd, ht, hz, hb, hp, hq, ho⟩ := id hI
  obtain ⟨n1, n2, k1, k2, e1, e2⟩ := id hn
  obtain ⟨s1, s2, s3⟩ := id hs
  unfold Same wp_X7_better
  refine ⟨fun q => ⟨fun q1 => absurd (s1.trans q) q1, fun _ => ⟨rfl, hI⟩⟩, fun q => ?_⟩
  obtain ⟨sk, sM⟩ := s3 q
  have hc1 : Bx (Oc1 M) (Gc1 M) (M 1 0) (M 3 0) (M 9) (M 19) := ⟨n1, n2, k1, k2, sk, Inv_wc hI⟩
  have hw := hc1.wb _ (Sok_Kin sk)
  obtain ⟨D, g, b1, b2, b3⟩ := Bt_ex (7176001) (M 19) hc1 (by omega)
  refine s_bettering D g (M 19) hc1 b1 (by omega) M ⟨rfl, rfl, rfl, rfl, rfl, rfl, hf.2⟩ _ (fun M' f1 f2 f3 => ?_)
  show wp_X8_better M' (fun r' M2 => (D : Int) = r' ∧ Inv M2)
  have hM := Inv_Md hI
  have c8 := f1 8 (by decide) (by decide)
  refine ⟨fun q1 => ?_, fun q1 => absurd (by rw [c8] at q1; omega) q⟩
  refine m_better D g (M 19) hc1 b1 (by omega) M' ⟨Md_fr hM (by rw [c8]) (by rw [c8]) (f1 33 (by decide) (by decide)) (f1 34 (by decide) (by decide)) (f1 35 (by decide) (by decide)) (f1 36 (by decide) (by decide)), fun a a0 a1 => ?_, fun a a0 a1 => ?_⟩ _ (fun M2 g1 g2 => ⟨rfl, ?_⟩)
  · rw [f1 37 (by decide) (by decide)]; exact (hf.1 a a0 (by omega)).1
  · rw [f1 38 (by decide) (by decide)]; exact sM a a0 a1
  · have p4 : M2 4 4 = M 4 4 := by rw [g1 4 (by decide)]; exact f2 4 (by decide) (by decide) (by decide)
    have p8 : M2 8 = M 8 := (g1 8 (by decide)).trans c8
    have p19 : M2 19 = g := (g1 19 (by decide)).trans f3
    refine Inv_set hI (fun c h1 h2 h3 h4 => (g1 c h3).trans (f1 c h2 h1)) (fun j _ => by rw [p8]) (by omega) (by rw [p8]; omega) (by rw [p19]; exact b3) (fun a a0 a1 => by rw [p19]; exact g2 a a0 a1)
