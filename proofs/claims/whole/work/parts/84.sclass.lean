theorem s_costAdded (a : Int) (M : Mm) (Q : Int → Mm → Prop) (ha : 0 ≤ a ∧ a < 10) (hr : ∀ b, 0 ≤ b → b ≤ a → 0 ≤ M 20 b ∧ M 20 b < 12) (h : Q (ad2 (Oc1 M) (Gc1 M) (M 20) a) M) : wp_X1_costAddedBy a M Q := by
  refine ⟨ha, ?_⟩
  refine LP2.of (b := bc_X1_costAddedBy_L12 a (M 20 a) Q) (fun s b B => B = M ∧ 0 ≤ b ∧ b ≤ a ∧ s = sm b.toNat (fun b => Oc1 M a b * Gc1 M (M 20 a) (M 20 b) + Oc1 M b a * Gc1 M (M 20 b) (M 20 a))) (fun _ b _ => (a - b).toNat) ?_ 0 0 M ⟨rfl, by omega, by omega, rfl⟩
  rintro R s b B ⟨rfl, b0, b1, hs⟩ ih
  unfold bc_X1_costAddedBy_L12
  refine ⟨fun q => ?_, fun q => ?_⟩
  · rw [show b = a by omega] at hs
    rw [hs]; exact h
  · have h1 := hr b b0 b1
    have h2 := hr a ha.1 (by omega)
    refine ⟨by omega, ha, by omega, h2, h1, by omega, ha, h1, h2, by omega, ih _ _ _ ⟨rfl, by omega, by omega, ?_⟩ (by omega)⟩
    rw [sm_step b0, ← hs]
    show s + B 13 (10 * a + b) * B 17 (12 * B 20 a + B 20 b) + B 13 (10 * b + a) * B 17 (12 * B 20 b + B 20 a) = s + (B 13 (10 * a + b) * B 17 (12 * B 20 a + B 20 b) + B 13 (10 * b + a) * B 17 (12 * B 20 b + B 20 a))
    omega
theorem s_keep (c : Int) (M : Mm) (Q : Mm → Prop) (hc : 0 ≤ c ∧ c ≤ 2000000000) (hn : 0 ≤ M 1 0 ∧ M 1 0 ≤ 10) (h : ∀ M' : Mm, (∀ c, c ≠ 5 → c ≠ 22 → M' c = M c) → (∀ j, j ≠ 7 → j ≠ 8 → M' 5 j = M 5 j) → M' 5 7 = 1 → M' 5 8 = c → (∀ b, 0 ≤ b → b < M 1 0 → M' 22 b = M 20 b) → Q M') : wp_X1_keep c M Q := by
  refine LP1.of (b := bc_X1_keep_L2 c Q) (fun i B => (∀ c, c ≠ 22 → B c = M c) ∧ 0 ≤ i ∧ i ≤ M 1 0 ∧ ∀ b, 0 ≤ b → b < i → B 22 b = M 20 b) (fun i _ => (M 1 0 - i).toNat) ?_ 0 M ⟨fun _ _ => rfl, by omega, by omega, fun b b0 b1 => by omega⟩
  rintro R i B ⟨f1, i0, i1, hi⟩ ih
  unfold bc_X1_keep_L2
  have c1 := f1 1 (by decide)
  have c20 := f1 20 (by decide)
  have c5 := f1 5 (by decide)
  rw [c1]
  refine ⟨fun q => ⟨by omega, h _ (fun c h1 h2 => ?_) (fun j h1 h2 => ?_) ?_ ?_ (fun a a0 a1 => ?_)⟩, fun q => ⟨by omega, by omega, by omega, ih _ _ ⟨fun c hc => ?_, by omega, by omega, fun a a0 a1 => ?_⟩ (by omega)⟩⟩
  · simp only [mset_eq, fu_ap, h1, reduceIte]; exact f1 c h2
  · simp only [mset_eq, fu_ap, h1, h2, reduceIte]; rw [c5]
  · simp only [mset_eq, fu_ap, reduceIte]
  · simp only [mset_eq, fu_ap, reduceIte, Int.reduceEq]
  · simp only [mset_eq, fu_ap, reduceIte, Nat.reduceEqDiff]; exact hi a a0 (by omega)
  · simp only [mset_eq, fu_ap, hc, reduceIte]; exact f1 c hc
  · simp only [mset_eq, fu_ap, reduceIte, c20]
    by_cases e : a = i
    · rw [if_pos e, e]
    · rw [if_neg e]; exact hi a a0 (by omega)
theorem s_allow (a y : Int) (M : Mm) (Q : Int → Mm → Prop) (ha : 0 ≤ a ∧ a < 10) (hy : 0 ≤ y ∧ y < 12) (h1 : (if M 9 a = -1 then M 10 y = -1 else M 9 a = y) → Q 1 M) (h0 : ¬ (if M 9 a = -1 then M 10 y = -1 else M 9 a = y) → Q 0 M) : wp_X3_allow a y M Q := by
  unfold wp_X3_allow wp_X3_isFixed
  refine ⟨ha, fun q => ⟨fun _ => ⟨hy, fun q1 => h0 (by rw [if_pos q]; exact q1), fun q1 => h1 (by rw [if_pos q]; exact q1)⟩, fun q1 => absurd rfl q1⟩, fun q => ⟨fun q1 => absurd q1 (by decide), fun _ => ⟨ha, fun q1 => h0 (by rw [if_neg q]; exact q1), fun q1 => h1 (by rw [if_neg q]; exact q1)⟩⟩⟩
/-- which keys are no fixed letter's -/
def Ffb (n : Int) (fo fb : Int → Int) : Prop := ∀ y, 0 ≤ y → y < 12 → (fb y = -1 ↔ ∀ b, 0 ≤ b → b < n → fo b ≠ y)
theorem Jf_Ffb {n k : Int} {fo fb mf : Int → Int} (h : Jf n k fo fb mf) (hn : n ≤ 10) : Ffb n fo fb := by
  intro y y0 y1
  constructor
  · intro e b b0 b1 e2
    rcases (h.1 b b0 (by omega)).2 with g | ⟨-, -, -, g⟩
    · omega
    · rw [e2] at g; omega
  · intro hh
    rcases h.2 y y0 y1 with g | ⟨g1, g2, g3⟩
    · exact g
    · exact absurd g3 (hh _ g1 g2)
theorem Jf_Finj {n k : Int} {fo fb mf : Int → Int} (h : Jf n k fo fb mf) (hn : n ≤ 10) : Finj n fo := by
  intro b c b0 b1 c0 c1 hb e
  rcases (h.1 b b0 (by omega)).2 with g | ⟨-, -, -, g⟩
  · exact absurd g hb
  · rcases (h.1 c c0 (by omega)).2 with g' | ⟨-, -, -, g'⟩
    · omega
    · rw [← e] at g'; omega
theorem may_al {n : Int} {fo fb row : Int → Int} {a y : Int} (hfb : Ffb n fo fb) (y0 : 0 ≤ y) (y1 : y < 12) (hd : ∀ b, 0 ≤ b → b < a → row b ≠ y) : mayB n fo row a y a ↔ (if fo a = -1 then fb y = -1 else fo a = y) := by
  unfold mayB
  split
  · rw [hfb y y0 y1]
    exact ⟨fun h b b0 b1 => (h b b0 b1).1, fun h b b0 b1 => ⟨h b b0 b1, hd b b0⟩⟩
  · exact Iff.rfl
def CS (Mi M : Mm) (n : Int) (row : Int → Int) (a : Int) (s : Sg) : Prop := (∀ c, c ≠ 5 → c ≠ 20 → c ≠ 21 → c ≠ 22 → M c = Mi c) ∧ (∀ b, 0 ≤ b → b < a → M 20 b = row b) ∧ (∀ y, 0 ≤ y → y < 12 → (M 21 y = 0 ↔ ∀ b, 0 ≤ b → b < a → row b ≠ y)) ∧ M 5 9 = s.1 ∧ M 5 5 = s.2.1 ∧ M 5 7 = s.2.2.1 ∧ (s.2.2.1 ≠ 0 → M 5 8 = s.2.2.2.1 ∧ ∀ b, 0 ≤ b → b < n → M 22 b = s.2.2.2.2 b)
theorem CS_put {Mi M : Mm} {n : Int} {row : Int → Int} {a y : Int} {s : Sg} (h : CS Mi M n row a s) (a0 : 0 ≤ a) (hy : M 20 a = y) : CS Mi (mset M 21 y 1) n (fu row a y) (a + 1) s := by
  obtain ⟨h1, h2, h3, h4, h5, h6, h7⟩ := h
  refine ⟨fun c c1 c2 c3 c4 => ?_, fun b b0 b1 => ?_, fun z z0 z1 => ?_, h4, h5, h6, h7⟩
  · simp only [mset_eq, fu_ap, c3, reduceIte]; exact h1 c c1 c2 c3 c4
  · show M 20 b = fu row a y b
    simp only [fu_ap]
    by_cases e : b = a
    · rw [if_pos e, e]; exact hy
    · rw [if_neg e]; exact h2 b b0 (by omega)
  · show fu (M 21) y 1 z = 0 ↔ _
    simp only [fu_ap]
    by_cases e : z = y
    · rw [if_pos e]
      exact ⟨fun q => absurd q (by decide), fun q => absurd (by rw [if_pos rfl]; exact e.symm) (q a a0 (by omega))⟩
    · rw [if_neg e, h3 z z0 z1]
      constructor
      · intro hh b b0 b1
        by_cases eb : b = a
        · rw [if_pos eb]; exact fun q => e q.symm
        · rw [if_neg eb]; exact hh b b0 (by omega)
      · intro hh b b0 b1
        have := hh b b0 (by omega)
        rw [if_neg (by omega)] at this
        exact this
theorem CS_back {Mi M : Mm} {n : Int} {row : Int → Int} {a y : Int} {s : Sg} (h : CS Mi M n (fu row a y) (a + 1) s) (hd : ∀ b, 0 ≤ b → b < a → row b ≠ y) : CS Mi (mset M 21 y 0) n row a s := by
  obtain ⟨h1, h2, h3, h4, h5, h6, h7⟩ := h
  refine ⟨fun c c1 c2 c3 c4 => ?_, fun b b0 b1 => ?_, fun z z0 z1 => ?_, h4, h5, h6, h7⟩
  · simp only [mset_eq, fu_ap, c3, reduceIte]; exact h1 c c1 c2 c3 c4
  · show M 20 b = row b
    have := h2 b b0 (by omega)
    rw [this]
    simp only [fu_ap]
    rw [if_neg (by omega)]
  · show fu (M 21) y 0 z = 0 ↔ _
    simp only [fu_ap]
    by_cases e : z = y
    · rw [if_pos e, e]
      exact ⟨fun _ => hd, fun _ => rfl⟩
    · rw [if_neg e, h3 z z0 z1]
      constructor
      · intro hh b b0 b1
        have := hh b b0 (by omega)
        simp only [fu_ap] at this
        rw [if_neg (by omega)] at this
        exact this
      · intro hh b b0 b1
        simp only [fu_ap]
        by_cases eb : b = a
        · rw [if_pos eb]; exact fun q => e q.symm
        · rw [if_neg eb]; exact hh b b0 (by omega)
/-- a try is counted, and its letter put -/
theorem CS_try {Mi M : Mm} {n : Int} {row : Int → Int} {a y : Int} {s : Sg} (h : CS Mi M n row a s) : CS Mi (mset (mset M 5 9 (M 5 9 + 1)) 20 a y) n row a (s.1 + 1, s.2) := by
  obtain ⟨h1, h2, h3, h4, h5, h6, h7⟩ := h
  refine ⟨fun c c1 c2 c3 c4 => ?_, fun b b0 b1 => ?_, h3, ?_, h5, h6, h7⟩
  · simp only [mset_eq, fu_ap, c1, c2, reduceIte]; exact h1 c c1 c2 c3 c4
  · show fu (M 20) a y b = row b
    simp only [fu_ap]
    rw [if_neg (by omega)]
    exact h2 b b0 b1
  · show M 5 9 + 1 = s.1 + 1
    rw [h4]
theorem s_place {Mi : Mm} (hE : Ev (Oc1 Mi) (Gc1 Mi) (Mi 1 0) (Mi 3 0) (Mi 9)) (hfb : Ffb (Mi 1 0) (Mi 9) (Mi 10)) (d : Nat) : ∀ (D : Nat) (row : Int → Int) (a c : Int) (s : Sg) (M : Mm) (Q : Mm → Prop), d < D → a + d = Mi 1 0 → 0 ≤ a → Pok (Mi 1 0) (Mi 3 0) (Mi 9) row a → 0 ≤ c → c ≤ 200000000 * a → Sgd (Mi 1 0) (Mi 3 0) (Mi 9) s → CS Mi M (Mi 1 0) row a s → (∀ M', CS Mi M' (Mi 1 0) row a (pl (Oc1 Mi) (Gc1 Mi) (Mi 1 0) (Mi 3 0) (Mi 9) d row a c s) → Q M') → wp_X1_placeFrom D a c M Q := by
  obtain ⟨n1, n2, k1, k2, hO, hG, hfi⟩ := id hE
  induction d with
  | zero =>
    intro D row a c s M Q hD ha a0 hp c0 c1 hs hC h
    cases D with
    | zero => omega
    | succ D =>
      have m1 := hC.1 1 (by decide) (by decide) (by decide) (by decide)
      obtain ⟨h1, h2, h3, h4, h5, h6, h7⟩ := id hC
      refine ⟨fun q => by rw [m1] at q; omega, fun _ => s_keep c M _ (by omega) (by rw [m1]; omega) (fun M' g1 g2 g3 g4 g5 => h M' ?_)⟩
      rw [m1] at g5
      refine ⟨fun c c1 c2 c3 c4 => (g1 c c1 c4).trans (h1 c c1 c2 c3 c4), fun b b0 b1 => ?_, fun y y0 y1 => ?_, ?_, ?_, g3, fun _ => ⟨g4, fun b b0 b1 => ?_⟩⟩
      · rw [g1 20 (by decide) (by decide)]; exact h2 b b0 b1
      · rw [g1 21 (by decide) (by decide)]; exact h3 y y0 y1
      · rw [g2 9 (by decide) (by decide)]; exact h4
      · rw [g2 5 (by decide) (by decide)]; exact h5
      · rw [g5 b b0 b1, h2 b b0 (by omega)]
        exact (if_pos ⟨b0, b1⟩).symm
  | succ d ih =>
    intro D row a c s M Q hD ha a0 hp c0 c1 hs hC h
    cases D with
    | zero => omega
    | succ D =>
      have m1 := hC.1 1 (by decide) (by decide) (by decide) (by decide)
      refine ⟨fun _ => ?_, fun q => absurd (by rw [m1]; omega) q⟩
      refine LP1.of (b := bc_X1_placeFrom_L20 (wp_X1_placeFrom D) a c Q) (fun y B => 0 ≤ y ∧ y ≤ Mi 3 0 ∧ ∃ t, Sgd (Mi 1 0) (Mi 3 0) (Mi 9) t ∧ CS Mi B (Mi 1 0) row a t ∧ lq (sq (pl (Oc1 Mi) (Gc1 Mi) (Mi 1 0) (Mi 3 0) (Mi 9) d) (Oc1 Mi) (Gc1 Mi) (Mi 1 0) (Mi 9) row a c) (Mi 3 0 - y).toNat y t = pl (Oc1 Mi) (Gc1 Mi) (Mi 1 0) (Mi 3 0) (Mi 9) (d + 1) row a c s) (fun y _ => (Mi 3 0 - y).toNat) ?_ 0 M ⟨by omega, by omega, s, hs, hC, rfl⟩
      rintro R y B ⟨y0, y1, t, ht, hB, hl⟩ ihR
      unfold bc_X1_placeFrom_L20
      obtain ⟨b1, b2, b3, b4, b5, b6, b7⟩ := id hB
      have m3 := b1 3 (by decide) (by decide) (by decide) (by decide)
      have m9 := b1 9 (by decide) (by decide) (by decide) (by decide)
      have m10 := b1 10 (by decide) (by decide) (by decide) (by decide)
      have m13 := b1 13 (by decide) (by decide) (by decide) (by decide)
      have m17 := b1 17 (by decide) (by decide) (by decide) (by decide)
      rw [m3]
      refine ⟨fun q => h B ?_, fun q => ⟨fun q1 => h B ?_, fun q1 => ?_⟩⟩
      · rw [lq_end q] at hl
        rw [← hl]; exact hB
      · rw [lq_spent (by rw [← b5]; exact q1)] at hl
        rw [← hl]; exact hB
      have hy : 0 ≤ y ∧ y < Mi 3 0 := by omega
      have hsp : t.2.1 = 0 := by rw [← b5]; exact q1
      rw [lq_step (by omega)] at hl
      have hgood : ∀ t', sq (pl (Oc1 Mi) (Gc1 Mi) (Mi 1 0) (Mi 3 0) (Mi 9) d) (Oc1 Mi) (Gc1 Mi) (Mi 1 0) (Mi 9) row a c y t = t' → Sgd (Mi 1 0) (Mi 3 0) (Mi 9) t' := by
        intro t' e
        rw [← e]
        refine sq_good ht (fun t2 hm ht2 => ?_)
        have hb := ad2_b hE a0 (by omega) (row_b hp hy)
        exact pl_good hE d _ _ _ _ (by omega) (by omega) (Pok_step hfi hp a0 (by omega) hm hy) (by omega) (by omega) ht2
      have go : ∀ t' (B' : Mm), sq (pl (Oc1 Mi) (Gc1 Mi) (Mi 1 0) (Mi 3 0) (Mi 9) d) (Oc1 Mi) (Gc1 Mi) (Mi 1 0) (Mi 9) row a c y t = t' → CS Mi B' (Mi 1 0) row a t' → iR (y + 1) ∧ R (y + 1) B' := fun t' B' e hB' => ⟨by omega, ihR _ _ ⟨by omega, by omega, t', hgood t' e, hB', by rw [← e]; exact hl⟩ (by omega)⟩
      refine ⟨by omega, fun q2 => go t B (sq_not (fun hm => q2 ((b3 y y0 (by omega)).mpr (may_nt hfi hp a0 (by omega) hm)))) hB, fun q2 => ?_⟩
      have hd := (b3 y y0 (by omega)).mp q2
      have hal := may_al (a := a) (row := row) hfb y0 (by omega) hd
      refine s_allow a y B _ (by omega) (by omega) (fun q3 => ⟨fun q4 => absurd q4 (by decide), fun _ => ?_⟩) (fun q3 => ⟨fun _ => go t B (sq_not (fun hm => q3 (by rw [m9, m10]; exact hal.mp hm))) hB, fun q4 => absurd rfl q4⟩)
      rw [m9, m10] at q3
      have hm := hal.mpr q3
      unfold wp_X1_tryOn
      have ht1 := ht.1
      refine ⟨fun q4 => ⟨by omega, by omega, ?_⟩, fun q4 => ?_⟩
      · have hT := CS_try (y := y) hB
        have e20 : (mset (mset B 5 9 (B 5 9 + 1)) 20 a y) 20 = fu (B 20) a y := rfl
        generalize hB1 : mset (mset B 5 9 (B 5 9 + 1)) 20 a y = B1 at *
        have hrow : ∀ b, 0 ≤ b → b ≤ a → B1 20 b = fu row a y b := by
          intro b bb0 bb1
          rw [e20]
          simp only [fu_ap]
          split
          · rfl
          · exact b2 b bb0 (by omega)
        have hrb := row_b hp hy
        have hab := ad2_b hE a0 (by omega) hrb
        have eO : Oc1 B1 = Oc1 Mi := by unfold Oc1; rw [hT.1 13 (by decide) (by decide) (by decide) (by decide)]
        have eG : Gc1 B1 = Gc1 Mi := by unfold Gc1; rw [hT.1 17 (by decide) (by decide) (by decide) (by decide)]
        have eA : ad2 (Oc1 B1) (Gc1 B1) (B1 20) a = ad2 (Oc1 Mi) (Gc1 Mi) (fu row a y) a := by rw [eO, eG]; exact ad2_congr a0 hrow
        refine s_costAdded a B1 _ (by omega) (fun b bb0 bb1 => by rw [hrow b bb0 bb1]; have := hrb b bb0 bb1; omega) ?_
        rw [eA]
        have t1 : B1 5 7 = t.2.2.1 := hT.2.2.2.2.2.1
        have t2 : t.2.2.1 ≠ 0 → B1 5 8 = t.2.2.2.1 := fun z => (hT.2.2.2.2.2.2 z).1
        have hlt : t.1 < 20000 := by rw [← b4]; exact q4
        have hgd := ht.2.2.2.2
        have y20 : B1 20 a = y := by rw [hrow a a0 (by omega)]; exact fu_s _ _ _
        have deep : (t.2.2.1 = 0 ∨ c + ad2 (Oc1 Mi) (Gc1 Mi) (fu row a y) a < t.2.2.2.1) → (0 ≤ y ∧ y < 12) ∧ iR (a + 1) ∧ wp_X1_placeFrom D (a + 1) (c + ad2 (Oc1 Mi) (Gc1 Mi) (fu row a y) a) (mset B1 21 y 1) (fun M2 => (0 ≤ y ∧ y < 12) ∧ iR (y + 1) ∧ R (y + 1) (mset M2 21 y 0)) := by
          intro hh
          refine ⟨by omega, by omega, ih D (fu row a y) (a + 1) _ (t.1 + 1, t.2) _ _ (by omega) (by omega) (by omega) (Pok_step hfi hp a0 (by omega) hm hy) (by omega) (by omega) ⟨by show 0 ≤ t.1 + 1; have := ht.1; omega, by show t.1 + 1 ≤ 20000; omega, ht.2.2.1, ht.2.2.2.1, ht.2.2.2.2⟩ (CS_put hT a0 y20) (fun M' hM' => ⟨by omega, go _ _ (sq_on hsp hm hlt hh) (CS_back hM' hd)⟩)⟩
        refine ⟨fun q5 => deep (Or.inl (by omega)), fun q5 => ?_⟩
        have q6 : t.2.2.1 ≠ 0 := by rw [← t1]; exact q5
        have q7 := hgd q6
        rw [t2 q6]
        refine ⟨Or.inl ⟨⟨by omega, by omega⟩, ⟨by omega, by omega⟩⟩, fun q8 => deep (Or.inr q8), fun q8 => ?_⟩
        exact go _ _ (sq_off hsp hm hlt (fun z => by omega)) hT
      · refine go _ _ (sq_full hsp hm (by rw [← b4]; exact q4)) ⟨fun c c1 c2 c3 c4 => ?_, b2, b3, b4, rfl, b6, b7⟩
        simp only [mset_eq, fu_ap, c1, reduceIte]; exact b1 c c1 c2 c3 c4
