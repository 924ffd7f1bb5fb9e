/-- the first setting in order, on the letters below m -/
def fstP (n k m : Int) (fo f : Int → Int) : Prop := ∀ a, 0 ≤ a → a < m → (fo a ≠ -1 → f a = fo a) ∧ (fo a = -1 → 0 ≤ f a ∧ f a < k ∧ (∀ b, 0 ≤ b → b < n → fo b ≠ f a) ∧ (∀ b, 0 ≤ b → b < a → f b ≠ f a) ∧ ∀ j, 0 ≤ j → j < f a → ∃ b, 0 ≤ b ∧ b < n ∧ (fo b = j ∨ (b < a ∧ f b = j)))
theorem fstP_Sok {n k : Int} {fo fb mf f : Int → Int} (hnk : n ≤ k) (hn : n ≤ 10) (hf : Jf n k fo fb mf) (h : fstP n k n fo f) : Sok n k fo f := by
  have hr : ∀ a, 0 ≤ a → a < n → 0 ≤ f a ∧ f a < k := by
    intro a a0 a1
    by_cases e : fo a = -1
    · have := (h a a0 a1).2 e; omega
    · rw [(h a a0 a1).1 e]
      rcases (hf.1 a a0 (by omega)).2 with g | ⟨g1, g2, -⟩
      · exact absurd g e
      · exact ⟨g1, g2⟩
  have hlt : ∀ a b, 0 ≤ a → a < b → b < n → f a ≠ f b := by
    intro a b a0 ab b1 e
    by_cases eb : fo b = -1
    · exact ((h b (by omega) b1).2 eb).2.2.2.1 a a0 ab e
    · by_cases ea : fo a = -1
      · have h1 := ((h a a0 (by omega)).2 ea).2.2.1 b (by omega) b1
        rw [e, (h b (by omega) b1).1 eb] at h1
        exact h1 rfl
      · rw [(h a a0 (by omega)).1 ea, (h b (by omega) b1).1 eb] at e
        rcases (hf.1 a a0 (by omega)).2 with g | ⟨-, -, -, g⟩
        · exact ea g
        · rcases (hf.1 b (by omega) (by omega)).2 with g' | ⟨-, -, -, g'⟩
          · exact eb g'
          · rw [e] at g; omega
  refine ⟨hnk, fun a a0 a1 => ⟨(hr a a0 a1).1, (hr a a0 a1).2, (h a a0 a1).1⟩, fun a b a0 a1 b0 b1 e => ?_⟩
  rcases Int.lt_trichotomy a b with q | q | q
  · exact absurd e (hlt a b a0 q b1)
  · exact q
  · exact absurd e.symm (hlt b a b0 q a1)
/-- the next free key, where one is left -/
theorem next_free {fb : Int → Int} {x k : Int} (hx : 0 ≤ x) (hxk : x ≤ k) (h : sm x.toNat (fun j => if fb j = -1 then 1 else 0) < sm k.toNat (fun j => if fb j = -1 then 1 else 0)) : ∃ z, x ≤ z ∧ z < k ∧ fb z = -1 ∧ ∀ j, x ≤ j → j < z → fb j ≠ -1 := by
  have key : ∀ (d : Nat) (x : Int), 0 ≤ x → k = x + d → sm x.toNat (fun j => if fb j = -1 then 1 else 0) < sm k.toNat (fun j => if fb j = -1 then 1 else 0) → ∃ z, x ≤ z ∧ z < k ∧ fb z = -1 ∧ ∀ j, x ≤ j → j < z → fb j ≠ -1 := by
    intro d
    induction d with
    | zero => intro x x0 e h; rw [e] at h; simp at h
    | succ d ih =>
      intro x x0 e h
      by_cases e1 : fb x = -1
      · exact ⟨x, by omega, by omega, e1, fun j j0 j1 => by omega⟩
      · have h2 : sm (x + 1).toNat (fun j => if fb j = -1 then 1 else 0) = sm x.toNat (fun j => if fb j = -1 then 1 else 0) := by
          rw [show (x + 1).toNat = x.toNat + 1 by omega]
          show sm x.toNat _ + (if fb (x.toNat : Int) = -1 then 1 else 0) = _
          rw [if_neg (by rw [show ((x.toNat : Nat) : Int) = x by omega]; exact e1)]; omega
        obtain ⟨z, z0, z1, z2, z3⟩ := ih (x + 1) (by omega) (by omega) (by rw [h2]; exact h)
        refine ⟨z, by omega, z1, z2, fun j j0 j1 => ?_⟩
        by_cases e2 : j = x
        · rw [e2]; exact e1
        · exact z3 j (by omega) j1
  exact key (k - x).toNat x hx (by omega) h
theorem s_becomeFirst (M : Mm) (Q : Mm → Prop) (mf : Int → Int) (hn : 1 ≤ M 1 0 ∧ M 1 0 ≤ 10) (hk : M 3 0 ≤ 12) (hnk : M 1 0 ≤ M 3 0) (hf : Jf (M 1 0) (M 3 0) (M 9) (M 10) mf) (h : ∀ M' : Mm, (∀ c, c ≠ 19 → c ≠ 4 → M' c = M c) → (∀ k, k ≠ 4 → M' 4 k = M 4 k) → M' 4 4 = 1 → fstP (M 1 0) (M 3 0) (M 1 0) (M 9) (M' 19) → Q M') : wp_X5_becomeFirst M Q := by
  have hfree := free_le hf (by omega) hn.2 hk hnk
  have hfb : ∀ j, 0 ≤ j → j < 12 → M 10 j = -1 → ∀ b, 0 ≤ b → b < M 1 0 → M 9 b ≠ j := by
    intro j j0 j1 e b b0 b1 e2
    rcases (hf.1 b b0 (by omega)).2 with g | ⟨-, -, -, g⟩
    · omega
    · rw [e2] at g; omega
  refine LP2.of (b := bc_X5_becomeFirst_L4 Q) (fun nx a B => (∀ c, c ≠ 19 → B c = M c) ∧ 0 ≤ a ∧ a ≤ M 1 0 ∧ 0 ≤ nx ∧ nx ≤ M 3 0 ∧ fstP (M 1 0) (M 3 0) a (M 9) (B 19) ∧ (∀ j, 0 ≤ j → j < nx → M 10 j = -1 → ∃ b, 0 ≤ b ∧ b < a ∧ B 19 b = j) ∧ (∀ b, 0 ≤ b → b < a → M 9 b = -1 → B 19 b < nx) ∧ sm nx.toNat (fun j => if M 10 j = -1 then 1 else 0) = sm a.toNat (fun a => if M 9 a = -1 then 1 else 0)) (fun _ a _ => (M 1 0 - a).toNat) ?_ 0 0 M ⟨fun _ _ => rfl, by omega, by omega, by omega, by omega, fun a a0 a1 => by omega, fun j j0 j1 => by omega, fun j j0 j1 => by omega, rfl⟩
  rintro R nx a B ⟨f1, a0, a1, nx0, nx1, hP, hU, hB, hC⟩ ih
  unfold bc_X5_becomeFirst_L4
  have c1 := f1 1 (by decide)
  have c9 := f1 9 (by decide)
  have c10 := f1 10 (by decide)
  have c3 := f1 3 (by decide)
  rw [c1]
  refine ⟨fun q => h _ (fun c h1 h2 => ?_) (fun k hk => ?_) ?_ ?_, fun q => ?_⟩
  · simp only [mset_eq, fu_ap, h2, reduceIte]; exact f1 c h1
  · simp only [mset_eq, fu_ap, hk, reduceIte]; rw [f1 4 (by decide)]
  · simp only [mset_eq, fu_ap, reduceIte]
  · simp only [mset_eq, fu_ap, reduceIte, Nat.reduceEqDiff]
    rw [show a = M 1 0 by omega] at hP
    exact hP
  · have hsa : sm (a + 1).toNat (fun a => if M 9 a = -1 then 1 else 0) = sm a.toNat (fun a => if M 9 a = -1 then 1 else 0) + (if M 9 a = -1 then 1 else 0) := by
      rw [show (a + 1).toNat = a.toNat + 1 by omega]
      show sm a.toNat _ + (if M 9 (a.toNat : Int) = -1 then 1 else 0) = _
      rw [show ((a.toNat : Nat) : Int) = a by omega]
    unfold wp_X3_isFixed
    rw [c9]
    refine ⟨by omega, fun q1 => ⟨fun _ => ?_, fun q2 => absurd rfl q2⟩, fun q1 => ⟨fun q2 => absurd q2 (by decide), fun _ => ⟨by omega, by omega, by omega, ih _ _ _ ⟨fun c hc => ?_, by omega, by omega, nx0, nx1, ?_, ?_, ?_, ?_⟩ (by omega)⟩⟩⟩
    · -- a free letter
      have hlt : sm nx.toNat (fun j => if M 10 j = -1 then 1 else 0) < sm (M 3 0).toNat (fun j => if M 10 j = -1 then 1 else 0) := by
        have h1 : sm (a + 1).toNat (fun a => if M 9 a = -1 then 1 else 0) ≤ sm (M 1 0).toNat (fun a => if M 9 a = -1 then 1 else 0) := by
          rw [show (M 1 0).toNat = (a + 1).toNat + ((M 1 0).toNat - (a + 1).toNat) by omega, sm_app]
          have := sm_nn (n := (M 1 0).toNat - (a + 1).toNat) (f := fun i => if M 9 ((a + 1).toNat + i) = -1 then 1 else 0) (fun i _ _ => by show (0 : Int) ≤ if _ then 1 else 0; split <;> decide)
          omega
        rw [hsa, if_pos q1] at h1
        omega
      obtain ⟨z, z0, z1, z2, z3⟩ := next_free nx0 nx1 hlt
      refine s_unfixed nx B _ (by rw [c3]; exact hk) nx0 z (by rw [c3]; omega) (by rw [c10]; exact z2) (by rw [c10]; exact z3) ?_
      refine ⟨by omega, by omega, by omega, ih _ _ _ ⟨fun c hc => ?_, by omega, by omega, by omega, by omega, ?_, ?_, ?_, ?_⟩ (by omega)⟩
      · simp only [mset_eq, fu_ap, hc, reduceIte]; exact f1 c hc
      · intro b b0 b1
        simp only [mset_eq, fu_ap, reduceIte]
        by_cases e : b = a
        · subst e
          rw [if_pos rfl]
          refine ⟨fun q => absurd q1 q, fun _ => ⟨by omega, z1, hfb z (by omega) (by omega) z2, fun c c0 c1' => ?_, fun j j0 j1 => ?_⟩⟩
          · rw [if_neg (by omega)]
            intro e2
            by_cases e3 : M 9 c = -1
            · have := hB c c0 c1' e3; omega
            · rw [(hP c c0 c1').1 e3] at e2
              exact hfb z (by omega) (by omega) z2 c c0 (by omega) e2
          · by_cases e4 : M 10 j = -1
            · by_cases e5 : j < nx
              · obtain ⟨c, c0, c1', c2⟩ := hU j j0 e5 e4
                exact ⟨c, c0, by omega, Or.inr ⟨c1', by rw [if_neg (by omega)]; exact c2⟩⟩
              · exact absurd e4 (z3 j (by omega) j1)
            · rcases hf.2 j j0 (by omega) with g | ⟨g1, g2, g3⟩
              · exact absurd g e4
              · exact ⟨M 10 j, g1, g2, Or.inl g3⟩
        · rw [if_neg e]
          obtain ⟨p1, p2⟩ := hP b b0 (by omega)
          refine ⟨p1, fun q => ?_⟩
          obtain ⟨r1, r2, r3, r4, r5⟩ := p2 q
          refine ⟨r1, r2, r3, fun c c0 c1' => by rw [if_neg (by omega)]; exact r4 c c0 c1', fun j j0 j1 => ?_⟩
          obtain ⟨c, c0, c1', c2⟩ := r5 j j0 j1
          refine ⟨c, c0, c1', ?_⟩
          rcases c2 with c2 | ⟨c2, c3'⟩
          · exact Or.inl c2
          · exact Or.inr ⟨c2, by rw [if_neg (by omega)]; exact c3'⟩
      · intro j j0 j1 e4
        simp only [mset_eq, fu_ap, reduceIte]
        by_cases e5 : j < nx
        · obtain ⟨c, c0, c1', c2⟩ := hU j j0 e5 e4
          exact ⟨c, c0, by omega, by rw [if_neg (by omega)]; exact c2⟩
        · by_cases e6 : j = z
          · exact ⟨a, a0, by omega, by rw [if_pos rfl]; exact e6.symm⟩
          · exact absurd e4 (z3 j (by omega) (by omega))
      · intro b b0 b1 e4
        simp only [mset_eq, fu_ap, reduceIte]
        by_cases e : b = a
        · rw [if_pos e]; omega
        · rw [if_neg e]; have := hB b b0 (by omega) e4; omega
      · have hz0 : sm (z - nx).toNat (fun i => if M 10 (nx.toNat + i) = -1 then 1 else 0) = 0 := sm_z (fun i i0 i1 => if_neg (z3 _ (by omega) (by omega)))
        rw [hsa, if_pos q1, ← hC, show (z + 1).toNat = nx.toNat + ((z - nx).toNat + 1) by omega, sm_app]
        show _ + (sm (z - nx).toNat _ + (if M 10 (nx.toNat + ((z - nx).toNat : Int)) = -1 then 1 else 0)) = _
        rw [show (nx.toNat : Int) + ((z - nx).toNat : Int) = z by omega, if_pos z2, hz0]
        omega
    · simp only [mset_eq, fu_ap, hc, reduceIte]; exact f1 c hc
    · intro b b0 b1
      simp only [mset_eq, fu_ap, reduceIte, c9]
      by_cases e : b = a
      · subst e
        rw [if_pos rfl]
        exact ⟨fun _ => rfl, fun q => absurd q q1⟩
      · rw [if_neg e]
        obtain ⟨p1, p2⟩ := hP b b0 (by omega)
        refine ⟨p1, fun q => ?_⟩
        obtain ⟨r1, r2, r3, r4, r5⟩ := p2 q
        refine ⟨r1, r2, r3, fun c c0 c1' => by rw [if_neg (by omega)]; exact r4 c c0 c1', fun j j0 j1 => ?_⟩
        obtain ⟨c, c0, c1', c2⟩ := r5 j j0 j1
        refine ⟨c, c0, c1', ?_⟩
        rcases c2 with c2 | ⟨c2, c3'⟩
        · exact Or.inl c2
        · exact Or.inr ⟨c2, by rw [if_neg (by omega)]; exact c3'⟩
    · intro j j0 j1 e4
      simp only [mset_eq, fu_ap, reduceIte]
      obtain ⟨c, c0, c1', c2⟩ := hU j j0 j1 e4
      exact ⟨c, c0, by omega, by rw [if_neg (by omega)]; exact c2⟩
    · intro b b0 b1 e4
      simp only [mset_eq, fu_ap, reduceIte]
      by_cases e : b = a
      · rw [e] at e4; exact absurd e4 q1
      · rw [if_neg e]; exact hB b b0 (by omega) e4
    · rw [hsa, if_neg q1, hC]; omega
/-- the reference's first setting is that one -/
theorem s_mfirst (M : Mm) (Q : Int → Mm → Prop) (f : Int → Int) (hn : 1 ≤ M 8 0 ∧ M 8 0 ≤ 10) (hk : M 8 5 ≤ 12) (hf : ∀ a, 0 ≤ a → a < M 8 0 → M 37 a = -1 ∨ (0 ≤ M 37 a ∧ M 37 a < 12)) (hP : fstP (M 8 0) (M 8 5) (M 8 0) (M 37) f) (h : ∀ M' : Mm, (∀ c, c ≠ 38 → c ≠ 8 → M' c = M c) → (∀ k, k ≠ 10 → M' 8 k = M 8 k) → M' 8 10 = 1 → (∀ a, 0 ≤ a → a < M 8 0 → M' 38 a = f a) → Q 1 M') : wp_X8_first_L16 Q 0 M := by
  refine LP1.of (b := bc_X8_first_L16 Q) (fun a B => (∀ c, c ≠ 38 → B c = M c) ∧ 0 ≤ a ∧ a ≤ M 8 0 ∧ ∀ b, 0 ≤ b → b < a → B 38 b = f b) (fun a _ => (M 8 0 - a).toNat) ?_ 0 M ⟨fun _ _ => rfl, by omega, by omega, fun b b0 b1 => by omega⟩
  rintro R a B ⟨f1, a0, a1, hB⟩ ih
  unfold bc_X8_first_L16
  have c8 := f1 8 (by decide)
  have c37 := f1 37 (by decide)
  rw [c8]
  refine ⟨fun q => h _ (fun c h1 h2 => ?_) (fun k hk => ?_) ?_ (fun b b0 b1 => ?_), fun q => ?_⟩
  · simp only [mset_eq, fu_ap, h2, reduceIte]; exact f1 c h1
  · simp only [mset_eq, fu_ap, hk, reduceIte]; rw [c8]
  · simp only [mset_eq, fu_ap, reduceIte]
  · simp only [mset_eq, fu_ap, reduceIte, Nat.reduceEqDiff]; exact hB b b0 (by omega)
  · obtain ⟨p1, p2⟩ := hP a a0 (by omega)
    have hfa : 0 ≤ f a ∧ f a < 12 := by
      by_cases e : M 37 a = -1
      · have := p2 e; omega
      · rw [p1 e]; have := hf a a0 (by omega); omega
    have hiff : ∀ j, 0 ≤ j → j < f a → ¬ mayB (M 8 0) (M 37) (B 38) a j a := by
      intro j j0 j1 hm
      unfold mayB at hm
      by_cases e : M 37 a = -1
      · rw [if_pos e] at hm
        obtain ⟨b, b0, b1, b2⟩ := (p2 e).2.2.2.2 j j0 j1
        rcases b2 with b2 | ⟨b2, b3⟩
        · exact (hm b b0 b1).1 b2
        · exact (hm b b0 b1).2 b2 (by rw [hB b b0 b2]; exact b3)
      · rw [if_neg e] at hm
        rw [p1 e] at j1; omega
    have hyes : mayB (M 8 0) (M 37) (B 38) a (f a) a := by
      unfold mayB
      by_cases e : M 37 a = -1
      · rw [if_pos e]
        intro b b0 b1
        refine ⟨(p2 e).2.2.1 b b0 b1, fun b2 => ?_⟩
        rw [hB b b0 b2]; exact (p2 e).2.2.2.1 b b0 b2
      · rw [if_neg e]; exact (p1 e).symm
    refine LP1.of (b := bc_X8_first_L26 a Q (fun y2_1 M1 => (0 ≤ a ∧ a < 10) ∧ iR (a + 1) ∧ R (a + 1) (mset M1 38 a y2_1))) (fun j C => C = B ∧ 0 ≤ j ∧ j ≤ f a) (fun j _ => (f a - j).toNat) ?_ 0 B ⟨rfl, by omega, by omega⟩
    rintro R2 j C ⟨rfl, j0, j1⟩ ih2
    unfold bc_X8_first_L26
    refine s_mayBear38 a j a C _ (by rw [c8]; omega) (by omega) (fun hm => ⟨fun _ => ⟨by omega, by omega, ih _ _ ⟨fun c hc => ?_, by omega, by omega, fun b b0 b1 => ?_⟩ (by omega)⟩, fun q => absurd q (by decide)⟩) (fun hm => ⟨fun q => absurd rfl q, fun _ => ⟨by omega, ih2 _ _ ⟨rfl, by omega, ?_⟩ ?_⟩⟩)
    · simp only [mset_eq, fu_ap, hc, reduceIte]; exact f1 c hc
    · simp only [mset_eq, fu_ap, reduceIte]
      have ej : j = f a := by
        by_cases e : j = f a
        · exact e
        · rw [c8, c37] at hm
          exact absurd hm (hiff j j0 (by omega))
      by_cases e : b = a
      · rw [if_pos e, e]; exact ej
      · rw [if_neg e]; exact hB b b0 (by omega)
    · by_cases e : j = f a
      · rw [c8, c37, e] at hm; exact absurd hyes hm
      · omega
    · by_cases e : j = f a
      · rw [c8, c37, e] at hm; exact absurd hyes hm
      · omega
theorem fstP_congr {n k m : Int} {fo go f : Int → Int} (hm : m ≤ n) (h : fstP n k m fo f) (hg : ∀ a, 0 ≤ a → a < n → go a = fo a) : fstP n k m go f := by
  intro a a0 a1
  obtain ⟨p1, p2⟩ := h a a0 a1
  rw [hg a a0 (by omega)]
  refine ⟨p1, fun q => ?_⟩
  obtain ⟨r1, r2, r3, r4, r5⟩ := p2 q
  refine ⟨r1, r2, fun b b0 b1 => by rw [hg b b0 b1]; exact r3 b b0 b1, r4, fun j j0 j1 => ?_⟩
  obtain ⟨c, c0, c1, c2⟩ := r5 j j0 j1
  exact ⟨c, c0, c1, by rw [hg c c0 c1]; exact c2⟩
theorem e_first (M : Mm) (hI : Inv M) : Same wp_X7_first wp_X8_first M := by
  obtain ⟨hn, hk, hg, hc, hf, hs, hd, ht, hz, hb, hp, hq, ho⟩ := id hI
  obtain ⟨n1, n2, k1, k2, e1, e2⟩ := id hn
  unfold Same wp_X7_first wp_X7_tooFewKeys
  by_cases hnk : M 1 0 ≤ M 3 0
  · refine ⟨fun _ => ⟨fun _ => ?_, fun q => absurd rfl q⟩, fun q => absurd hnk q⟩
    refine s_becomeFirst M _ (M 37) (by omega) (by omega) hnk hf (fun M' f1 f2 f3 f4 => ?_)
    show wp_X8_first M' (fun r' M2 => 1 = r' ∧ Inv M2)
    unfold wp_X8_first
    have c8 := f1 8 (by decide) (by decide)
    have c37 := f1 37 (by decide) (by decide)
    rw [c8]
    refine ⟨fun _ => s_mfirst M' _ (M' 19) (by rw [c8]; omega) (by rw [c8]; omega) ?_ ?_ (fun M2 g1 g2 g3 g4 => ⟨rfl, ?_⟩), fun q => by omega⟩
    · rw [c8, c37]
      intro a a0 a1
      have := hf.1 a a0 (by omega)
      omega
    · rw [c8, c37, e1, e2]
      exact fstP_congr (by omega) f4 (fun a a0 a1 => (hf.1 a a0 (by omega)).1)
    · rw [c8] at g2 g4
      have c19 := g1 19 (by decide) (by decide)
      refine Inv_set hI (fun c h1 h2 h3 h4 => (g1 c h3 h4).trans (f1 c h1 h2)) (fun k hk => g2 k hk) ?_ g3 ?_ ?_
      · rw [g1 4 (by decide) (by decide)]; exact f3
      · rw [c19]; exact fstP_Sok hnk n2 hf f4
      · intro a a0 a1
        rw [g4 a a0 (by omega), c19]
  · refine ⟨fun q => absurd q hnk, fun _ => ⟨fun q => absurd q (by decide), fun _ => ?_⟩⟩
    show wp_X8_first M (fun r' M2 => -3 = r' ∧ Inv M2)
    unfold wp_X8_first
    exact ⟨fun q => by omega, fun _ => ⟨rfl, hI⟩⟩
