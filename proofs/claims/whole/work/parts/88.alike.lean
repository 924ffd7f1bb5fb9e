/-! ALIKE -/
def ldp (n : Int) (st fd row : Int → Int) : Prop := ∀ a, 0 ≤ a → a < n → row (st a) = fd a
noncomputable def ldv (n : Int) (st fd row : Int → Int) : Int := @ite Int (ldp n st fd row) (Classical.propDecidable (ldp n st fd row)) 1 0
theorem ldv_cg {n k : Int} {st fd : Int → Int} (hst : ∀ a, 0 ≤ a → a < n → 0 ≤ st a ∧ st a < k) : LCg (ldv n st fd) k := by
  refine ⟨fun row row' h => ?_, fun row => ?_⟩
  · have e : ldp n st fd row = ldp n st fd row' := by
      unfold ldp
      apply propext
      constructor
      · intro hh a a0 a1
        have := hst a a0 a1
        rw [← h (st a) this.1 this.2]; exact hh a a0 a1
      · intro hh a a0 a1
        have := hst a a0 a1
        rw [h (st a) this.1 this.2]; exact hh a a0 a1
    unfold ldv
    rw [e]
  · unfold ldv
    by_cases q : ldp n st fd row
    · rw [if_pos q]; exact Or.inr rfl
    · rw [if_neg q]; exact Or.inl rfl
theorem fs_zr {f : Int → Int} {m : Nat} {i : Int} (h : ∀ j, i ≤ j → j < i + m → f j = 0) : fs f m i = 0 := by
  rw [fs_congr (g := fun _ => 0) h]
  exact fs_z (fun _ => rfl)
/-- a turn that leads where it must, counted at its end or on its way -/
theorem tn_lead {mu kd ex go : Int → Int} {L : (Int → Int) → Int} {k : Int} (hL : ∀ row, ((∀ j, 0 ≤ j → j < k → mu j = -1 ∨ mu j = row j) → L row = 1) ∧ (¬ (∀ j, 0 ≤ j → j < k → mu j = -1 ∨ mu j = row j) → L row = 0)) (d : Nat) : ∀ (row : Int → Int) (i : Int), i + d = k → 0 ≤ i → ((∀ j, 0 ≤ j → j < i → mu j = -1 ∨ mu j = row j) → tn (Pt kd ex go) L k d row i = tn (Pc mu kd ex go) (fun _ => 1) k d row i) ∧ (¬ (∀ j, 0 ≤ j → j < i → mu j = -1 ∨ mu j = row j) → tn (Pt kd ex go) L k d row i = 0) := by
  induction d with
  | zero =>
    intro row i hi i0
    rw [show i = k by omega]
    exact hL row
  | succ d ih =>
    intro row i hi i0
    have hst : ∀ y, (∀ j, 0 ≤ j → j < i + 1 → mu j = -1 ∨ mu j = fu row i y j) ↔ ((∀ j, 0 ≤ j → j < i → mu j = -1 ∨ mu j = row j) ∧ (mu i = -1 ∨ mu i = y)) := by
      intro y
      constructor
      · intro hh
        refine ⟨fun j j0 j1 => ?_, ?_⟩
        · have := hh j j0 (by omega)
          rw [fu_n _ _ (by omega)] at this; exact this
        · have := hh i i0 (by omega)
          rw [fu_s] at this; exact this
      · rintro ⟨h1, h2⟩ j j0 j1
        by_cases e : j = i
        · rw [e, fu_s]; exact h2
        · rw [fu_n _ _ e]; exact h1 j j0 (by omega)
    refine ⟨fun hh => fs_congr (fun y _ _ => ?_), fun hh => fs_zr (fun y _ _ => ?_)⟩
    · obtain ⟨g1, g2⟩ := ih (fu row i y) (i + 1) (by omega) (by omega)
      by_cases q : Pt kd ex go row i y
      · rw [tb_pos q]
        by_cases q2 : mu i = -1 ∨ mu i = y
        · rw [tb_pos (P := Pc mu kd ex go) ⟨q2, q⟩]
          exact g1 ((hst y).mpr ⟨hh, q2⟩)
        · rw [tb_neg (P := Pc mu kd ex go) (fun z => q2 z.1)]
          exact g2 (fun z => q2 ((hst y).mp z).2)
      · rw [tb_neg q, tb_neg (P := Pc mu kd ex go) (fun z => q z.2)]
    · obtain ⟨g1, g2⟩ := ih (fu row i y) (i + 1) (by omega) (by omega)
      by_cases q : Pt kd ex go row i y
      · rw [tb_pos q]
        exact g2 (fun z => hh ((hst y).mp z).1)
      · rw [tb_neg q]
theorem s_mleads (M : Mm) (Q : Int → Mm → Prop) {n : Int} {st fd : Int → Int} (hn : M 8 0 = n ∧ 0 ≤ n ∧ n ≤ 10) (hs : ∀ a, 0 ≤ a → a < n → M 38 a = st a ∧ M 39 a = fd a ∧ 0 ≤ st a ∧ st a < 7) (h1 : ldv n st fd (M 48) = 1 → Q 1 M) (h0 : ldv n st fd (M 48) = 0 → Q 0 M) : wp_X8_leads M Q := by
  refine LP1.of (b := bc_X8_leads_L2 Q) (fun i B => B = M ∧ 0 ≤ i ∧ i ≤ n ∧ ∀ a, 0 ≤ a → a < i → M 48 (st a) = fd a) (fun i _ => (n - i).toNat) ?_ 0 M ⟨rfl, by omega, by omega, fun a a0 a1 => by omega⟩
  rintro R i B ⟨rfl, i0, i1, hi⟩ ih
  unfold bc_X8_leads_L2
  rw [hn.1]
  refine ⟨fun q => h1 (if_pos (fun a a0 a1 => hi a a0 (by omega))), fun q => ?_⟩
  obtain ⟨g1, g2, g3, g4⟩ := hs i i0 (by omega)
  rw [g1, g2]
  refine ⟨by omega, by omega, by omega, fun q1 => ⟨by omega, ih _ _ ⟨rfl, by omega, by omega, fun a a0 a1 => ?_⟩ (by omega)⟩, fun q1 => h0 (if_neg (fun z => q1 (z i i0 (by omega))))⟩
  by_cases e : a = i
  · rw [e]; exact q1
  · exact hi a a0 (by omega)
theorem s_must (n : Int) (Q : Int → Mm → Prop) (B : Mm) (hn : 0 ≤ n ∧ n ≤ 10) (hb : ∀ j, 0 ≤ j → j < 7 → B 28 j = -1) (hs : ∀ a, 0 ≤ a → a < n → 0 ≤ B 19 a ∧ B 19 a < 7) (hi : ∀ a b, 0 ≤ a → a < n → 0 ≤ b → b < n → B 19 a = B 19 b → a = b) (h : ∀ C : Mm, (∀ c, c ≠ 28 → C c = B c) → (∀ a, 0 ≤ a → a < n → C 28 (B 19 a) = B 22 a) → (∀ j, 0 ≤ j → j < 7 → (∀ a, 0 ≤ a → a < n → B 19 a ≠ j) → C 28 j = -1) → wp_X6_turnsFrom 9 0 C (fun z1 M1 => (z1 ≤ 0 → Q 0 M1) ∧ (¬ z1 ≤ 0 → Q 1 M1))) : wp_X6_leads_c19_c22_L11 n Q 0 B := by
  refine LP1.of (b := bc_X6_leads_c19_c22_L11 n Q) (fun i C => (∀ c, c ≠ 28 → C c = B c) ∧ 0 ≤ i ∧ i ≤ n ∧ (∀ a, 0 ≤ a → a < i → C 28 (B 19 a) = B 22 a) ∧ (∀ j, 0 ≤ j → j < 7 → (∀ a, 0 ≤ a → a < i → B 19 a ≠ j) → C 28 j = -1)) (fun i _ => (n - i).toNat) ?_ 0 B ⟨fun _ _ => rfl, by omega, by omega, fun a a0 a1 => by omega, fun j j0 j1 _ => hb j j0 j1⟩
  rintro R i C ⟨f1, i0, i1, h1, h2⟩ ih
  unfold bc_X6_leads_c19_c22_L11
  rw [f1 19 (by decide), f1 22 (by decide)]
  refine ⟨fun q => h C f1 (fun a a0 a1 => h1 a a0 (by omega)) (fun j j0 j1 hh => h2 j j0 j1 (fun a a0 a1 => hh a a0 (by omega))), fun q => ?_⟩
  have hsi := hs i i0 (by omega)
  refine ⟨by omega, by omega, hsi, by omega, ih _ _ ⟨fun c hc => ?_, by omega, by omega, fun a a0 a1 => ?_, fun j j0 j1 hh => ?_⟩ (by omega)⟩
  · simp only [mset_eq, fu_ap, hc, reduceIte]; exact f1 c hc
  · show fu (C 28) (B 19 i) (B 22 i) (B 19 a) = B 22 a
    by_cases e : a = i
    · rw [e, fu_s]
    · rw [fu_n _ _ (fun z => e (hi a i a0 (by omega) i0 (by omega) z))]
      exact h1 a a0 (by omega)
  · show fu (C 28) (B 19 i) (B 22 i) j = -1
    rw [fu_n _ _ (fun z => hh i i0 (by omega) z.symm)]
    exact h2 j j0 j1 (fun a a0 a1 => hh a a0 (by omega))
theorem e_alike (M : Mm) (hI : Inv M) : Same wp_X7_alike wp_X8_alike M := by
  obtain ⟨hn, hk, hg, hc, hf, hs, hd, ht, hz, hb, hp, hq, ho⟩ := id hI
  obtain ⟨n1, n2, k1, k2, e1, e2⟩ := id hn
  obtain ⟨s1, s2, s3⟩ := id hs
  obtain ⟨d1, d2, d3⟩ := id hd
  unfold Same wp_X7_alike wp_X6_leads_c19_c22
  refine ⟨fun q => ?_, fun q => ⟨fun q1 => ?_, fun q1 => ⟨fun q2 => ?_, fun q2 => ?_⟩⟩⟩
  · show wp_X8_alike M (fun r' M2 => -3 = r' ∧ Inv M2)
    exact ⟨fun _ => ⟨rfl, hI⟩, fun z => absurd (by omega) z⟩
  · show wp_X8_alike M (fun r' M2 => -3 = r' ∧ Inv M2)
    exact ⟨fun z => absurd (by omega) q, fun _ => ⟨fun _ => ⟨rfl, hI⟩, fun z => absurd (by omega) z⟩⟩
  · obtain ⟨sk, sM⟩ := s3 q
    obtain ⟨dk, dM, dc⟩ := d3 q1
    have hst : ∀ a, 0 ≤ a → a < M 1 0 → 0 ≤ M 19 a ∧ M 19 a < M 3 0 := fun a a0 a1 => by have := sk.2.1 a a0 a1; omega
    have hfd : ∀ a, 0 ≤ a → a < M 1 0 → 0 ≤ M 22 a ∧ M 22 a < M 3 0 := fun a a0 a1 => by have := dk.2.1 a a0 a1; omega
    have hnk := sk.1
    refine s_fill28 M _ (fun B f1 f2 => ?_)
    have b3 := f1 3 (by decide)
    have b19 := f1 19 (by decide)
    have b22 := f1 22 (by decide)
    refine s_must (M 1 0) _ B (by omega) f2 (fun a a0 a1 => by rw [b19]; have := hst a a0 a1; omega) (fun a b a0 a1 b0 b1 e => by rw [b19] at e; exact sk.2.2 a b a0 a1 b0 b1 e) (fun C g1 g2 g3 => ?_)
    rw [b19, b22] at g2
    rw [b19] at g3
    have frC : ∀ c, c ≠ 28 → C c = M c := fun c hc => (g1 c hc).trans (f1 c hc)
    have c3 := frC 3 (by decide)
    refine s_turnsFrom (Mi := C) (by rw [c3]; omega) (C 3 0).toNat 9 (fun _ => 0) 0 C _ (by rw [c3]; omega) (by rw [c3]; omega) (by omega) (fun j j0 j1 => by omega) (CT_0 hI frC _) (fun M' hC => ?_)
    obtain ⟨c1, c2, c4⟩ := id hC
    have fr : ∀ c, c ≠ 27 → c ≠ 28 → c ≠ 29 → M' c = M c := fun c x1 x2 x3 => (c1 c x1 x3).trans (frC c x2)
    have m8 := fr 8 (by decide) (by decide) (by decide)
    rw [c3, frC 14 (by decide), frC 15 (by decide), frC 16 (by decide)]
    have hlead : ∀ row : Int → Int, (∀ j, 0 ≤ j → j < M 3 0 → C 28 j = -1 ∨ C 28 j = row j) ↔ ldp (M 1 0) (M 19) (M 22) row := by
      intro row
      constructor
      · intro hh a a0 a1
        have x1 := hst a a0 a1
        have x2 := hfd a a0 a1
        have x3 := hh (M 19 a) x1.1 x1.2
        rw [g2 a a0 a1] at x3
        omega
      · intro hh j j0 j1
        by_cases e : ∃ a, 0 ≤ a ∧ a < M 1 0 ∧ M 19 a = j
        · obtain ⟨a, a0, a1, e⟩ := e
          right
          rw [← e, g2 a a0 a1]
          exact (hh a a0 a1).symm
        · left
          exact g3 j j0 (by omega) (fun a a0 a1 z => e ⟨a, a0, a1, z⟩)
    have hT := (tn_lead (mu := C 28) (kd := M 14) (ex := M 15) (go := M 16) (L := ldv (M 1 0) (M 19) (M 22)) (k := M 3 0) (fun row => ⟨fun z => if_pos ((hlead row).mp z), fun z => if_neg (fun z2 => z ((hlead row).mpr z2))⟩) (M 3 0).toNat (fun _ => 0) 0 (by omega) (by omega)).1 (fun j j0 j1 => by omega)
    rw [← hT]
    generalize hV : tn (Pt (M 14) (M 15) (M 16)) (ldv (M 1 0) (M 19) (M 22)) (M 3 0) (M 3 0).toNat (fun _ => 0) 0 = V
    have hm : ∀ r : Int, (V ≤ 0 → r = 0) → (¬ V ≤ 0 → r = 1) → wp_X8_alike M' (fun r' M2 => r = r' ∧ Inv M2) := by
      intro r r1 r2
      unfold wp_X8_alike
      rw [m8]
      refine ⟨fun z => absurd (by omega) q, fun _ => ⟨fun z => absurd (by omega) q1, fun _ => ⟨fun _ => ?_, fun z => absurd (by omega) z⟩⟩⟩
      refine m_turned 1 M' (k := M 3 0) (kd := M 14) (ex := M 15) (go := M 16) (L := ldv (M 1 0) (M 19) (M 22)) (by omega) (by rw [m8]; exact e2) (ldv_cg hst) (fun j j0 j1 => ?_) (fun j j0 j1 => ?_) (fun z => absurd z (by decide)) (fun _ N Q' y1 y2 y3 => s_mleads N Q' (n := M 1 0) (st := M 19) (fd := M 22) ⟨by rw [y1 8 (by decide), m8]; exact e1, by omega, by omega⟩ (fun a a0 a1 => ?_) y2 y3) _ (fun _ => 0) (fun M2 y1 => ?_)
      · rw [fr 34 (by decide) (by decide) (by decide), fr 35 (by decide) (by decide) (by decide)]
        have := hk j j0 j1; omega
      · rw [fr 36 (by decide) (by decide) (by decide)]
        exact (hg j j0 j1).2.2
      · rw [y1 38 (by decide), y1 39 (by decide), fr 38 (by decide) (by decide) (by decide), fr 39 (by decide) (by decide) (by decide)]
        have := hst a a0 a1
        exact ⟨sM a a0 a1, dM a a0 a1, by omega, by omega⟩
      · have hfin : Inv M2 := Inv_ft hI (fun c x1 x2 x3 x4 => (y1 c x4).trans (fr c x1 x2 x3)) (fun j j0 j1 => by
          rw [y1 29 (by decide)]
          exact (c4 j j0 j1).mpr (fun b b0 b1 => by omega))
        rw [hV]
        exact ⟨fun z => ⟨r1 z, hfin⟩, fun z => ⟨r2 z, hfin⟩⟩
    exact ⟨fun z => ⟨fun _ => hm 0 (fun _ => rfl) (fun z2 => absurd z z2), fun z2 => absurd rfl z2⟩, fun z => ⟨fun z2 => absurd z2 (by decide), fun _ => hm 1 (fun z2 => absurd z2 z) (fun _ => rfl)⟩⟩
  · show wp_X8_alike M (fun r' M2 => -3 = r' ∧ Inv M2)
    exact ⟨fun z => absurd (by omega) q, fun _ => ⟨fun z => absurd (by omega) q1, fun _ => ⟨fun z => absurd (by omega) q2, fun _ => ⟨rfl, hI⟩⟩⟩⟩
