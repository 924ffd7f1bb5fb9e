/-- how a number comes to a digest -/
def dgs (v : Int → Int) (i h : Int) : Int := 31 * h + v i
def dg2 (w : Int → Int → Int) (n : Int) (i h : Int) : Int := lq (dgs (w i)) (n - 0).toNat 0 h
def dig (M : Mm) : Int :=
  31 * (if M 4 4 = 0 then lq (dg2 (fun i k => M 17 (12 * i + k)) (M 3 0)) (M 3 0 - 0).toNat 0 (lq (dg2 (fun a b => M 13 (10 * a + b)) (M 1 0)) (M 1 0 - 0).toNat 0 (lq (dgs (cv M)) (7 - 0 : Int).toNat 0 59))
    else lq (dgs (M 19)) (M 1 0 - 0).toNat 0 (lq (dg2 (fun i k => M 17 (12 * i + k)) (M 3 0)) (M 3 0 - 0).toNat 0 (lq (dg2 (fun a b => M 13 (10 * a + b)) (M 1 0)) (M 1 0 - 0).toNat 0 (lq (dgs (cv M)) (7 - 0 : Int).toNat 0 59)))) + (if M 5 7 = 0 then -1 else M 5 8)
theorem s_least7 (M : Mm) (Q : Int → Mm → Prop) (h : Q (if M 5 7 = 0 then -1 else M 5 8) M) : wp_X7_least M Q := by
  unfold wp_X7_least
  refine ⟨fun q => ?_, fun q => ?_⟩
  · rw [if_pos q] at h; exact h
  · rw [if_neg q] at h; exact h
theorem s_digest7 (M : Mm) (hI : Inv M) (Q : Int → Mm → Prop) (h : Q (dig M) M) : wp_X7_digest M Q := by
  obtain ⟨hn, hk, hg, hc, hf, hs, hd, ht, hz, hb, hp, hq, ho⟩ := id hI
  obtain ⟨n1, n2, k1, k2, e1, e2⟩ := id hn
  unfold wp_X7_digest
  refine LP2.of (b := bc_X7_digest_L6 Q _) (fun s i B => B = M ∧ 0 ≤ i ∧ i ≤ 7 ∧ lq (dgs (cv M)) (7 - i).toNat i s = lq (dgs (cv M)) (7 - 0 : Int).toNat 0 59) (fun _ i _ => (7 - i).toNat) ?_ 59 0 M ⟨rfl, by omega, by omega, rfl⟩
  rintro R s i B ⟨rfl, i0, i1, hs'⟩ ih
  unfold bc_X7_digest_L6
  refine ⟨fun q => ?_, fun q => s_count7 i B hI _ ⟨by omega, ih _ _ _ ⟨rfl, by omega, by omega, ?_⟩ (by omega)⟩⟩
  · rw [lq_end q] at hs'
    unfold dig at h
    rw [← hs'] at h
    generalize hu : lq (dg2 (fun a b => B 13 (10 * a + b)) (B 1 0)) (B 1 0 - 0).toNat 0 s = u at h
    refine LP2.of (b := bc_X7_mixSquare_c13_L6 (B 1 0) _) (fun s i C => C = B ∧ 0 ≤ i ∧ i ≤ B 1 0 ∧ lq (dg2 (fun a b => B 13 (10 * a + b)) (B 1 0)) (B 1 0 - i).toNat i s = u) (fun _ i _ => (B 1 0 - i).toNat) ?_ s 0 B ⟨rfl, by omega, by omega, hu⟩
    clear ih hs' hu i0 i1 q
    rintro R1 s i C ⟨rfl, i0, i1, hs'⟩ ih
    unfold bc_X7_mixSquare_c13_L6
    refine ⟨fun q => ?_, fun q => ?_⟩
    · rw [lq_end q] at hs'
      subst hs'
      generalize hu : lq (dg2 (fun i k => C 17 (12 * i + k)) (C 3 0)) (C 3 0 - 0).toNat 0 s = u at h
      refine LP2.of (b := bc_X7_mixSquare_c17_L6 (C 3 0) _) (fun s i B => B = C ∧ 0 ≤ i ∧ i ≤ C 3 0 ∧ lq (dg2 (fun i k => C 17 (12 * i + k)) (C 3 0)) (C 3 0 - i).toNat i s = u) (fun _ i _ => (C 3 0 - i).toNat) ?_ s 0 C ⟨rfl, by omega, by omega, hu⟩
      clear ih hu i0 i1 q
      rintro R2 s i B ⟨rfl, i0, i1, hs'⟩ ih
      unfold bc_X7_mixSquare_c17_L6
      refine ⟨fun q => ?_, fun q => ?_⟩
      · rw [lq_end q] at hs'
        subst hs'
        refine ⟨fun q1 => s_least7 B _ ?_, fun q1 => ?_⟩
        · rw [if_pos q1] at h; exact h
        · rw [if_neg q1] at h
          refine LP2.of (b := bc_X7_digest_L81 Q) (fun t j C => C = B ∧ 0 ≤ j ∧ j ≤ B 1 0 ∧ lq (dgs (B 19)) (B 1 0 - j).toNat j t = lq (dgs (B 19)) (B 1 0 - 0).toNat 0 s) (fun _ i _ => (B 1 0 - i).toNat) ?_ s 0 B ⟨rfl, by omega, by omega, rfl⟩
          rintro R3 t j C ⟨rfl, j0, j1, ht'⟩ ih3
          unfold bc_X7_digest_L81
          refine ⟨fun q2 => s_least7 C _ ?_, fun q2 => ⟨by omega, by omega, ih3 _ _ _ ⟨rfl, by omega, by omega, ?_⟩ (by omega)⟩⟩
          · rw [lq_end q2] at ht'
            rw [← ht'] at h; exact h
          · rw [← ht', lq_step (i := j) (by omega)]; rfl
      · refine LP2.of (b := bc_X7_mixSquare_c17_L15 (B 3 0) i _ _) (fun t j C => C = B ∧ 0 ≤ j ∧ j ≤ B 3 0 ∧ lq (dgs (fun k => B 17 (12 * i + k))) (B 3 0 - j).toNat j t = dg2 (fun i k => B 17 (12 * i + k)) (B 3 0) i s) (fun _ j _ => (B 3 0 - j).toNat) ?_ s 0 B ⟨rfl, by omega, by omega, rfl⟩
        rintro R3 t j C ⟨rfl, j0, j1, ht'⟩ ih3
        unfold bc_X7_mixSquare_c17_L15
        refine ⟨fun q2 => ⟨by omega, ih _ _ _ ⟨rfl, by omega, by omega, ?_⟩ (by omega)⟩, fun q2 => ⟨by omega, by omega, by omega, ih3 _ _ _ ⟨rfl, by omega, by omega, ?_⟩ (by omega)⟩⟩
        · rw [lq_end q2] at ht'
          rw [← hs', lq_step (i := i) (by omega), ht']
        · rw [← ht', lq_step (i := j) (by omega)]; rfl
    · refine LP2.of (b := bc_X7_mixSquare_c13_L15 (C 1 0) i _ _) (fun t j B => B = C ∧ 0 ≤ j ∧ j ≤ C 1 0 ∧ lq (dgs (fun k => C 13 (10 * i + k))) (C 1 0 - j).toNat j t = dg2 (fun i k => C 13 (10 * i + k)) (C 1 0) i s) (fun _ j _ => (C 1 0 - j).toNat) ?_ s 0 C ⟨rfl, by omega, by omega, rfl⟩
      rintro R3 t j B ⟨rfl, j0, j1, ht'⟩ ih3
      unfold bc_X7_mixSquare_c13_L15
      refine ⟨fun q2 => ⟨by omega, ih _ _ _ ⟨rfl, by omega, by omega, ?_⟩ (by omega)⟩, fun q2 => ⟨by omega, by omega, by omega, ih3 _ _ _ ⟨rfl, by omega, by omega, ?_⟩ (by omega)⟩⟩
      · rw [lq_end q2] at ht'
        rw [← hs', lq_step (i := i) (by omega), ht']
      · rw [← ht', lq_step (i := j) (by omega)]; rfl
  · rw [← hs', lq_step (i := i) (by omega)]; rfl
theorem s_least8 (M : Mm) (hd : Jd (M 1 0) (M 3 0) (M 5 7) (M 8 12) (M 5 8) (M 8 14) (M 9) (M 22) (M 39)) (Q : Int → Mm → Prop) (h : Q (if M 5 7 = 0 then -1 else M 5 8) M) : wp_X8_least M Q := by
  obtain ⟨d1, d2, d3⟩ := hd
  unfold wp_X8_least
  refine ⟨fun q => ?_, fun q => ?_⟩
  · rw [if_pos (by omega)] at h; exact h
  · rw [if_neg (by omega)] at h; rw [(d3 (by omega)).2.2]; exact h
theorem s_digest8 (M : Mm) (hI : Inv M) (Q : Int → Mm → Prop) (h : Q (dig M) M) : wp_X8_digest M Q := by
  obtain ⟨hn, hk, hg, hc, hf, hs, hd, ht, hz, hb, hp, hq, ho⟩ := id hI
  obtain ⟨n1, n2, k1, k2, e1, e2⟩ := id hn
  have hM := Inv_Md hI
  obtain ⟨m1, m2, m3, m4, m5, m6, m7, m8, m9, m10⟩ := id hM
  obtain ⟨s1, s2, s3⟩ := id hs
  unfold wp_X8_digest
  refine LP2.of (b := bc_X8_digest_L6 Q _) (fun s i B => B = M ∧ 0 ≤ i ∧ i ≤ 7 ∧ lq (dgs (cv M)) (7 - i).toNat i s = lq (dgs (cv M)) (7 - 0 : Int).toNat 0 59) (fun _ i _ => (7 - i).toNat) ?_ 59 0 M ⟨rfl, by omega, by omega, rfl⟩
  rintro R s i B ⟨rfl, i0, i1, hs'⟩ ih
  unfold bc_X8_digest_L6
  refine ⟨fun q => ?_, fun q => s_count8 i B hI _ ⟨by omega, ih _ _ _ ⟨rfl, by omega, by omega, ?_⟩ (by omega)⟩⟩
  · rw [lq_end q] at hs'
    unfold dig at h
    rw [← hs'] at h
    generalize hu : lq (dg2 (fun a b => B 13 (10 * a + b)) (B 1 0)) (B 1 0 - 0).toNat 0 s = u at h
    refine LP2.of (b := bc_X8_digest_L33 Q _) (fun s i C => C = B ∧ 0 ≤ i ∧ i ≤ B 1 0 ∧ lq (dg2 (fun a b => B 13 (10 * a + b)) (B 1 0)) (B 1 0 - i).toNat i s = u) (fun _ i _ => (B 1 0 - i).toNat) ?_ s 0 B ⟨rfl, by omega, by omega, hu⟩
    clear ih hs' hu i0 i1 q
    rintro R1 s i C ⟨rfl, i0, i1, hs'⟩ ih
    unfold bc_X8_digest_L33
    rw [m1]
    refine ⟨fun q => ?_, fun q => ?_⟩
    · rw [lq_end q] at hs'
      subst hs'
      generalize hu : lq (dg2 (fun i k => C 17 (12 * i + k)) (C 3 0)) (C 3 0 - 0).toNat 0 s = u at h
      refine LP2.of (b := bc_X8_digest_L87 Q _) (fun s i B => B = C ∧ 0 ≤ i ∧ i ≤ C 3 0 ∧ lq (dg2 (fun i k => C 17 (12 * i + k)) (C 3 0)) (C 3 0 - i).toNat i s = u) (fun _ i _ => (C 3 0 - i).toNat) ?_ s 0 C ⟨rfl, by omega, by omega, hu⟩
      clear ih hu i0 i1 q
      rintro R2 s i B ⟨rfl, i0, i1, hs'⟩ ih
      unfold bc_X8_digest_L87
      rw [m2]
      refine ⟨fun q => ?_, fun q => ?_⟩
      · rw [lq_end q] at hs'
        subst hs'
        refine LP2.of (b := bc_X8_digest_L136 Q) (fun t j C => C = B ∧ 0 ≤ j ∧ j ≤ B 1 0 ∧ (B 4 4 = 0 → t = s) ∧ lq (dgs (B 19)) (B 1 0 - j).toNat j t = lq (dgs (B 19)) (B 1 0 - 0).toNat 0 s) (fun _ i _ => (B 1 0 - i).toNat) ?_ s 0 B ⟨rfl, by omega, by omega, fun _ => rfl, rfl⟩
        rintro R3 t j C ⟨rfl, j0, j1, ht0, ht'⟩ ih3
        unfold bc_X8_digest_L136
        rw [m1]
        refine ⟨fun q2 => s_least8 C hd _ ?_, fun q2 => ⟨fun q3 => s_least8 C hd _ ?_, fun q3 => ⟨by omega, by omega, ih3 _ _ _ ⟨rfl, by omega, by omega, fun q4 => by omega, ?_⟩ (by omega)⟩⟩⟩
        · rw [lq_end q2] at ht'
          by_cases q4 : C 4 4 = 0
          · rw [if_pos q4] at h; rw [ht0 q4]; exact h
          · rw [if_neg q4, ← ht'] at h; exact h
        · rw [if_pos (by omega)] at h; rw [ht0 (by omega)]; exact h
        · rw [← ht', lq_step (i := j) (by omega), (s3 (by omega)).2 j j0 (by omega)]; rfl
      · refine LP2.of (b := bc_X8_digest_L98 i Q _) (fun t j C => C = B ∧ 0 ≤ j ∧ j ≤ B 3 0 ∧ lq (dgs (fun k => B 17 (12 * i + k))) (B 3 0 - j).toNat j t = dg2 (fun i k => B 17 (12 * i + k)) (B 3 0) i s) (fun _ j _ => (B 3 0 - j).toNat) ?_ s 0 B ⟨rfl, by omega, by omega, rfl⟩
        rintro R3 t j C ⟨rfl, j0, j1, ht'⟩ ih3
        unfold bc_X8_digest_L98
        rw [m2]
        refine ⟨fun q2 => ⟨by omega, ih _ _ _ ⟨rfl, by omega, by omega, ?_⟩ (by omega)⟩, fun q2 => ?_⟩
        · rw [lq_end q2] at ht'
          rw [← hs', lq_step (i := i) (by omega), ht']
        · have a1 := m8 j j0 (by omega)
          refine s_costOf i j C _ (by omega) (by omega) (by omega) (by omega) (m9 _ (by omega) (by omega)) ⟨by omega, ih3 _ _ _ ⟨rfl, by omega, by omega, ?_⟩ (by omega)⟩
          rw [m10 i j i0 (by omega) j0 (by omega), ← ht', lq_step (i := j) (by omega)]; rfl
    · refine LP2.of (b := bc_X8_digest_L44 i Q _) (fun t j B => B = C ∧ 0 ≤ j ∧ j ≤ C 1 0 ∧ lq (dgs (fun k => C 13 (10 * i + k))) (C 1 0 - j).toNat j t = dg2 (fun i k => C 13 (10 * i + k)) (C 1 0) i s) (fun _ j _ => (C 1 0 - j).toNat) ?_ s 0 C ⟨rfl, by omega, by omega, rfl⟩
      rintro R3 t j B ⟨rfl, j0, j1, ht'⟩ ih3
      unfold bc_X8_digest_L44
      rw [m1]
      refine ⟨fun q2 => ⟨by omega, ih _ _ _ ⟨rfl, by omega, by omega, ?_⟩ (by omega)⟩, fun q2 => ⟨by omega, by omega, ih3 _ _ _ ⟨rfl, by omega, by omega, ?_⟩ (by omega)⟩⟩
      · rw [lq_end q2] at ht'
        rw [← hs', lq_step (i := i) (by omega), ht']
      · rw [m7 i j i0 (by omega) j0 (by omega), ← ht', lq_step (i := j) (by omega)]; rfl
  · rw [← hs', lq_step (i := i) (by omega)]; rfl
theorem e_digest (M : Mm) (hI : Inv M) : Same wp_X7_digest wp_X8_digest M := s_digest7 M hI _ (s_digest8 M hI _ ⟨rfl, hI⟩)
