/-! the reference's turns -/
theorem Pt_agree {k : Int} {kd ex go kd' ex' go' row : Int → Int} {i y : Int} (hk : k ≤ 12) (h1 : ∀ j, 0 ≤ j → j < k → kd' j = kd j ∧ ex' j = ex j) (h2 : ∀ j, 0 ≤ j → j < 144 → go' j = go j) (hi : 0 ≤ i ∧ i < k) (hy : 0 ≤ y ∧ y < k) (hr : ∀ j, 0 ≤ j → j < i → 0 ≤ row j ∧ row j < k) : Pt kd' ex' go' row i y = Pt kd ex go row i y := by
  unfold Pt
  rw [(h1 i hi.1 hi.2).1, (h1 i hi.1 hi.2).2, (h1 y hy.1 hy.2).1, (h1 y hy.1 hy.2).2, h2 (12 * i + i) (by omega) (by omega), h2 (12 * y + y) (by omega) (by omega)]
  apply propext
  constructor
  · rintro ⟨a1, a2, a3, a4⟩
    refine ⟨a1, a2, a3, fun j j0 j1 => ?_⟩
    have := hr j j0 j1
    have a5 := a4 j j0 j1
    rw [h2 (12 * i + j) (by omega) (by omega), h2 (12 * y + row j) (by omega) (by omega), h2 (12 * j + i) (by omega) (by omega), h2 (12 * row j + y) (by omega) (by omega)] at a5
    exact a5
  · rintro ⟨a1, a2, a3, a4⟩
    refine ⟨a1, a2, a3, fun j j0 j1 => ?_⟩
    have := hr j j0 j1
    have a5 := a4 j j0 j1
    rw [h2 (12 * i + j) (by omega) (by omega), h2 (12 * y + row j) (by omega) (by omega), h2 (12 * j + i) (by omega) (by omega), h2 (12 * row j + y) (by omega) (by omega)]
    exact a5
theorem s_isTurned (i y : Int) (M : Mm) (Q : Int → Mm → Prop) (hi : 0 ≤ i ∧ i < 7) (hy : 0 ≤ y ∧ y < 7) (hiy : M 48 i = y) (hr : ∀ j, 0 ≤ j → j < i → 0 ≤ M 48 j ∧ M 48 j < 7) (h1 : Pt (M 34) (M 35) (M 36) (M 48) i y → Q 1 M) (h0 : ¬ Pt (M 34) (M 35) (M 36) (M 48) i y → Q 0 M) : wp_X8_isTurned i M Q := by
  unfold wp_X8_isTurned
  rw [hiy]
  refine ⟨hi, by omega, by omega, fun q => h0 (fun hp => q hp.1.symm), fun q => ⟨by omega, by omega, fun q1 => ?_, fun q1 => h0 (fun hp => q1 hp.2.1.symm)⟩⟩
  refine LP1.of (b := bc_X8_isTurned_L41 i y Q) (fun x B => B = M ∧ 0 ≤ x ∧ x ≤ i + 1 ∧ (x = i + 1 → M 36 (12 * i + i) = M 36 (12 * y + y)) ∧ ∀ j, 0 ≤ j → j < x → j < i → M 48 j ≠ y ∧ M 36 (12 * i + j) = M 36 (12 * y + M 48 j) ∧ M 36 (12 * j + i) = M 36 (12 * M 48 j + y)) (fun x _ => (i + 1 - x).toNat) ?_ 0 M ⟨rfl, by omega, by omega, fun z => by omega, fun j j0 j1 => by omega⟩
  rintro R x B ⟨rfl, x0, x1, hl, hx⟩ ih
  unfold bc_X8_isTurned_L41
  refine ⟨fun q2 => h1 ⟨q.symm, q1.symm, hl (by omega), fun j j0 j1 => hx j j0 (by omega) j1⟩, fun q2 => ⟨fun q3 => ?_, fun q3 => ?_⟩⟩
  · have e : x = i := by omega
    rw [e, hiy]
    refine ⟨by omega, by omega, by omega, fun q4 => h0 (fun hp => q4 hp.2.2.1), fun q4 => ⟨by omega, by omega, by omega, fun _ => ⟨by omega, ih _ _ ⟨rfl, by omega, by omega, fun _ => q4, fun j j0 j1 j2 => hx j j0 (by omega) j2⟩ (by omega)⟩, fun q5 => absurd q4 q5⟩⟩
  · have hrx := hr x x0 (by omega)
    refine ⟨by omega, fun q4 => h0 (fun hp => (hp.2.2.2 x x0 (by omega)).1 q4), fun q4 => ⟨by omega, by omega, by omega, fun q5 => h0 (fun hp => q5 (hp.2.2.2 x x0 (by omega)).2.1), fun q5 => ⟨by omega, by omega, by omega, fun q6 => ⟨by omega, ih _ _ ⟨rfl, by omega, by omega, fun z => by omega, fun j j0 j1 j2 => ?_⟩ (by omega)⟩, fun q6 => h0 (fun hp => q6 (hp.2.2.2 x x0 (by omega)).2.2)⟩⟩⟩
    by_cases e : j = x
    · rw [e]; exact ⟨q4, q5, q6⟩
    · exact hx j j0 (by omega) j2
noncomputable def RT (P : (Int → Int) → Int → Int → Prop) (L : (Int → Int) → Int) (k : Int) : Nat → (Int → Int) → Int
  | 0 => fun _ => 0
  | m + 1 => fun row => RT P L k m row + fs (tb P (tn P L k (k - 1 - (m : Int)).toNat) row (m : Int)) (k - (row (m : Int) + 1)).toNat (row (m : Int) + 1)
theorem RT_step {P : (Int → Int) → Int → Int → Prop} {L : (Int → Int) → Int} {k : Int} {row : Int → Int} {i : Int} (i0 : 0 ≤ i) : RT P L k (i + 1).toNat row = RT P L k i.toNat row + fs (tb P (tn P L k (k - 1 - i).toNat) row i) (k - (row i + 1)).toNat (row i + 1) := by
  rw [show (i + 1).toNat = i.toNat + 1 by omega]
  show RT P L k i.toNat row + fs (tb P (tn P L k (k - 1 - ((i.toNat : Nat) : Int)).toNat) row ((i.toNat : Nat) : Int)) (k - (row ((i.toNat : Nat) : Int) + 1)).toNat (row ((i.toNat : Nat) : Int) + 1) = _
  rw [show ((i.toNat : Nat) : Int) = i by omega]
theorem RT_congr {P : (Int → Int) → Int → Int → Prop} {L : (Int → Int) → Int} {k : Int} (hP : PCg P) (hL : LCg L k) (m : Nat) : ∀ (row row' : Int → Int), (m : Int) ≤ k → (∀ j : Int, 0 ≤ j → j < m → row j = row' j) → RT P L k m row = RT P L k m row' := by
  induction m with
  | zero => intro row row' _ _; rfl
  | succ m ih =>
    intro row row' hm h
    show RT P L k m row + fs (tb P (tn P L k (k - 1 - (m : Int)).toNat) row (m : Int)) (k - (row (m : Int) + 1)).toNat (row (m : Int) + 1) = RT P L k m row' + fs (tb P (tn P L k (k - 1 - (m : Int)).toNat) row' (m : Int)) (k - (row' (m : Int) + 1)).toNat (row' (m : Int) + 1)
    rw [ih row row' (by omega) (fun j j0 j1 => h j j0 (by omega)), h m (by omega) (by omega)]
    congr 1
    exact fs_congr (fun y _ _ => tb_congr hP (fun j j0 j1 => h j j0 (by omega)) (tn_congr hP hL _ _ _ _ (by omega) (fu_agree (fun j j0 j1 => h j j0 (by omega)))))
theorem RT_nn {P : (Int → Int) → Int → Int → Prop} {L : (Int → Int) → Int} {k : Int} (hk : k ≤ 7) (hL : LCg L k) (m : Nat) (row : Int → Int) : 0 ≤ RT P L k m row := by
  induction m with
  | zero => exact Int.le_refl _
  | succ m ih =>
    show 0 ≤ RT P L k m row + fs _ _ _
    have := fs_nn (f := tb P (tn P L k (k - 1 - (m : Int)).toNat) row (m : Int)) (m := (k - (row (m : Int) + 1)).toNat) (i := row (m : Int) + 1) (fun z => tb_b hk hL _ row _ z)
    omega
theorem m_turned (ld : Int) (Mi : Mm) {k : Int} {kd ex go : Int → Int} {L : (Int → Int) → Int} (hk : 1 ≤ k ∧ k ≤ 7) (m5 : Mi 8 5 = k) (hL : LCg L k) (a1 : ∀ j, 0 ≤ j → j < k → Mi 34 j = kd j ∧ Mi 35 j = ex j) (a2 : ∀ j, 0 ≤ j → j < 144 → Mi 36 j = go j) (l0 : ld = 0 → ∀ row, L row = 1) (l1 : ld ≠ 0 → ∀ (M : Mm) (Q : Int → Mm → Prop), (∀ c, c ≠ 48 → M c = Mi c) → (L (M 48) = 1 → Q 1 M) → (L (M 48) = 0 → Q 0 M) → wp_X8_leads M Q) (Q : Int → Mm → Prop) (r0 : Int → Int) (h : ∀ M', (∀ c, c ≠ 48 → M' c = Mi c) → Q (tn (Pt kd ex go) L k k.toNat r0 0) M') : wp_X8_turned ld Mi Q := by
  have hP := Pt_cg kd ex go
  generalize hT : tn (Pt kd ex go) L k k.toNat r0 0 = T at h
  have hT2 : T ≤ 823543 := by rw [← hT]; exact (tn_max hk.2 hL k.toNat (by omega) r0 0).2
  unfold wp_X8_turned
  refine LP2.of (b := bc_X8_turned_L11 ld Q) (fun s i M => -1 ≤ i ∧ i < k ∧ 0 ≤ s ∧ (∀ c, c ≠ 48 → M c = Mi c) ∧ (∀ b, 0 ≤ b → b < i → 0 ≤ M 48 b ∧ M 48 b < k) ∧ (0 ≤ i → -1 ≤ M 48 i ∧ M 48 i < k) ∧ s + RT (Pt kd ex go) L k (i + 1).toNat (M 48) = T) (fun _ i M => mu (M 48) k i) ?_ 0 0 _ ⟨by omega, by omega, by omega, fun c hc => by simp only [mset_eq, fu_ap, hc, reduceIte], fun b b0 b1 => by omega, fun _ => ?_, ?_⟩
  · rintro R s i M ⟨i0, i1, s0, f1, hr, hra, hs⟩ ih
    unfold bc_X8_turned_L11
    refine ⟨fun q => ?_, fun q => ?_⟩
    · rw [show (i + 1).toNat = 0 by omega] at hs
      have e : s = T := by rw [← hs]; show s = s + 0; omega
      rw [e]; exact h M f1
    have hri := hra (by omega)
    have m85 : M 8 5 = k := by rw [f1 8 (by decide)]; exact m5
    rw [RT_step (by omega)] at hs
    have f48 : (mset M 48 i (M 48 i + 1)) 48 = fu (M 48) i (M 48 i + 1) := rfl
    have fr : ∀ c, c ≠ 48 → (mset M 48 i (M 48 i + 1)) c = M c := fun c hc => by simp only [mset_eq, fu_ap, hc, reduceIte]
    have hiR : iR (M 48 i + 1) := by omega
    generalize hM1 : mset M 48 i (M 48 i + 1) = M1 at *
    generalize hy : M 48 i + 1 = y at *
    have fa : M1 48 i = y := by rw [f48]; exact fu_s _ _ _
    have fb : ∀ b, 0 ≤ b → b < i → M1 48 b = M 48 b := fun b b0 b1 => by rw [f48]; exact fu_n _ _ (by omega)
    have fr1 : ∀ c, c ≠ 48 → M1 c = Mi c := fun c hc => (fr c hc).trans (f1 c hc)
    rw [fa, fr 8 (by decide), m85]
    have hnn := RT_nn (P := Pt kd ex go) hk.2 hL i.toNat (M 48)
    refine ⟨by omega, hiR, by omega, by omega, fun q1 => ?_, fun q1 => ⟨by omega, ih _ _ _ ⟨by omega, by omega, s0, fr1, fun b b0 b1 => by rw [fb b b0 (by omega)]; exact hr b b0 (by omega), fun q2 => by rw [fb _ q2 (by omega)]; have := hr (i + -1) q2 (by omega); omega, ?_⟩ ?_⟩⟩
    rotate_left
    · rw [fs_end (by omega), Int.add_zero] at hs
      rw [show (i + -1 + 1).toNat = i.toNat by omega, RT_congr hP hL _ _ (M 48) (by omega) (fun b b0 b1 => fb b b0 (by omega))]
      exact hs
    · refine mu_lt (by omega) (by omega) (by omega) (Or.inl (by omega)) (fun b b0 b1 => ⟨fb b b0 b1, ?_⟩) (by omega) (fun z => by omega) (fun z => by omega)
      have := hr b b0 b1; omega
    have hyk : 0 ≤ y ∧ y < k := by omega
    rw [fs_step (by omega)] at hs
    have hfs := fs_nn (f := tb (Pt kd ex go) (tn (Pt kd ex go) L k (k - 1 - i).toNat) (M 48) i) (m := (k - (y + 1)).toNat) (i := y + 1) (fun z => tb_b hk.2 hL _ _ _ z)
    have em : Pt (M1 34) (M1 35) (M1 36) (M1 48) i y = Pt kd ex go (M 48) i y := by
      rw [fr1 34 (by decide), fr1 35 (by decide), fr1 36 (by decide)]
      rw [Pt_agree (k := k) (by omega) a1 a2 (by omega) hyk (fun j j0 j1 => by rw [fb j j0 j1]; exact hr j j0 j1)]
      exact hP _ _ _ _ fb
    have hR2 : ∀ (M' : Mm), (∀ b, 0 ≤ b → b < i → M' 48 b = M 48 b) → M' 48 i = y → RT (Pt kd ex go) L k (i + 1).toNat (M' 48) = RT (Pt kd ex go) L k i.toNat (M 48) + fs (tb (Pt kd ex go) (tn (Pt kd ex go) L k (k - 1 - i).toNat) (M 48) i) (k - (y + 1)).toNat (y + 1) := by
      intro M' e1 e2
      rw [RT_step (by omega), e2, RT_congr hP hL _ _ (M 48) (by omega) (fun b b0 b1 => e1 b b0 (by omega))]
      congr 1
      exact fs_congr (fun z _ _ => tb_congr hP e1 (tn_congr hP hL _ _ _ _ (by omega) (fu_agree e1)))
    have stay : ∀ (v : Int) (M' : Mm), v = tb (Pt kd ex go) (tn (Pt kd ex go) L k (k - 1 - i).toNat) (M 48) i y → 0 ≤ v → (∀ c, c ≠ 48 → M' c = Mi c) → (∀ b, 0 ≤ b → b < i → M' 48 b = M 48 b) → M' 48 i = y → R (s + v) i M' := by
      intro v M' e0 v0 f' e1 e2
      refine ih _ _ _ ⟨i0, i1, by omega, f', fun b b0 b1 => by rw [e1 b b0 b1]; exact hr b b0 b1, fun _ => by omega, ?_⟩ ?_
      · rw [hR2 M' e1 e2]; omega
      · refine mu_lt (by omega) (by omega) (by omega) (Or.inr (Or.inl rfl)) (fun b b0 b1 => ⟨e1 b b0 b1, ?_⟩) (by omega) (fun _ => by omega) (fun z => by omega)
        have := hr b b0 b1; omega
    refine s_isTurned i y M1 _ (by omega) (by omega) fa (fun j j0 j1 => by rw [fb j j0 j1]; have := hr j j0 j1; omega) (fun hp => ⟨fun z => absurd z (by decide), fun _ => ?_⟩) (fun hp => ⟨fun _ => ?_, fun z => absurd rfl z⟩)
    · rw [em] at hp
      have m1 : M1 8 5 = k := by rw [fr1 8 (by decide)]; exact m5
      rw [m1]
      rw [tb_pos hp] at hs
      refine ⟨by omega, fun q2 => ⟨by omega, by omega, ?_⟩, fun q2 => ?_⟩
      · have r48 : (mset M1 48 (i + 1) (-1)) 48 = fu (M1 48) (i + 1) (-1) := rfl
        have rf : ∀ c, c ≠ 48 → (mset M1 48 (i + 1) (-1)) c = M1 c := fun c hc => by simp only [mset_eq, fu_ap, hc, reduceIte]
        generalize hM4 : mset M1 48 (i + 1) (-1) = M4 at *
        have rb : ∀ b, 0 ≤ b → b < i + 1 → M4 48 b = fu (M 48) i y b := fun b b0 b1 => by rw [r48, fu_n _ _ (by omega), f48]
        have ra : M4 48 (i + 1) = -1 := by rw [r48]; exact fu_s _ _ _
        have e1 : ∀ b, 0 ≤ b → b < i → M4 48 b = M 48 b := fun b b0 b1 => by rw [rb b b0 (by omega)]; exact fu_n _ _ (by omega)
        have e2 : M4 48 i = y := by rw [rb i (by omega) (by omega)]; exact fu_s _ _ _
        refine ih _ _ _ ⟨by omega, by omega, s0, fun c hc => (rf c hc).trans (fr1 c hc), fun b b0 b1 => ?_, fun _ => by omega, ?_⟩ ?_
        · by_cases e : b = i
          · rw [e, e2]; exact hyk
          · rw [e1 b b0 (by omega)]; exact hr b b0 (by omega)
        · rw [RT_step (by omega), ra, hR2 M4 e1 e2]
          have e3 : fs (tb (Pt kd ex go) (tn (Pt kd ex go) L k (k - 1 - (i + 1)).toNat) (M4 48) (i + 1)) (k - (-1 + 1)).toNat (-1 + 1) = tn (Pt kd ex go) L k (k - 1 - i).toNat (M4 48) (i + 1) := by
            rw [show (k - 1 - i).toNat = (k - 1 - (i + 1)).toNat + 1 by omega]; rfl
          rw [e3, tn_congr hP hL _ _ (fu (M 48) i y) _ (by omega) rb]
          omega
        · refine mu_lt (by omega) (by omega) (by omega) (Or.inr (Or.inr rfl)) (fun b b0 b1 => ⟨e1 b b0 b1, ?_⟩) (by omega) (fun _ => by omega) (fun _ => ra)
          have := hr b b0 b1; omega
      · have eL : tn (Pt kd ex go) L k (k - 1 - i).toNat (fu (M 48) i y) (i + 1) = L (M1 48) := by
          rw [show (k - 1 - i).toNat = 0 by omega]
          exact hL.1 _ _ (fun j j0 j1 => by rw [f48])
        rw [eL] at hs
        have hLv := hL.2 (M1 48)
        refine ⟨fun q3 => ⟨by omega, stay 1 M1 ?_ (by omega) fr1 fb fa⟩, fun q3 => l1 q3 M1 _ fr1 (fun hl => ⟨fun z => absurd z (by decide), fun _ => ⟨by omega, stay 1 M1 ?_ (by omega) fr1 fb fa⟩⟩) (fun hl => ⟨fun _ => ⟨by omega, stay 0 M1 ?_ (by omega) fr1 fb fa⟩, fun z => absurd rfl z⟩)⟩
        · rw [tb_pos hp, eL, l0 q3]
        · rw [tb_pos hp, eL, hl]
        · rw [tb_pos hp, eL, hl]
    · rw [em] at hp
      have := stay 0 M1 (tb_neg hp).symm (by omega) fr1 fb fa
      rw [Int.add_zero] at this
      exact this
  · show -1 ≤ fu (Mi 48) 0 (-1) 0 ∧ fu (Mi 48) 0 (-1) 0 < k
    rw [fu_s]; omega
  · rw [RT_step (by omega)]
    show 0 + (0 + fs (tb (Pt kd ex go) (tn (Pt kd ex go) L k (k - 1 - 0).toNat) (fu (Mi 48) 0 (-1)) 0) (k - (fu (Mi 48) 0 (-1) 0 + 1)).toNat (fu (Mi 48) 0 (-1) 0 + 1)) = T
    rw [fu_s, ← hT, show k.toNat = (k - 1 - 0).toNat + 1 by omega, Int.zero_add, Int.zero_add]
    exact tn_congr hP hL ((k - 1 - 0).toNat + 1) (fu (Mi 48) 0 (-1)) r0 0 (by omega) (fun j j0 j1 => by omega)
theorem s_fill28 (M : Mm) (Q : Mm → Prop) (h : ∀ M' : Mm, (∀ c, c ≠ 28 → M' c = M c) → (∀ j, 0 ≤ j → j < 7 → M' 28 j = -1) → Q M') : wp_J7_fill_53178_c28 (-1) M Q := by
  refine LP1.of (b := bc_J7_fill_53178_c28_L5 (-1) 7 Q) (fun i B => (∀ c, c ≠ 28 → B c = M c) ∧ 0 ≤ i ∧ i ≤ 7 ∧ ∀ j, 0 ≤ j → j < i → B 28 j = -1) (fun i _ => (7 - i).toNat) ?_ 0 M ⟨fun _ _ => rfl, by omega, by omega, fun j j0 j1 => by omega⟩
  rintro R i B ⟨f1, i0, i1, hi⟩ ih
  unfold bc_J7_fill_53178_c28_L5
  refine ⟨fun q => h B f1 (fun j j0 j1 => hi j j0 (by omega)), fun q => ⟨by omega, by omega, ih _ _ ⟨fun c hc => ?_, by omega, by omega, fun a a0 a1 => ?_⟩ (by omega)⟩⟩
  · simp only [mset_eq, fu_ap, hc, reduceIte]; exact f1 c hc
  · simp only [mset_eq, fu_ap, reduceIte]
    by_cases e : a = i
    · rw [if_pos e]
    · rw [if_neg e]; exact hi a a0 (by omega)
theorem tn_P {P P' : (Int → Int) → Int → Int → Prop} {L : (Int → Int) → Int} {k : Int} (h : ∀ row i y, 0 ≤ i → i < k → P row i y = P' row i y) (d : Nat) : ∀ (row : Int → Int) (i : Int), i + d = k → 0 ≤ i → tn P L k d row i = tn P' L k d row i := by
  induction d with
  | zero => intro row i _ _; rfl
  | succ d ih =>
    intro row i hi i0
    refine fs_congr (fun y _ _ => ?_)
    unfold tb
    rw [h row i y i0 (by omega), ih _ _ (by omega) (by omega)]
/-- rows of the turns that nobody reads again -/
theorem Inv_ft {M M2 : Mm} (hI : Inv M) (f1 : ∀ c, c ≠ 27 → c ≠ 28 → c ≠ 29 → c ≠ 48 → M2 c = M c) (fz : ∀ j, 0 ≤ j → j < 7 → M2 29 j = 0) : Inv M2 := by
  obtain ⟨hn, hk', hg, hc, hf, hs, hd, ht, hz, hb, hp, hq, ho⟩ := id hI
  unfold Inv
  simp only [f1, ne_eq, Nat.reduceEqDiff, Int.reduceEq, not_false_eq_true]
  exact ⟨hn, hk', hg, hc, hf, hs, hd, ht, ⟨hz.1, fz⟩, hb, hp, hq, ho⟩
theorem CT_0 {M B : Mm} (hI : Inv M) (f1 : ∀ c, c ≠ 28 → B c = M c) (row : Int → Int) : CT B B row 0 := by
  obtain ⟨hn, hk', hg, hc, hf, hs, hd, ht, hz, hb, hp, hq, ho⟩ := id hI
  refine ⟨fun _ _ _ => rfl, fun j j0 j1 => by omega, fun y y0 y1 => ⟨fun _ j j0 j1 => by omega, fun _ => ?_⟩⟩
  rw [f1 29 (by decide)]; exact hz.2 y y0 y1
theorem e_turns (M : Mm) (hI : Inv M) : Same wp_X7_turns wp_X8_turns M := by
  obtain ⟨hn, hk, hg, hc, hf, hs, hd, ht, hz, hb, hp, hq, ho⟩ := id hI
  obtain ⟨n1, n2, k1, k2, e1, e2⟩ := id hn
  unfold Same wp_X7_turns wp_X6_countTurns
  refine ⟨fun q => ?_, fun q => ⟨fun q1 => ?_, fun q1 => ?_⟩⟩
  · show wp_X8_turns M (fun r' M2 => -3 = r' ∧ Inv M2)
    exact ⟨fun _ => ⟨rfl, hI⟩, fun q1 => absurd (by omega) q1⟩
  · refine s_fill28 M _ (fun B f1 f2 => ?_)
    have b3 := f1 3 (by decide)
    refine s_turnsFrom (Mi := B) (by rw [b3]; omega) (B 3 0).toNat 9 (fun _ => 0) 0 B _ (by rw [b3]; omega) (by rw [b3]; omega) (by omega) (fun j j0 j1 => by omega) (CT_0 hI f1 _) (fun M' hC => ?_)
    obtain ⟨c1, c2, c3⟩ := id hC
    have fr : ∀ c, c ≠ 27 → c ≠ 28 → c ≠ 29 → M' c = M c := fun c x1 x2 x3 => (c1 c x1 x3).trans (f1 c x2)
    have m8 := fr 8 (by decide) (by decide) (by decide)
    rw [b3, f1 14 (by decide), f1 15 (by decide), f1 16 (by decide)]
    rw [tn_P (P' := Pt (M 14) (M 15) (M 16)) (fun row i y i0 i1 => propext ⟨fun z => z.2, fun z => ⟨Or.inl (f2 i i0 (by omega)), z⟩⟩) _ _ _ (by omega) (by omega)]
    show wp_X8_turns M' (fun r' M2 => tn (Pt (M 14) (M 15) (M 16)) (fun _ => 1) (M 3 0) (M 3 0).toNat (fun _ => 0) 0 = r' ∧ Inv M2)
    unfold wp_X8_turns
    rw [m8]
    refine ⟨fun q2 => by omega, fun _ => ⟨fun _ => ?_, fun q2 => by omega⟩⟩
    refine m_turned 0 M' (k := M 3 0) (kd := M 14) (ex := M 15) (go := M 16) (by omega) (by rw [m8]; exact e2) (L1_cg _) (fun j j0 j1 => ?_) (fun j j0 j1 => ?_) (fun _ _ => rfl) (fun z => absurd rfl z) _ (fun _ => 0) (fun M2 g1 => ⟨rfl, Inv_ft hI (fun c x1 x2 x3 x4 => (g1 c x4).trans (fr c x1 x2 x3)) (fun j j0 j1 => ?_)⟩)
    · rw [fr 34 (by decide) (by decide) (by decide), fr 35 (by decide) (by decide) (by decide)]
      have := hk j j0 j1; omega
    · rw [fr 36 (by decide) (by decide) (by decide)]
      exact (hg j j0 j1).2.2
    · rw [g1 29 (by decide)]
      exact (c3 j j0 j1).mpr (fun b b0 b1 => by omega)
  · show wp_X8_turns M (fun r' M2 => -3 = r' ∧ Inv M2)
    exact ⟨fun _ => ⟨rfl, hI⟩, fun _ => ⟨fun q2 => absurd (by omega) q1, fun _ => ⟨rfl, hI⟩⟩⟩
