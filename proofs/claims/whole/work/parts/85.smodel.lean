/-- how far a run of tries has still to go -/
def Hm (d : Int → Int) : Nat → Int
  | 0 => 0
  | m + 1 => 14 * Hm d m + d m
theorem Hm_nn {d : Int → Int} (h : ∀ b, 0 ≤ b → 0 ≤ d b) : ∀ N, 0 ≤ Hm d N := by
  intro N
  induction N with
  | zero => exact Int.le_refl _
  | succ N ih => show 0 ≤ 14 * Hm d N + d N; have := h N (by omega); omega
theorem Hm_congr {d d' : Int → Int} : ∀ N : Nat, (∀ b : Int, 0 ≤ b → b < N → d' b = d b) → Hm d' N = Hm d N := by
  intro N
  induction N with
  | zero => intro _; rfl
  | succ N ih =>
    intro h
    show 14 * Hm d' N + d' N = 14 * Hm d N + d N
    rw [ih (fun b b0 b1 => h b b0 (by omega)), h N (by omega) (by omega)]
theorem Hm_lt {d d' : Int → Int} {m : Nat} (h0 : ∀ b : Int, 0 ≤ b → b < m → d' b = d b) (h1 : d' m < d m) (h2 : ∀ b : Int, m < b → d' b ≤ 13 ∧ 0 ≤ d b) : ∀ j : Nat, Hm d' (m + 1 + j) < Hm d (m + 1 + j) := by
  intro j
  induction j with
  | zero =>
    show 14 * Hm d' m + d' m < 14 * Hm d m + d m
    rw [Hm_congr m h0]; omega
  | succ j ih =>
    show 14 * Hm d' (m + 1 + j) + d' ((m + 1 + j : Nat) : Int) < 14 * Hm d (m + 1 + j) + d ((m + 1 + j : Nat) : Int)
    have := h2 ((m + 1 + j : Nat) : Int) (by omega)
    omega
def dsq (f : Int → Int) (k a b : Int) : Int := if b ≤ a then k - f b else 0
def mu (f : Int → Int) (k a : Int) : Nat := (Hm (dsq f k a) 10).toNat
theorem mu_lt {f f' : Int → Int} {k a a' : Int} (k2 : k ≤ 12) (a0 : 0 ≤ a) (a9 : a ≤ 9) (ha : a' = a - 1 ∨ a' = a ∨ a' = a + 1) (h : ∀ b, 0 ≤ b → b < a → f' b = f b ∧ -1 ≤ f b ∧ f b ≤ k) (hk : -1 ≤ f a ∧ f a < k) (h1 : a ≤ a' → f' a = f a + 1) (h2 : a' = a + 1 → f' (a + 1) = -1) : mu f' k a' < mu f k a := by
  have hd' : ∀ b, 0 ≤ b → 0 ≤ dsq f' k a' b ∧ dsq f' k a' b ≤ 13 := by
    intro b b0
    unfold dsq
    split
    · rename_i q
      by_cases e : b < a
      · have := h b b0 e; omega
      · by_cases e2 : b = a
        · subst e2
          have := h1 (by omega); omega
        · have e3 : b = a + 1 := by omega
          have := h2 (by omega)
          rw [e3, this]; omega
    · omega
  have hlt : Hm (dsq f' k a') 10 < Hm (dsq f k a) 10 := by
    have := Hm_lt (d := dsq f k a) (d' := dsq f' k a') (m := a.toNat) (fun b b0 b1 => ?_) ?_ (fun b b1 => ⟨(hd' b (by omega)).2, ?_⟩) (9 - a.toNat)
    · rw [show a.toNat + 1 + (9 - a.toNat) = 10 by omega] at this; exact this
    · unfold dsq
      rw [if_pos (by omega), if_pos (by omega), (h b b0 (by omega)).1]
    · rw [show ((a.toNat : Nat) : Int) = a by omega]
      unfold dsq
      rw [if_pos (Int.le_refl a)]
      split
      · have := h1 (by omega); omega
      · omega
    · unfold dsq
      rw [if_neg (by omega)]; exact Int.le_refl _
  have hnn := Hm_nn (d := dsq f' k a') (fun b b0 => (hd' b b0).1) 10
  unfold mu
  omega
theorem s_added8 (a : Int) (M : Mm) (Q : Int → Mm → Prop) {n k : Int} {O G : Int → Int → Int} {row : Int → Int} (hM : Md M n k O G) (ha : 0 ≤ a ∧ a < n) (hr : ∀ b, 0 ≤ b → b ≤ a → M 41 b = row b ∧ 0 ≤ row b ∧ row b < k) (h : Q (ad2 O G row a) M) : wp_X8_added a M Q := by
  obtain ⟨m1, m2, m3, m4, m5, m6, m7, m8, m9, m10⟩ := id hM
  refine LP2.of (b := bc_X8_added_L5 a Q) (fun s b B => B = M ∧ 0 ≤ b ∧ b ≤ a ∧ s = sm b.toNat (fun b => O a b * G (row a) (row b) + O b a * G (row b) (row a))) (fun _ b _ => (a - b).toNat) ?_ 0 0 M ⟨rfl, by omega, by omega, rfl⟩
  rintro R s b B ⟨rfl, b0, b1, hs⟩ ih
  unfold bc_X8_added_L5
  refine ⟨fun q => ?_, fun q => ?_⟩
  · rw [show b = a by omega] at hs
    rw [hs]; exact h
  · obtain ⟨r1, r2, r3⟩ := hr a ha.1 (by omega)
    obtain ⟨r4, r5, r6⟩ := hr b b0 b1
    refine ⟨by omega, by omega, s_between a b _ _ B _ hM (by omega) (by omega) (by omega) (by omega) ⟨by omega, by omega, s_between b a _ _ B _ hM (by omega) (by omega) (by omega) (by omega) ⟨by omega, ih _ _ _ ⟨rfl, by omega, by omega, ?_⟩ (by omega)⟩⟩⟩
    rw [sm_step b0, ← hs, r1, r4]
theorem s_mkeep (x : Int) (M : Mm) (Q : Int → Mm → Prop) (K : Mm → Prop) (hn : 0 ≤ M 8 0 ∧ M 8 0 ≤ 10) (h : ∀ M' : Mm, (∀ c, c ≠ 39 → M' c = M c) → (∀ b, 0 ≤ b → b < M 8 0 → M' 39 b = M 41 b) → K M') : wp_X8_search_L187 x Q K 0 M := by
  refine LP1.of (b := bc_X8_search_L187 x Q K) (fun i B => (∀ c, c ≠ 39 → B c = M c) ∧ 0 ≤ i ∧ i ≤ M 8 0 ∧ ∀ b, 0 ≤ b → b < i → B 39 b = M 41 b) (fun i _ => (M 8 0 - i).toNat) ?_ 0 M ⟨fun _ _ => rfl, by omega, by omega, fun b b0 b1 => by omega⟩
  rintro R i B ⟨f1, i0, i1, hi⟩ ih
  unfold bc_X8_search_L187
  have c8 := f1 8 (by decide)
  have c41 := f1 41 (by decide)
  rw [c8]
  refine ⟨fun q => h _ f1 (fun b b0 b1 => hi b b0 (by omega)), fun q => ⟨by omega, by omega, by omega, ih _ _ ⟨fun c hc => ?_, by omega, by omega, fun a a0 a1 => ?_⟩ (by omega)⟩⟩
  · simp only [mset_eq, fu_ap, hc, reduceIte]; exact f1 c hc
  · simp only [mset_eq, fu_ap, reduceIte, c41]
    by_cases e : a = i
    · rw [if_pos e, e]
    · rw [if_neg e]; exact hi a a0 (by omega)
def MS (Mi M : Mm) (n : Int) (s : Sg) : Prop := (∀ c, c ≠ 8 → c ≠ 39 → c ≠ 41 → c ≠ 42 → M c = Mi c) ∧ (∀ j, j ≠ 12 → j ≠ 14 → j ≠ 15 → M 8 j = Mi 8 j) ∧ M 8 15 = s.1 ∧ M 8 12 = s.2.2.1 ∧ (s.2.2.1 ≠ 0 → M 8 14 = s.2.2.2.1 ∧ ∀ b, 0 ≤ b → b < n → M 39 b = s.2.2.2.2 b)
theorem MS_fr {Mi M M' : Mm} {n : Int} {s : Sg} (h : MS Mi M n s) (e : ∀ c, c ≠ 41 → c ≠ 42 → M' c = M c) : MS Mi M' n s := by
  obtain ⟨h1, h2, h3, h4, h5⟩ := h
  refine ⟨fun c c1 c2 c3 c4 => (e c c3 c4).trans (h1 c c1 c2 c3 c4), ?_⟩
  rw [e 8 (by decide) (by decide), e 39 (by decide) (by decide)]
  exact ⟨h2, h3, h4, h5⟩
/-- what is left to do, with letters below m placed -/
noncomputable def RS (O G : Int → Int → Int) (n k : Int) (fo : Int → Int) : Nat → (Int → Int) → (Int → Int) → Sg → Sg
  | 0 => fun _ _ s => s
  | m + 1 => fun row u s => RS O G n k fo m row u (lq (sq (pl O G n k fo (n - 1 - (m : Int)).toNat) O G n fo row (m : Int) (u (m : Int))) (k - (row (m : Int) + 1)).toNat (row (m : Int) + 1) s)
theorem RS_step {O G : Int → Int → Int} {n k : Int} {fo row u : Int → Int} {a : Int} {s : Sg} (a0 : 0 ≤ a) : RS O G n k fo (a + 1).toNat row u s = RS O G n k fo a.toNat row u (lq (sq (pl O G n k fo (n - 1 - a).toNat) O G n fo row a (u a)) (k - (row a + 1)).toNat (row a + 1) s) := by
  rw [show (a + 1).toNat = a.toNat + 1 by omega]
  show RS O G n k fo a.toNat row u (lq (sq (pl O G n k fo (n - 1 - ((a.toNat : Nat) : Int)).toNat) O G n fo row ((a.toNat : Nat) : Int) (u ((a.toNat : Nat) : Int))) (k - (row ((a.toNat : Nat) : Int) + 1)).toNat (row ((a.toNat : Nat) : Int) + 1) s) = _
  rw [show ((a.toNat : Nat) : Int) = a by omega]
theorem sqpl_congr {O G : Int → Int → Int} {n k : Int} {fo row row' : Int → Int} {a c y : Int} {s : Sg} (ha : 0 ≤ a ∧ a < n) (h : ∀ b, 0 ≤ b → b < a → row b = row' b) : sq (pl O G n k fo (n - 1 - a).toNat) O G n fo row a c y s = sq (pl O G n k fo (n - 1 - a).toNat) O G n fo row' a c y s :=
  sq_congr ha h (fun c s => pl_congr _ _ _ _ _ _ (by omega) (by omega) (fu_agree h))
theorem RS_congr {O G : Int → Int → Int} {n k : Int} {fo : Int → Int} (m : Nat) : ∀ (row row' u u' : Int → Int) (s : Sg), (m : Int) ≤ n → (∀ b : Int, 0 ≤ b → b < m → row b = row' b ∧ u b = u' b) → RS O G n k fo m row u s = RS O G n k fo m row' u' s := by
  induction m with
  | zero => intro row row' u u' s _ _; rfl
  | succ m ih =>
    intro row row' u u' s hm h
    show RS O G n k fo m row u (lq (sq (pl O G n k fo (n - 1 - (m : Int)).toNat) O G n fo row (m : Int) (u (m : Int))) (k - (row (m : Int) + 1)).toNat (row (m : Int) + 1) s) = RS O G n k fo m row' u' (lq (sq (pl O G n k fo (n - 1 - (m : Int)).toNat) O G n fo row' (m : Int) (u' (m : Int))) (k - (row' (m : Int) + 1)).toNat (row' (m : Int) + 1) s)
    obtain ⟨e1, e2⟩ := h m (by omega) (by omega)
    rw [e1, e2, ih row row' u u' _ (by omega) (fun b b0 b1 => h b b0 (by omega))]
    congr 1
    exact lq_congr (fun y s _ _ => sqpl_congr (by omega) (fun b b0 b1 => (h b b0 (by omega)).1))
theorem RS_spent {O G : Int → Int → Int} {n k : Int} {fo row u : Int → Int} {s : Sg} (h : s.2.1 ≠ 0) : ∀ m, RS O G n k fo m row u s = s := by
  intro m
  induction m with
  | zero => rfl
  | succ m ih =>
    show RS O G n k fo m row u (lq (sq (pl O G n k fo (n - 1 - (m : Int)).toNat) O G n fo row (m : Int) (u (m : Int))) (k - (row (m : Int) + 1)).toNat (row (m : Int) + 1) s) = s
    rw [lq_spent h]; exact ih
theorem m_search {O G : Int → Int → Int} {n k : Int} {fo : Int → Int} (Mi : Mm) (hE : Ev O G n k fo) (hM : Md Mi n k O G) (h37 : ∀ a, 0 ≤ a → a < n → Mi 37 a = fo a) (Q : Int → Mm → Prop) (F : Sg) (r0 : Int → Int) (hF : pl O G n k fo n.toNat r0 0 0 (0, 0, 0, 0, fun _ => 0) = F) (h1 : F.2.1 = 0 → ∀ M', MS Mi M' n F → Q 1 M') (h5 : F.2.1 ≠ 0 → ∀ M', MS Mi M' n F → Q (-5) M') : wp_X8_search_L40 Q 0 (mset (mset (mset (mset Mi 8 12 0) 8 15 0) 41 0 (-1)) 42 0 0) := by
  obtain ⟨n1, n2, k1, k2, hO, hG, hfi⟩ := id hE
  refine LP1.of (b := bc_X8_search_L40 Q) (fun a M => -1 ≤ a ∧ a < n ∧ ∃ s, MS Mi M n s ∧ s.2.1 = 0 ∧ Sgd n k fo s ∧ Pok n k fo (M 41) a ∧ (0 ≤ a → -1 ≤ M 41 a ∧ M 41 a < k) ∧ (∀ b, 0 ≤ b → b ≤ a → 0 ≤ M 42 b ∧ M 42 b ≤ 200000000 * b) ∧ RS O G n k fo (a + 1).toNat (M 41) (M 42) s = F) (fun a M => mu (M 41) k a) ?_ 0 _ ⟨by omega, by omega, (0, 0, 0, 0, fun _ => 0), ?_, rfl, ?_, Pok_0, fun _ => ?_, fun b b0 b1 => ?_, ?_⟩
  · rintro R a M ⟨a0, a1, s, hMS, hsp, hg, hp, hra, hu, hRS⟩ ih
    unfold bc_X8_search_L40
    refine ⟨fun q => ?_, fun q => ?_⟩
    · rw [show (a + 1).toNat = 0 by omega] at hRS
      have e : s = F := hRS
      exact h1 (by rw [← e]; exact hsp) M (by rw [← e]; exact hMS)
    have hr := hra (by omega)
    have hua := hu a (by omega) (by omega)
    obtain ⟨g1, g2, g3, g4, g5⟩ := id hMS
    have m0 : M 8 0 = n := by rw [g2 0 (by decide) (by decide) (by decide)]; exact hM.1
    have m5 : M 8 5 = k := by rw [g2 5 (by decide) (by decide) (by decide)]; exact hM.2.1
    rw [RS_step (by omega)] at hRS
    have f41 : (mset M 41 a (M 41 a + 1)) 41 = fu (M 41) a (M 41 a + 1) := rfl
    have fr : ∀ c, c ≠ 41 → (mset M 41 a (M 41 a + 1)) c = M c := fun c hc => by simp only [mset_eq, fu_ap, hc, reduceIte]
    have hiR : iR (M 41 a + 1) := by omega
    generalize hM1 : mset M 41 a (M 41 a + 1) = M1 at *
    generalize hy : M 41 a + 1 = y at *
    have fa : M1 41 a = y := by rw [f41]; exact fu_s _ _ _
    have fb : ∀ b, 0 ≤ b → b < a → M1 41 b = M 41 b := fun b b0 b1 => by rw [f41]; exact fu_n _ _ (by omega)
    have f8 := fr 8 (by decide)
    have f42 := fr 42 (by decide)
    have hMS1 : MS Mi M1 n s := MS_fr hMS (fun c c1 c2 => fr c c1)
    rw [fa, f8, m5]
    refine ⟨by omega, hiR, by omega, by omega, fun q1 => ⟨by omega, ?_⟩, fun q1 => ⟨by omega, ih _ _ ⟨by omega, by omega, s, hMS1, hsp, hg, Pok_congr (Pok_le hp (by omega)) (fun b b0 b1 => fb b b0 (by omega)), fun q2 => ?_, fun b b0 b1 => ?_, ?_⟩ ?_⟩⟩
    rotate_left
    · rw [fb _ q2 (by omega)]
      have := hp.1 (a + -1) q2 (by omega); omega
    · rw [f42]; exact hu b b0 (by omega)
    · rw [lq_end (by omega)] at hRS
      rw [← hRS, show (a + -1 + 1).toNat = a.toNat by omega, f42]
      exact RS_congr _ _ _ _ _ _ (by omega) (fun b b0 b1 => ⟨fb b b0 (by omega), rfl⟩)
    · refine mu_lt k2 (by omega) (by omega) (Or.inl (by omega)) (fun b b0 b1 => ⟨fb b b0 b1, ?_⟩) (by omega) (fun z => by omega) (fun z => by omega)
      have := hp.1 b b0 b1; omega
    have hyk : 0 ≤ y ∧ y < k := by omega
    rw [lq_step (by omega)] at hRS
    have em : mayB (M1 8 0) (M1 37) (M1 41) a y a = mayB n fo (M 41) a y a := by
      rw [f8, m0]
      refine mayB_congr (by omega) (fun b b0 b1 => ?_) fb
      rw [fr 37 (by decide), g1 37 (by decide) (by decide) (by decide) (by decide)]; exact h37 b b0 b1
    have hgood : ∀ t', sq (pl O G n k fo (n - 1 - a).toNat) O G n fo (M 41) a (M 42 a) y s = t' → Sgd n k fo t' := by
      intro t' e
      rw [← e]
      refine sq_good hg (fun t2 hm ht2 => ?_)
      have hb := ad2_b hE (by omega) (by omega) (row_b hp hyk)
      exact pl_good hE _ _ _ _ _ (by omega) (by omega) (Pok_step hfi hp (by omega) (by omega) hm hyk) (by omega) (by omega) ht2
    have hR2 : ∀ (t : Sg) (M' : Mm), sq (pl O G n k fo (n - 1 - a).toNat) O G n fo (M 41) a (M 42 a) y s = t → (∀ b, 0 ≤ b → b < a → M' 41 b = M 41 b) → M' 41 a = y → (∀ b, 0 ≤ b → b ≤ a → M' 42 b = M 42 b) → RS O G n k fo (a + 1).toNat (M' 41) (M' 42) t = F := by
      intro t M' e e1 e2 e3
      rw [RS_step (by omega), e2, e3 a (by omega) (by omega), ← hRS, e]
      rw [lq_congr (g' := sq (pl O G n k fo (n - 1 - a).toNat) O G n fo (M 41) a (M 42 a)) (fun z s _ _ => sqpl_congr (by omega) e1)]
      exact RS_congr _ _ _ _ _ _ (by omega) (fun b b0 b1 => ⟨e1 b b0 (by omega), e3 b b0 (by omega)⟩)
    have stay : ∀ (t : Sg) (M' : Mm), sq (pl O G n k fo (n - 1 - a).toNat) O G n fo (M 41) a (M 42 a) y s = t → t.2.1 = 0 → MS Mi M' n t → (∀ b, 0 ≤ b → b < a → M' 41 b = M 41 b) → M' 41 a = y → (∀ b, 0 ≤ b → b ≤ a → M' 42 b = M 42 b) → R a M' := by
      intro t M' e e0 hM' e1 e2 e3
      refine ih _ _ ⟨a0, a1, t, hM', e0, hgood t e, Pok_congr hp e1, fun _ => by omega, fun b b0 b1 => by rw [e3 b b0 b1]; exact hu b b0 b1, hR2 t M' e e1 e2 e3⟩ ?_
      refine mu_lt k2 (by omega) (by omega) (Or.inr (Or.inl rfl)) (fun b b0 b1 => ⟨e1 b b0 b1, ?_⟩) (by omega) (fun _ => by omega) (fun z => by omega)
      have := hp.1 b b0 b1; omega
    refine s_mayBear41 a y a M1 _ (by rw [f8, m0]; omega) (by omega) (fun hm => ⟨fun z => absurd z (by decide), fun _ => ?_⟩) (fun hm => ⟨fun _ => stay s M1 (sq_not (by rw [← em]; exact hm)) hsp hMS1 fb fa (fun b _ _ => by rw [f42]), fun z => absurd rfl z⟩)
    rw [em] at hm
    have h15 : M1 8 15 = s.1 := by rw [f8]; exact g3
    have hs2 := hg.2.1
    have hs1 := hg.1
    refine ⟨fun q2 => ?_, fun q2 => ?_⟩
    rotate_left
    · have e := sq_full (PL := pl O G n k fo (n - 1 - a).toNat) (O := O) (G := G) (c := M 42 a) hsp hm (show ¬ s.1 < 20000 by omega)
      have e10 : (1 : Int) ≠ 0 := by decide
      rw [e, lq_spent (show ((s.1, (1 : Int), s.2.2) : Sg).2.1 ≠ 0 from e10), RS_spent (show ((s.1, (1 : Int), s.2.2) : Sg).2.1 ≠ 0 from e10)] at hRS
      refine h5 (by rw [← hRS]; exact e10) M1 ?_
      rw [← hRS]
      exact hMS1
    have hlt : s.1 < 20000 := by omega
    have k8 : ∀ c, c ≠ 8 → (mset M1 8 15 (M1 8 15 + 1)) c = M1 c := fun c hc => by simp only [mset_eq, fu_ap, hc, reduceIte]
    have k80 : ∀ j, j ≠ 15 → (mset M1 8 15 (M1 8 15 + 1)) 8 j = M1 8 j := fun j hj => by simp only [mset_eq, fu_ap, hj, reduceIte]
    have k815 : (mset M1 8 15 (M1 8 15 + 1)) 8 15 = s.1 + 1 := by rw [← h15]; rfl
    refine ⟨by omega, by omega, ?_⟩
    generalize hM2 : mset M1 8 15 (M1 8 15 + 1) = M2 at *
    have hrb := row_b hp hyk
    have hab := ad2_b hE (by omega) (by omega) hrb
    have hmd : Md M2 n k O G := Md_fr hM (by rw [k80 0 (by decide), f8, g2 0 (by decide) (by decide) (by decide)]) (by rw [k80 5 (by decide), f8, g2 5 (by decide) (by decide) (by decide)]) (by rw [k8 33 (by decide), fr 33 (by decide), g1 33 (by decide) (by decide) (by decide) (by decide)]) (by rw [k8 34 (by decide), fr 34 (by decide), g1 34 (by decide) (by decide) (by decide) (by decide)]) (by rw [k8 35 (by decide), fr 35 (by decide), g1 35 (by decide) (by decide) (by decide) (by decide)]) (by rw [k8 36 (by decide), fr 36 (by decide), g1 36 (by decide) (by decide) (by decide) (by decide)])
    refine s_added8 a M2 _ (row := fu (M 41) a y) hmd (by omega) (fun b b0 b1 => ⟨by rw [k8 41 (by decide), f41], hrb b b0 b1⟩) ?_
    have e42 : M2 42 = M 42 := by rw [k8 42 (by decide), f42]
    rw [e42]
    have hv : 0 ≤ M 42 a + ad2 O G (fu (M 41) a y) a ∧ M 42 a + ad2 O G (fu (M 41) a y) a ≤ 200000000 * (a + 1) := by omega
    have hsqon := fun hh => sq_on (PL := pl O G n k fo (n - 1 - a).toNat) (O := O) (G := G) (c := M 42 a) hsp hm hlt hh
    have hsqoff := fun hh => sq_off (PL := pl O G n k fo (n - 1 - a).toNat) (O := O) (G := G) (c := M 42 a) hsp hm hlt hh
    generalize hvv : M 42 a + ad2 O G (fu (M 41) a y) a = v at *
    have p42 : (mset M2 42 (a + 1) v) 42 = fu (M 42) (a + 1) v := by rw [← e42]; rfl
    have pf : ∀ c, c ≠ 42 → (mset M2 42 (a + 1) v) c = M2 c := fun c hc => by simp only [mset_eq, fu_ap, hc, reduceIte]
    refine ⟨⟨by omega, by omega⟩, by omega, ?_⟩
    generalize hM3 : mset M2 42 (a + 1) v = M3 at *
    have p41 : M3 41 = fu (M 41) a y := by rw [pf 41 (by decide), k8 41 (by decide), f41]
    have p8 : ∀ j, j ≠ 15 → M3 8 j = M 8 j := fun j hj => by rw [pf 8 (by decide), k80 j hj, f8]
    have p815 : M3 8 15 = s.1 + 1 := by rw [pf 8 (by decide)]; exact k815
    have p0 : M3 8 0 = n := by rw [p8 0 (by decide)]; exact m0
    have pc : ∀ c, c ≠ 8 → c ≠ 41 → c ≠ 42 → M3 c = M c := fun c c1 c2 c3 => by rw [pf c c3, k8 c c1, fr c c2]
    have hMS3 : MS Mi M3 n (s.1 + 1, s.2) := by
      refine ⟨fun c c1 c2 c3 c4 => (pc c c1 c3 c4).trans (g1 c c1 c2 c3 c4), fun j j1 j2 j3 => by rw [p8 j j3]; exact g2 j j1 j2 j3, p815, by rw [p8 12 (by decide)]; exact g4, fun z => ?_⟩
      rw [p8 14 (by decide), pc 39 (by decide) (by decide) (by decide)]
      exact g5 z
    have p412 : ∀ b, 0 ≤ b → b < a → M3 41 b = M 41 b := fun b b0 b1 => by rw [p41]; exact fu_n _ _ (by omega)
    have p41a : M3 41 a = y := by rw [p41]; exact fu_s _ _ _
    have p42b : ∀ b, 0 ≤ b → b ≤ a → M3 42 b = M 42 b := fun b b0 b1 => by rw [p42]; exact fu_n _ _ (by omega)
    have p42a : M3 42 (a + 1) = v := by rw [p42]; exact fu_s _ _ _
    have deep : (s.2.2.1 = 0 ∨ v < s.2.2.2.1) → iR (M3 8 0 - 1) ∧ (¬ a = M3 8 0 - 1 → (0 ≤ a + 1 ∧ a + 1 < 10) ∧ iR (a + 1) ∧ R (a + 1) (mset M3 41 (a + 1) (-1))) ∧ (a = M3 8 0 - 1 → (0 ≤ a + 1 ∧ a + 1 < 11) ∧ wp_X8_search_L187 a Q (fun M4 => R a M4) 0 (mset (mset M3 8 12 1) 8 14 ((mset M3 8 12 1) 42 (a + 1)))) := by
      intro hh
      have hsq := hsqon hh
      rw [p0]
      refine ⟨by omega, fun q3 => ⟨by omega, by omega, ?_⟩, fun q3 => ⟨by omega, ?_⟩⟩
      · have r41 : (mset M3 41 (a + 1) (-1)) 41 = fu (M3 41) (a + 1) (-1) := rfl
        have rf : ∀ c, c ≠ 41 → (mset M3 41 (a + 1) (-1)) c = M3 c := fun c hc => by simp only [mset_eq, fu_ap, hc, reduceIte]
        generalize hM4 : mset M3 41 (a + 1) (-1) = M4 at *
        have rb : ∀ b, 0 ≤ b → b < a + 1 → M4 41 b = fu (M 41) a y b := fun b b0 b1 => by rw [r41, fu_n _ _ (by omega), p41]
        have ra : M4 41 (a + 1) = -1 := by rw [r41]; exact fu_s _ _ _
        have r42 := rf 42 (by decide)
        refine ih _ _ ⟨by omega, by omega, (s.1 + 1, s.2), MS_fr hMS3 (fun c c1 c2 => rf c c1), hsp, ⟨by show 0 ≤ s.1 + 1; omega, by show s.1 + 1 ≤ 20000; omega, hg.2.2⟩, Pok_congr (Pok_step hfi hp (by omega) (by omega) hm hyk) rb, fun _ => by omega, fun b b0 b1 => ?_, ?_⟩ ?_
        · rw [r42]
          by_cases e : b = a + 1
          · rw [e, p42a]; omega
          · rw [p42b b b0 (by omega)]; exact hu b b0 (by omega)
        · rw [RS_step (by omega), ra, r42, p42a]
          have e1 : lq (sq (pl O G n k fo (n - 1 - (a + 1)).toNat) O G n fo (M4 41) (a + 1) v) (k - (-1 + 1)).toNat (-1 + 1) (s.1 + 1, s.2) = pl O G n k fo (n - 1 - a).toNat (M4 41) (a + 1) v (s.1 + 1, s.2) := by
            rw [show (n - 1 - a).toNat = (n - 1 - (a + 1)).toNat + 1 by omega]; rfl
          rw [e1, pl_congr _ _ (fu (M 41) a y) _ _ _ (by omega) (by omega) rb, ← hsq, ← r42]
          refine hR2 _ M4 rfl (fun b b0 b1 => ?_) ?_ (fun b b0 b1 => ?_)
          · rw [rb b b0 (by omega)]; exact fu_n _ _ (by omega)
          · rw [rb a (by omega) (by omega)]; exact fu_s _ _ _
          · rw [r42]; exact p42b b b0 b1
        · refine mu_lt k2 (by omega) (by omega) (Or.inr (Or.inr rfl)) (fun b b0 b1 => ⟨?_, ?_⟩) (by omega) (fun _ => ?_) (fun _ => ra)
          · rw [rb b b0 (by omega)]; exact fu_n _ _ (by omega)
          · have := hp.1 b b0 b1; omega
          · rw [rb a (by omega) (by omega), fu_s]; omega
      · rw [show (n - 1 - a).toNat = 0 by omega] at hsq
        have w8 : ∀ c, c ≠ 8 → (mset (mset M3 8 12 1) 8 14 ((mset M3 8 12 1) 42 (a + 1))) c = M3 c := fun c hc => by simp only [mset_eq, fu_ap, hc, reduceIte]
        have w80 : ∀ j, j ≠ 12 → j ≠ 14 → (mset (mset M3 8 12 1) 8 14 ((mset M3 8 12 1) 42 (a + 1))) 8 j = M3 8 j := fun j j1 j2 => by simp only [mset_eq, fu_ap, j1, j2, reduceIte]
        have w12 : (mset (mset M3 8 12 1) 8 14 ((mset M3 8 12 1) 42 (a + 1))) 8 12 = 1 := rfl
        have w14 : (mset (mset M3 8 12 1) 8 14 ((mset M3 8 12 1) 42 (a + 1))) 8 14 = M3 42 (a + 1) := rfl
        generalize hM4 : mset (mset M3 8 12 1) 8 14 ((mset M3 8 12 1) 42 (a + 1)) = M4 at *
        have w0 : M4 8 0 = n := by rw [w80 0 (by decide) (by decide)]; exact p0
        refine s_mkeep a M4 Q _ (by rw [w0]; omega) (fun M5 x1 x2 => ?_)
        rw [w0] at x2
        refine stay (s.1 + 1, s.2.1, 1, v, trn n (fu (M 41) a y)) M5 (by rw [show (n - 1 - a).toNat = 0 by omega]; exact hsq) hsp ⟨fun c c1 c2 c3 c4 => ?_, fun j j1 j2 j3 => ?_, ?_, ?_, fun _ => ⟨?_, fun b b0 b1 => ?_⟩⟩ (fun b b0 b1 => ?_) ?_ (fun b b0 b1 => ?_)
        · rw [x1 c c2, w8 c c1]; exact hMS3.1 c c1 c2 c3 c4
        · rw [x1 8 (by decide), w80 j j1 j2]; exact hMS3.2.1 j j1 j2 j3
        · rw [x1 8 (by decide), w80 15 (by decide) (by decide)]; exact p815
        · rw [x1 8 (by decide)]; exact w12
        · rw [x1 8 (by decide), w14]; exact p42a
        · rw [x2 b b0 b1, w8 41 (by decide), p41]
          exact (if_pos ⟨b0, b1⟩).symm
        · rw [x1 41 (by decide), w8 41 (by decide)]; exact p412 b b0 b1
        · rw [x1 41 (by decide), w8 41 (by decide)]; exact p41a
        · rw [x1 42 (by decide), w8 42 (by decide)]; exact p42b b b0 b1
    have p12 : M3 8 12 = s.2.2.1 := hMS3.2.2.2.1
    refine ⟨fun q3 => deep (Or.inl (by omega)), fun q3 => ⟨by omega, fun q4 => ?_, fun q4 => ?_⟩⟩
    · have q5 : s.2.2.1 ≠ 0 := by rw [← p12]; exact q3
      have e14 : M3 8 14 = s.2.2.2.1 := (hMS3.2.2.2.2 q5).1
      rw [p42a, e14] at q4
      exact stay _ M3 (hsqoff (fun z => by omega)) hsp hMS3 p412 p41a p42b
    · have q5 : s.2.2.1 ≠ 0 := by rw [← p12]; exact q3
      have e14 : M3 8 14 = s.2.2.2.1 := (hMS3.2.2.2.2 q5).1
      rw [p42a, e14] at q4
      exact deep (Or.inr (by omega))
  · refine ⟨fun c c1 c2 c3 c4 => ?_, fun j j1 j2 j3 => ?_, rfl, rfl, fun z => absurd rfl z⟩
    · simp only [mset_eq, fu_ap, c1, c3, c4, reduceIte]
    · show fu (fu (Mi 8) 12 0) 15 0 j = Mi 8 j
      rw [fu_n _ _ j3, fu_n _ _ j1]
  · exact ⟨by decide, by decide, Or.inl rfl, Or.inl rfl, fun z => absurd rfl z⟩
  · show -1 ≤ fu (Mi 41) 0 (-1) 0 ∧ fu (Mi 41) 0 (-1) 0 < k
    rw [fu_s]; omega
  · show 0 ≤ fu (Mi 42) 0 0 b ∧ fu (Mi 42) 0 0 b ≤ 200000000 * b
    rw [show b = 0 by omega, fu_s]; decide
  · rw [RS_step (by omega)]
    show lq (sq (pl O G n k fo (n - 1 - 0).toNat) O G n fo (fu (Mi 41) 0 (-1)) 0 (fu (Mi 42) 0 0 0)) (k - (fu (Mi 41) 0 (-1) 0 + 1)).toNat (fu (Mi 41) 0 (-1) 0 + 1) (0, 0, 0, 0, fun _ => 0) = F
    rw [fu_s, fu_s, ← hF, show n.toNat = (n - 1 - 0).toNat + 1 by omega]
    show pl O G n k fo ((n - 1 - 0).toNat + 1) (fu (Mi 41) 0 (-1)) 0 0 (0, 0, 0, 0, fun _ => 0) = _
    exact pl_congr _ _ _ _ _ _ (by omega) (by omega) (fun b b0 b1 => by omega)
theorem Inv_Ev {M : Mm} (hI : Inv M) (hnk : M 1 0 ≤ M 3 0) : Ev (Oc1 M) (Gc1 M) (M 1 0) (M 3 0) (M 9) := by
  obtain ⟨hn, hk, hg, hc, hf, hs, hd, ht, hz, hb, hp, hq, ho⟩ := id hI
  obtain ⟨n1, n2, k1, k2, e1, e2⟩ := id hn
  refine ⟨n1, n2, hnk, k2, fun a b a0 a1 b0 b1 => (Inv_o hI a b a0 (by omega) b0 (by omega)).1, fun i j i0 i1 j0 j1 => ?_, Jf_Finj hf n2⟩
  show 0 ≤ M 17 (12 * i + j) ∧ M 17 (12 * i + j) ≤ 4000
  rw [hc i j i0 i1 j0 j1]
  have g1 := hg (12 * i + j) (by omega) (by omega)
  have g2 := hk j j0 j1
  exact cst_b (by omega) (by omega) (by omega) (by omega)
theorem e_search (M : Mm) (hI : Inv M) : Same wp_X7_search wp_X8_search M := by
  obtain ⟨hn, hk, hg, hc, hf, hs, hd, ht, hz, hb, hp, hq, ho⟩ := id hI
  obtain ⟨n1, n2, k1, k2, e1, e2⟩ := id hn
  unfold Same wp_X7_search wp_X7_tooFewKeys
  by_cases hnk : M 1 0 ≤ M 3 0
  · have hE := Inv_Ev hI hnk
    refine ⟨fun _ => ⟨fun _ => ?_, fun q => absurd rfl q⟩, fun q => absurd hnk q⟩
    have b1 : ∀ c, c ≠ 5 → (mset (mset (mset M 5 7 0) 5 9 0) 5 5 0) c = M c := fun c hc => by simp only [mset_eq, fu_ap, hc, reduceIte]
    have b2 : (mset (mset (mset M 5 7 0) 5 9 0) 5 5 0) 5 7 = 0 := rfl
    have b3 : (mset (mset (mset M 5 7 0) 5 9 0) 5 5 0) 5 9 = 0 := rfl
    have b4 : (mset (mset (mset M 5 7 0) 5 9 0) 5 5 0) 5 5 = 0 := rfl
    show wp_X1_placeFrom 12 0 0 (mset (mset (mset M 5 7 0) 5 9 0) 5 5 0) _
    generalize hB : mset (mset (mset M 5 7 0) 5 9 0) 5 5 0 = B at *
    have hs0 : Sgd (M 1 0) (M 3 0) (M 9) (0, 0, 0, 0, fun _ => 0) := ⟨by decide, by decide, Or.inl rfl, Or.inl rfl, fun z => absurd rfl z⟩
    have hFg := pl_good hE (M 1 0).toNat (fun _ => 0) 0 0 (0, 0, 0, 0, fun _ => 0) (by omega) (by omega) Pok_0 (by omega) (by omega) hs0
    refine s_place (Mi := M) hE (Jf_Ffb hf n2) (M 1 0).toNat 12 (fun _ => 0) 0 0 (0, 0, 0, 0, fun _ => 0) B _ (by omega) (by omega) (by omega) Pok_0 (by omega) (by omega) hs0 ⟨fun c c1 c2 c3 c4 => b1 c c1, fun b b0 b1 => by omega, fun y y0 y1 => ?_, b3, b4, b2, fun z => absurd rfl z⟩ (fun M' hC => ?_)
    · rw [b1 21 (by decide)]
      exact ⟨fun _ b b0 b1 => by omega, fun _ => hz.1 y y0 y1⟩
    generalize hF : pl (Oc1 M) (Gc1 M) (M 1 0) (M 3 0) (M 9) (M 1 0).toNat (fun _ => 0) 0 0 (0, 0, 0, 0, fun _ => 0) = F at hC hFg
    obtain ⟨c1, c2, c3, c4, c5, c6, c7⟩ := id hC
    have f8 := c1 8 (by decide) (by decide) (by decide) (by decide)
    have hmd : Md M' (M 1 0) (M 3 0) (Oc1 M) (Gc1 M) := Md_fr (Inv_Md hI) (by rw [f8]) (by rw [f8]) (c1 33 (by decide) (by decide) (by decide) (by decide)) (c1 34 (by decide) (by decide) (by decide) (by decide)) (c1 35 (by decide) (by decide) (by decide) (by decide)) (c1 36 (by decide) (by decide) (by decide) (by decide))
    have hinv : ∀ M2, MS M' M2 (M 1 0) F → Inv M2 := by
      intro M2 hm
      obtain ⟨d1, d2, d3, d4, d5⟩ := hm
      have fr : ∀ c, c ≠ 5 → c ≠ 20 → c ≠ 21 → c ≠ 22 → c ≠ 8 → c ≠ 39 → c ≠ 41 → c ≠ 42 → M2 c = M c := fun c x1 x2 x3 x4 x5 x6 x7 x8 => (d1 c x5 x6 x7 x8).trans (c1 c x1 x2 x3 x4)
      have fr8 : ∀ j, j ≠ 12 → j ≠ 14 → j ≠ 15 → M2 8 j = M 8 j := fun j x1 x2 x3 => by rw [d2 j x1 x2 x3, f8]
      have fr5 : M2 5 = M' 5 := d1 5 (by decide) (by decide) (by decide) (by decide)
      have fr22 : M2 22 = M' 22 := d1 22 (by decide) (by decide) (by decide) (by decide)
      have fr21 : M2 21 = M' 21 := d1 21 (by decide) (by decide) (by decide) (by decide)
      unfold Inv
      rw [fr5, fr22, fr21]
      simp only [fr, fr8, ne_eq, Nat.reduceEqDiff, Int.reduceEq, not_false_eq_true]
      refine ⟨hn, hk, hg, hc, hf, hs, ⟨d4.trans c6.symm, by rw [c6]; exact hFg.2.2.2.1, fun z => ?_⟩, ⟨d3.trans c4.symm, by rw [c4]; exact hFg.1, by rw [c4]; exact hFg.2.1⟩, ⟨fun j j0 j1 => (c3 j j0 j1).mpr (fun b b0 b1 => by omega), hz.2⟩, hb, hp, hq, ho⟩
      have z2 : F.2.2.1 ≠ 0 := by rw [← c6]; exact z
      obtain ⟨u1, u2⟩ := c7 z2
      obtain ⟨v1, v2⟩ := d5 z2
      exact ⟨Sok_congr (hFg.2.2.2.2 z2).1 u2, fun a a0 a1 => by rw [u2 a a0 a1]; exact v2 a a0 a1, v1.trans u1.symm⟩
    have hms : ∀ r : Int, (F.2.1 = 0 → r = 1) → (F.2.1 ≠ 0 → r = -5) → wp_X8_search M' (fun r' M2 => r = r' ∧ Inv M2) := by
      intro r r1 r2
      have h0 := hmd.1
      have h5 := hmd.2.1
      refine ⟨fun _ => m_search M' hE hmd (fun a a0 a1 => ?_) _ F (fun _ => 0) hF (fun z M2 hm => ⟨r1 z, hinv M2 hm⟩) (fun z M2 hm => ⟨r2 z, hinv M2 hm⟩), fun q => absurd (by omega) q⟩
      rw [c1 37 (by decide) (by decide) (by decide) (by decide)]; exact (hf.1 a a0 (by omega)).1
    rw [c5]
    refine ⟨fun q => ⟨fun _ => hms _ (fun z => absurd z q) (fun _ => rfl), fun z => absurd rfl z⟩, fun q => ⟨fun z => absurd z (by decide), fun _ => hms _ (fun _ => rfl) (fun z => absurd q z)⟩⟩
  · refine ⟨fun q => absurd q hnk, fun _ => ⟨fun q => absurd q (by decide), fun _ => ?_⟩⟩
    show wp_X8_search M (fun r' M2 => -3 = r' ∧ Inv M2)
    exact ⟨fun q => by omega, fun _ => ⟨rfl, hI⟩⟩
