/-! THE SEARCH: what it is -/
/-- tries, spent, found, its cost, its keys -/
abbrev Sg : Type := Int × Int × Int × Int × (Int → Int)
def ad2 (O G : Int → Int → Int) (row : Int → Int) (a : Int) : Int := sm a.toNat (fun b => O a b * G (row a) (row b) + O b a * G (row b) (row a))
def trn (n : Int) (row : Int → Int) : Int → Int := fun b => if 0 ≤ b ∧ b < n then row b else 0
noncomputable def sq (PL : (Int → Int) → Int → Int → Sg → Sg) (O G : Int → Int → Int) (n : Int) (fo row : Int → Int) (a c y : Int) (s : Sg) : Sg :=
  if s.2.1 = 0 then
    @ite Sg (mayB n fo row a y a) (Classical.propDecidable (mayB n fo row a y a))
      (if s.1 < 20000 then
        (if s.2.2.1 = 0 ∨ c + ad2 O G (fu row a y) a < s.2.2.2.1 then PL (fu row a y) (a + 1) (c + ad2 O G (fu row a y) a) (s.1 + 1, s.2) else (s.1 + 1, s.2))
       else (s.1, 1, s.2.2))
      s
  else s
noncomputable def pl (O G : Int → Int → Int) (n k : Int) (fo : Int → Int) : Nat → (Int → Int) → Int → Int → Sg → Sg
  | 0 => fun row _ c s => (s.1, s.2.1, 1, c, trn n row)
  | d + 1 => fun row a c s => lq (sq (pl O G n k fo d) O G n fo row a c) (k - 0).toNat 0 s
theorem mayB_congr {n : Int} {fo fo' row row' : Int → Int} {a y p : Int} (ha : 0 ≤ a ∧ a < n) (hf : ∀ b, 0 ≤ b → b < n → fo b = fo' b) (h : ∀ b, 0 ≤ b → b < p → row b = row' b) : mayB n fo row a y p = mayB n fo' row' a y p := by
  unfold mayB
  rw [hf a ha.1 ha.2]
  split
  · apply propext
    constructor
    · intro hh b b0 b1
      rw [← hf b b0 b1]
      exact ⟨(hh b b0 b1).1, fun z => by rw [← h b b0 z]; exact (hh b b0 b1).2 z⟩
    · intro hh b b0 b1
      rw [hf b b0 b1]
      exact ⟨(hh b b0 b1).1, fun z => by rw [h b b0 z]; exact (hh b b0 b1).2 z⟩
  · rfl
theorem ad2_congr {O G : Int → Int → Int} {row row' : Int → Int} {a : Int} (a0 : 0 ≤ a) (h : ∀ b, 0 ≤ b → b ≤ a → row b = row' b) : ad2 O G row a = ad2 O G row' a := by
  unfold ad2
  apply sm_congr
  intro b b0 b1
  rw [h a a0 (by omega), h b b0 (by omega)]
theorem fu_agree {row row' : Int → Int} {a y : Int} (h : ∀ b, 0 ≤ b → b < a → row b = row' b) : ∀ b, 0 ≤ b → b < a + 1 → fu row a y b = fu row' a y b := by
  intro b b0 b1
  simp only [fu_ap]
  split
  · rfl
  · exact h b b0 (by omega)
theorem sq_congr {PL PL' : (Int → Int) → Int → Int → Sg → Sg} {O G : Int → Int → Int} {n : Int} {fo row row' : Int → Int} {a c y : Int} {s : Sg} (ha : 0 ≤ a ∧ a < n) (h : ∀ b, 0 ≤ b → b < a → row b = row' b) (hP : ∀ c s, PL (fu row a y) (a + 1) c s = PL' (fu row' a y) (a + 1) c s) : sq PL O G n fo row a c y s = sq PL' O G n fo row' a c y s := by
  unfold sq
  rw [mayB_congr ha (fun _ _ _ => rfl) h, ad2_congr ha.1 (fun b b0 b1 => fu_agree h b b0 (by omega)), hP]
theorem pl_congr {O G : Int → Int → Int} {n k : Int} {fo : Int → Int} (d : Nat) : ∀ (row row' : Int → Int) (a c : Int) (s : Sg), a + d = n → 0 ≤ a → (∀ b, 0 ≤ b → b < a → row b = row' b) → pl O G n k fo d row a c s = pl O G n k fo d row' a c s := by
  induction d with
  | zero =>
    intro row row' a c s ha a0 h
    have e : trn n row = trn n row' := by
      funext b
      unfold trn
      split
      · rename_i q; exact h b q.1 (by omega)
      · rfl
    show (s.1, s.2.1, (1 : Int), c, trn n row) = (s.1, s.2.1, (1 : Int), c, trn n row')
    rw [e]
  | succ d ih =>
    intro row row' a c s ha a0 h
    refine lq_congr (fun y s _ _ => sq_congr (by omega) h (fun c s => ih _ _ _ _ _ (by omega) (by omega) (fu_agree h)))
/-- some letters are placed -/
def Pok (n k : Int) (fo row : Int → Int) (a : Int) : Prop := (∀ b, 0 ≤ b → b < a → 0 ≤ row b ∧ row b < k ∧ (fo b ≠ -1 → row b = fo b) ∧ (fo b = -1 → ∀ c, 0 ≤ c → c < n → fo c ≠ row b)) ∧ (∀ b c, 0 ≤ b → b < a → 0 ≤ c → c < a → row b = row c → b = c)
def Finj (n : Int) (fo : Int → Int) : Prop := ∀ b c, 0 ≤ b → b < n → 0 ≤ c → c < n → fo b ≠ -1 → fo b = fo c → b = c
theorem may_nt {n k : Int} {fo row : Int → Int} {a y : Int} (hfi : Finj n fo) (h : Pok n k fo row a) (a0 : 0 ≤ a) (a1 : a < n) (hm : mayB n fo row a y a) : ∀ b, 0 ≤ b → b < a → row b ≠ y := by
  intro b b0 b1 e
  unfold mayB at hm
  split at hm
  · exact (hm b b0 (by omega)).2 b1 e
  · rename_i q
    obtain ⟨h1, h2, h3, h4⟩ := h.1 b b0 b1
    by_cases q2 : fo b = -1
    · exact h4 q2 a a0 a1 (hm.trans e.symm)
    · have := hfi b a b0 (by omega) a0 a1 q2 (by rw [← h3 q2, e, hm])
      omega
theorem Pok_step {n k : Int} {fo row : Int → Int} {a y : Int} (hfi : Finj n fo) (h : Pok n k fo row a) (a0 : 0 ≤ a) (a1 : a < n) (hm : mayB n fo row a y a) (hy : 0 ≤ y ∧ y < k) : Pok n k fo (fu row a y) (a + 1) := by
  have hd := may_nt hfi h a0 a1 hm
  refine ⟨fun b b0 b1 => ?_, fun b c b0 b1 c0 c1 e => ?_⟩
  · simp only [fu_ap]
    by_cases e : b = a
    · rw [if_pos e, e]
      unfold mayB at hm
      refine ⟨hy.1, hy.2, fun q => ?_, fun q c c0 c1 => ?_⟩
      · rw [if_neg q] at hm; exact hm.symm
      · rw [if_pos q] at hm; exact (hm c c0 c1).1
    · rw [if_neg e]; exact h.1 b b0 (by omega)
  · simp only [fu_ap] at e
    by_cases eb : b = a
    · by_cases ec : c = a
      · omega
      · rw [if_pos eb, if_neg ec] at e
        exact absurd e.symm (hd c c0 (by omega))
    · by_cases ec : c = a
      · rw [if_neg eb, if_pos ec] at e
        exact absurd e (hd b b0 (by omega))
      · rw [if_neg eb, if_neg ec] at e
        exact h.2 b c b0 (by omega) c0 (by omega) e
theorem Pok_Sok {n k : Int} {fo row : Int → Int} (hnk : n ≤ k) (h : Pok n k fo row n) : Sok n k fo (trn n row) := by
  refine Sok_congr (f := row) ⟨hnk, fun a a0 a1 => ?_, h.2⟩ (fun a a0 a1 => if_pos ⟨a0, a1⟩)
  obtain ⟨h1, h2, h3, h4⟩ := h.1 a a0 a1
  exact ⟨h1, h2, h3⟩
theorem Pok_le {n k : Int} {fo row : Int → Int} {a b : Int} (h : Pok n k fo row a) (hb : b ≤ a) : Pok n k fo row b := ⟨fun c c0 c1 => h.1 c c0 (by omega), fun c d c0 c1 d0 d1 => h.2 c d c0 (by omega) d0 (by omega)⟩
theorem Pok_congr {n k : Int} {fo row row' : Int → Int} {a : Int} (h : Pok n k fo row a) (e : ∀ b, 0 ≤ b → b < a → row' b = row b) : Pok n k fo row' a := by
  refine ⟨fun b b0 b1 => by rw [e b b0 b1]; exact h.1 b b0 b1, fun b c b0 b1 c0 c1 q => ?_⟩
  rw [e b b0 b1, e c c0 c1] at q
  exact h.2 b c b0 b1 c0 c1 q
theorem Pok_0 {n k : Int} {fo row : Int → Int} : Pok n k fo row 0 := ⟨fun b b0 b1 => by omega, fun b c b0 b1 => by omega⟩
def Sgd (n k : Int) (fo : Int → Int) (s : Sg) : Prop := 0 ≤ s.1 ∧ s.1 ≤ 20000 ∧ (s.2.1 = 0 ∨ s.2.1 = 1) ∧ (s.2.2.1 = 0 ∨ s.2.2.1 = 1) ∧ (s.2.2.1 ≠ 0 → Sok n k fo s.2.2.2.2 ∧ 0 ≤ s.2.2.2.1 ∧ s.2.2.2.1 ≤ 2000000000)
def Ev (O G : Int → Int → Int) (n k : Int) (fo : Int → Int) : Prop := 1 ≤ n ∧ n ≤ 10 ∧ n ≤ k ∧ k ≤ 12 ∧ (∀ a b, 0 ≤ a → a < n → 0 ≤ b → b < n → 0 ≤ O a b ∧ O a b ≤ 1794) ∧ (∀ i j, 0 ≤ i → i < k → 0 ≤ j → j < k → 0 ≤ G i j ∧ G i j ≤ 4000) ∧ Finj n fo
theorem mul_b {x y X Y : Int} (h0 : 0 ≤ x) (h1 : x ≤ X) (h2 : 0 ≤ y) (h3 : y ≤ Y) : 0 ≤ x * y ∧ x * y ≤ X * Y := ⟨Int.mul_nonneg h0 h2, Int.mul_le_mul h1 h3 h2 (by omega)⟩
theorem ad2_b {O G : Int → Int → Int} {n k : Int} {fo row : Int → Int} {a : Int} (hE : Ev O G n k fo) (a0 : 0 ≤ a) (a1 : a < n) (h : ∀ b, 0 ≤ b → b ≤ a → 0 ≤ row b ∧ row b < k) : 0 ≤ ad2 O G row a ∧ ad2 O G row a ≤ 200000000 := by
  obtain ⟨n1, n2, k1, k2, hO, hG, -⟩ := hE
  have ht : ∀ b : Int, 0 ≤ b → b < a.toNat → 0 ≤ O a b * G (row a) (row b) + O b a * G (row b) (row a) ∧ O a b * G (row a) (row b) + O b a * G (row b) (row a) ≤ 14352000 := by
    intro b b0 b1
    have r1 := h a a0 (by omega)
    have r2 := h b b0 (by omega)
    have o1 := hO a b a0 a1 b0 (by omega)
    have o2 := hO b a b0 (by omega) a0 a1
    have g1 := hG (row a) (row b) r1.1 r1.2 r2.1 r2.2
    have g2 := hG (row b) (row a) r2.1 r2.2 r1.1 r1.2
    have p1 := mul_b o1.1 o1.2 g1.1 g1.2
    have p2 := mul_b o2.1 o2.2 g2.1 g2.2
    omega
  unfold ad2
  refine ⟨sm_nn (fun b b0 b1 => (ht b b0 b1).1), ?_⟩
  have := sm_le (n := a.toNat) (g := fun _ => 14352000) (fun b b0 b1 => (ht b b0 b1).2)
  rw [sm_const] at this
  omega
theorem row_b {n k : Int} {fo row : Int → Int} {a y : Int} (h : Pok n k fo row a) (hy : 0 ≤ y ∧ y < k) : ∀ b, 0 ≤ b → b ≤ a → 0 ≤ fu row a y b ∧ fu row a y b < k := by
  intro b b0 b1
  simp only [fu_ap]
  split
  · exact hy
  · have := h.1 b b0 (by omega); omega
theorem sq_good {PL : (Int → Int) → Int → Int → Sg → Sg} {O G : Int → Int → Int} {n k : Int} {fo row : Int → Int} {a c y : Int} {s : Sg} (hs : Sgd n k fo s) (hP : ∀ t, mayB n fo row a y a → Sgd n k fo t → Sgd n k fo (PL (fu row a y) (a + 1) (c + ad2 O G (fu row a y) a) t)) : Sgd n k fo (sq PL O G n fo row a c y s) := by
  obtain ⟨s1, s2, s3, s4, s5⟩ := id hs
  unfold sq
  split
  · split
    · rename_i hm
      split
      · rename_i q
        have h1 : Sgd n k fo (s.1 + 1, s.2) := ⟨by show 0 ≤ s.1 + 1; omega, by show s.1 + 1 ≤ 20000; omega, s3, s4, s5⟩
        split
        · exact hP _ hm h1
        · exact h1
      · exact ⟨s1, s2, Or.inr rfl, s4, s5⟩
    · exact hs
  · exact hs
theorem pl_good {O G : Int → Int → Int} {n k : Int} {fo : Int → Int} (hE : Ev O G n k fo) (d : Nat) : ∀ (row : Int → Int) (a c : Int) (s : Sg), a + d = n → 0 ≤ a → Pok n k fo row a → 0 ≤ c → c ≤ 200000000 * a → Sgd n k fo s → Sgd n k fo (pl O G n k fo d row a c s) := by
  have hn := hE.2.1
  have hnk := hE.2.2.1
  have hfi := hE.2.2.2.2.2.2
  induction d with
  | zero =>
    intro row a c s ha a0 hp c0 c1 hs
    obtain ⟨s1, s2, s3, s4, s5⟩ := id hs
    rw [show a = n by omega] at hp
    exact ⟨s1, s2, s3, Or.inr rfl, fun _ => ⟨Pok_Sok hnk hp, c0, by show c ≤ 2000000000; omega⟩⟩
  | succ d ih =>
    intro row a c s ha a0 hp c0 c1 hs
    refine lq_pres (P := Sgd n k fo) (fun y t y0 y1 ht => sq_good ht (fun t hm ht2 => ?_)) hs
    have hp2 := Pok_step hfi hp a0 (by omega) hm (y := y) (by omega)
    have hb := ad2_b hE a0 (by omega) (row_b hp (y := y) (by omega))
    exact ih _ _ _ _ (by omega) (by omega) hp2 (by omega) (by omega) ht2
theorem sq_spent {PL : (Int → Int) → Int → Int → Sg → Sg} {O G : Int → Int → Int} {n : Int} {fo row : Int → Int} {a c y : Int} {s : Sg} (h : s.2.1 ≠ 0) : sq PL O G n fo row a c y s = s := if_neg h
theorem lq_spent {PL : (Int → Int) → Int → Int → Sg → Sg} {O G : Int → Int → Int} {n : Int} {fo row : Int → Int} {a c : Int} {s : Sg} (h : s.2.1 ≠ 0) (m : Nat) : ∀ i, lq (sq PL O G n fo row a c) m i s = s := by
  induction m with
  | zero => intro i; rfl
  | succ m ih =>
    intro i
    show lq _ m (i + 1) (sq PL O G n fo row a c i s) = s
    rw [sq_spent h]; exact ih _
theorem sq_not {PL : (Int → Int) → Int → Int → Sg → Sg} {O G : Int → Int → Int} {n : Int} {fo row : Int → Int} {a c y : Int} {s : Sg} (h : ¬ mayB n fo row a y a) : sq PL O G n fo row a c y s = s := by
  unfold sq
  by_cases q : s.2.1 = 0
  · rw [if_pos q, if_neg h]
  · rw [if_neg q]
theorem sq_full {PL : (Int → Int) → Int → Int → Sg → Sg} {O G : Int → Int → Int} {n : Int} {fo row : Int → Int} {a c y : Int} {s : Sg} (h0 : s.2.1 = 0) (h : mayB n fo row a y a) (h1 : ¬ s.1 < 20000) : sq PL O G n fo row a c y s = (s.1, 1, s.2.2) := by
  unfold sq
  rw [if_pos h0, if_pos h, if_neg h1]
theorem sq_on {PL : (Int → Int) → Int → Int → Sg → Sg} {O G : Int → Int → Int} {n : Int} {fo row : Int → Int} {a c y : Int} {s : Sg} (h0 : s.2.1 = 0) (h : mayB n fo row a y a) (h1 : s.1 < 20000) (h2 : s.2.2.1 = 0 ∨ c + ad2 O G (fu row a y) a < s.2.2.2.1) : sq PL O G n fo row a c y s = PL (fu row a y) (a + 1) (c + ad2 O G (fu row a y) a) (s.1 + 1, s.2) := by
  unfold sq
  rw [if_pos h0, if_pos h, if_pos h1, if_pos h2]
theorem sq_off {PL : (Int → Int) → Int → Int → Sg → Sg} {O G : Int → Int → Int} {n : Int} {fo row : Int → Int} {a c y : Int} {s : Sg} (h0 : s.2.1 = 0) (h : mayB n fo row a y a) (h1 : s.1 < 20000) (h2 : ¬ (s.2.2.1 = 0 ∨ c + ad2 O G (fu row a y) a < s.2.2.2.1)) : sq PL O G n fo row a c y s = (s.1 + 1, s.2) := by
  unfold sq
  rw [if_pos h0, if_pos h, if_pos h1, if_neg h2]
