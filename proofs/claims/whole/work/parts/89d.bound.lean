theorem prc_b {O G : Int → Int → Int} {n k : Int} {fo : Int → Int} (hE : Ev O G n k fo) {a y : Int} (a0 : 0 ≤ a) (a1 : a < n) (y0 : 0 ≤ y) (y1 : y < k) : 0 ≤ prc O G n k a y ∧ prc O G n k a y ≤ 70000000 := by
  obtain ⟨n1, n2, k1, k2, hO, hG, -⟩ := hE
  have hA := As_b (v := O a) (x := a) (L := 0) (H := 1794) (b := n.toNat) a0 (fun j j0 j1 => hO a j a0 a1 j0 (by omega))
  have hB := As_b (v := G y) (x := y) (L := 0) (H := 4000) (b := k.toNat) y0 (fun j j0 j1 => hG y j y0 y1 j0 (by omega))
  have s1 : szo a ((n.toNat : Nat) : Int) = n - 1 := by unfold szo; rw [if_pos (by omega)]; omega
  have s2 : szo y ((k.toNat : Nat) : Int) = k - 1 := by unfold szo; rw [if_pos (by omega)]; omega
  rw [s1] at hA
  rw [s2] at hB
  have ht : ∀ i : Int, 0 ≤ i → i < ((n - 1).toNat : Int) → 0 ≤ As (O a) a n.toNat (n - 2 - i) * As (G y) y k.toNat i ∧ As (O a) a n.toNat (n - 2 - i) * As (G y) y k.toNat i ≤ 7176000 := by
    intro i i0 i1
    have h1 := hA (n - 2 - i) (by omega) (by omega)
    have h2 := hB i i0 (by omega)
    have := mul_b h1.1 h1.2 h2.1 h2.2
    omega
  unfold prc
  refine ⟨sm_nn (fun i i0 i1 => (ht i i0 i1).1), ?_⟩
  have := sm_le (n := (n - 1).toNat) (g := fun _ => 7176000) (fun i i0 i1 => (ht i i0 i1).2)
  rw [sm_const] at this
  omega
def alm (n : Int) (fo : Int → Int) (a y : Int) : Prop := if fo a = -1 then ∀ b, 0 ≤ b → b < n → fo b ≠ y else fo a = y
def val (P : Int → Int → Int) (n : Int) (f : Int → Int) : Int := sm n.toNat (fun a => P a (f a))
def Bw (al : Int → Int → Prop) (P : Int → Int → Int) (n k w : Int) : Prop := (w = -1 ∨ (0 ≤ w ∧ ∃ f, Fe al n k f ∧ w = val P n f)) ∧ (∀ f, Fe al n k f → 0 ≤ w ∧ w ≤ val P n f)
def Bi (al : Int → Int → Prop) (P : Int → Int → Int) (n k : Int) (S : Nat) (w : Int) : Prop := (w = -1 ∨ (0 ≤ w ∧ w ≤ 840000000 ∧ ∃ f, Fe al n k f ∧ w = val P n f)) ∧ (∀ (t : Nat) (f : Int → Int), t < S → t < 2 ^ k.toNat → pc t = n → PlM al k t f → 0 ≤ w ∧ w ≤ val P n f)
theorem vm_val {P : Int → Int → Int} {n : Int} {t : Nat} {f : Int → Int} (h : pc t = n) : vm P t f = val P n f := by unfold vm val; rw [h]
theorem Bi_skip {al : Int → Int → Prop} {P : Int → Int → Int} {n k : Int} {S : Nat} {w : Int} {V : Int → Int} (hk : k ≤ 12) (hS : S < 2 ^ k.toNat) (hM : Mv al P n k S 0 V) (h : Bi al P n k S w) (hno : V (S : Int) < 0 ∨ pc S ≠ n) : Bi al P n k (S + 1) w := by
  refine ⟨h.1, fun t f t1 t2 t3 hf => ?_⟩
  by_cases e : t = S
  · subst e
    rcases hno with q | q
    · have := Mv_at hk hM (Nat.le_refl t) t2 hf (by omega)
      omega
    · exact absurd t3 q
  · exact h.2 t f (by omega) t2 t3 hf
theorem Bi_put {al : Int → Int → Prop} {P : Int → Int → Int} {n k : Int} {S : Nat} {w v : Int} {V : Int → Int} (hk : k ≤ 12) (hS : S < 2 ^ k.toNat) (hM : Mv al P n k S 0 V) (h : Bi al P n k S w) (h0 : 0 ≤ V (S : Int)) (hp : pc S = n) (hv : v = if w < 0 then V (S : Int) else min w (V (S : Int))) : Bi al P n k (S + 1) v := by
  obtain ⟨b1, b2, f0, b3, b4⟩ := (hM.2.1 S hS).resolve_left (by omega)
  have hpb := pc_b S
  rw [vm_val hp] at b4
  have hfe : Fe al n k f0 := by
    rw [PlM, hp] at b3
    exact ⟨b3.1, b3.2.1⟩
  have hvb : 0 ≤ v ∧ v ≤ V (S : Int) ∧ (0 ≤ w → v ≤ w) := by
    rw [hv]
    split <;> omega
  refine ⟨Or.inr ?_, fun t f t1 t2 t3 hf => ?_⟩
  · by_cases q : v = V (S : Int)
    · rw [q]; exact ⟨by omega, by omega, f0, hfe, b4⟩
    · have hw : ¬ w < 0 := by
        intro q2
        rw [if_pos q2] at hv
        exact q hv
      have ew : v = w := by
        rw [if_neg hw] at hv
        omega
      rw [ew]
      exact h.1.resolve_left (by omega)
  · by_cases e : t = S
    · subst e
      have := Mv_at hk hM (Nat.le_refl t) t2 hf (by omega)
      rw [vm_val hp] at this
      omega
    · have := h.2 t f (by omega) t2 t3 hf
      omega
theorem may_alm {n : Int} {mf fo row : Int → Int} {a y : Int} (ha : 0 ≤ a ∧ a < n) (h : ∀ b, 0 ≤ b → b < n → mf b = fo b) : mayB n mf row a y 0 ↔ alm n fo a y := by
  unfold mayB alm
  rw [h a ha.1 ha.2]
  split
  · constructor
    · intro hh b b0 b1
      rw [← h b b0 b1]; exact (hh b b0 b1).1
    · intro hh b b0 b1
      rw [h b b0 b1]; exact ⟨hh b b0 b1, fun z => by omega⟩
  · exact Iff.rfl
theorem m_inner {n k : Int} {fo : Int → Int} {P : Int → Int → Int} (w : Int) (S : Nat) (B : Mm) (Q : Int → Mm → Prop) (K : Mm → Prop) (hn : 1 ≤ n ∧ n ≤ 10) (hk : k ≤ 12) (m0 : B 8 0 = n) (m5 : B 8 5 = k) (h37 : ∀ a, 0 ≤ a → a < n → B 37 a = fo a) (h47 : ∀ a y, 0 ≤ a → a < n → 0 ≤ y → y < k → B 47 (12 * a + y) = P a y) (hP : ∀ a y, 0 ≤ a → a < n → 0 ≤ y → y < k → 0 ≤ P a y ∧ P a y ≤ 70000000) (hS : S < 2 ^ k.toNat) (hM : Mv (alm n fo) P n k S 0 (B 45)) (h : ∀ C : Mm, (∀ c, c ≠ 45 → C c = B c) → Mv (alm n fo) P n k (S + 1) 0 (C 45) → K C) : wp_X8_bound_L202 w (S : Int) (pc S) Q K 0 B := by
  have h12 := p2_12 (j := k.toNat) (by omega)
  have hpb := pc_b S
  refine LP1.of (b := bc_X8_bound_L202 w (S : Int) (pc S) Q K) (fun y C => 0 ≤ y ∧ (∀ c, c ≠ 45 → C c = B c) ∧ Mv (alm n fo) P n k S y (C 45)) (fun y _ => (k - y).toNat) ?_ 0 B ⟨by omega, fun _ _ => rfl, hM⟩
  rintro R y C ⟨y0, fC, hC⟩ ih
  unfold bc_X8_bound_L202
  have c8 := fC 8 (by decide)
  rw [c8, m0, m5]
  refine ⟨fun q => h C fC (Mv_done hk hS hC (Or.inl q)), fun q => ⟨fun q1 => h C fC (Mv_done hk hS hC (Or.inr (Or.inl q1))), fun q1 => ⟨by omega, fun q2 => h C fC (Mv_done hk hS hC (Or.inr (Or.inr q2))), fun q2 => ?_⟩⟩⟩
  have hor := or_bit (s := S) (j := y) (by omega) y0 (by omega)
  have hpos := Nat.two_pow_pos y.toNat
  have skip : (S.testBit y.toNat = true ∨ ¬ alm n fo (pc S) y) → iR (y + 1) ∧ R (y + 1) C := fun hh => ⟨by omega, ih _ _ ⟨by omega, fC, Mv_skip hk hS hC hh⟩ (by omega)⟩
  cases hq : S.testBit y.toNat with
  | true =>
    rw [hq, if_pos rfl] at hor
    rw [hor]
    exact ⟨fun _ => skip (Or.inl hq), fun z => absurd rfl z⟩
  | false =>
    rw [hq, if_neg (by decide)] at hor
    rw [hor]
    refine ⟨fun z => by omega, fun _ => ?_⟩
    have horN := b_or (s := S) (j := y.toNat) (by omega) (by omega)
    rw [if_neg (by rw [hq]; decide)] at horN
    have hT : S + 2 ^ y.toNat < 2 ^ k.toNat := by
      rw [← horN]
      exact Nat.or_lt_two_pow hS (Nat.pow_lt_pow_right (by decide) (by omega))
    have hmay := may_alm (n := n) (mf := C 37) (fo := fo) (row := C 41) (a := pc S) (y := y) ⟨hpb.1, by omega⟩ (fun b b0 b1 => by rw [fC 37 (by decide)]; exact h37 b b0 b1)
    refine s_mayBear41 (pc S) y 0 C _ (by rw [c8, m0]; omega) (by omega) (fun hm => ⟨fun z => absurd z (by decide), fun _ => ?_⟩) (fun hm => ⟨fun _ => skip (Or.inr (fun z => hm (by rw [c8, m0]; exact hmay.mpr z))), fun z => absurd rfl z⟩)
    rw [c8, m0] at hm
    have hal := hmay.mp hm
    have e47 : C 47 (12 * pc S + y) = P (pc S) y := by rw [fC 47 (by decide)]; exact h47 _ _ hpb.1 (by omega) y0 (by omega)
    have hPb := hP (pc S) y hpb.1 (by omega) y0 (by omega)
    rw [e47]
    obtain ⟨v1, v2, -⟩ := (hC.2.1 S hS).resolve_left (by omega)
    have hTv := hC.2.1 (S + 2 ^ y.toNat) hT
    have hTp := pc_b (S + 2 ^ y.toNat)
    have hTb : C 45 ((S + 2 ^ y.toNat : Nat) : Int) ≤ 840000000 := by
      rcases hTv with z | ⟨z1, z2, -⟩
      · omega
      · omega
    clear hTv
    have put : ∀ v, v = (if C 45 ((S + 2 ^ y.toNat : Nat) : Int) < 0 then C 45 (S : Int) + P (pc S) y else min (C 45 ((S + 2 ^ y.toNat : Nat) : Int)) (C 45 (S : Int) + P (pc S) y)) → iR (y + 1) ∧ R (y + 1) (mset C 45 ((S + 2 ^ y.toNat : Nat) : Int) v) := by
      intro v hv
      refine ⟨by omega, ih _ _ ⟨by omega, fun c hc => ?_, ?_⟩ (by omega)⟩
      · simp only [mset_eq, fu_ap, hc, reduceIte]; exact fC c hc
      · exact Mv_put hk hS hC y0 (by omega) hq hal (by omega) v1 hPb hT hv
    refine ⟨by omega, by omega, by omega, fun q3 => ⟨⟨by omega, by omega⟩, by omega, put _ ?_⟩, fun q3 => ⟨by omega, Or.inl ⟨⟨by omega, by omega⟩, ⟨by omega, by omega⟩⟩, fun q4 => ⟨by omega, by omega, put _ ?_⟩, fun q4 => ⟨⟨by omega, by omega⟩, by omega, put _ ?_⟩⟩⟩
    · rw [if_pos q3]
    · rw [if_neg q3]; omega
    · rw [if_neg q3]; omega
theorem m_bound (Mi : Mm) {n k : Int} {O G : Int → Int → Int} {fo : Int → Int} (hE : Ev O G n k fo) (hM : Md Mi n k O G) (h37 : ∀ a, 0 ≤ a → a < n → Mi 37 a = fo a) (Q : Int → Mm → Prop) (h : ∀ (M' : Mm) (w : Int), (∀ c, c ≠ 43 → c ≠ 44 → c ≠ 45 → c ≠ 46 → c ≠ 47 → M' c = Mi c) → Bw (alm n fo) (prc O G n k) n k w → Q w M') : wp_X8_bound Mi Q := by
  obtain ⟨n1, n2, hnk, k2, -, -, -⟩ := id hE
  obtain ⟨m0, m5, -⟩ := id hM
  have h12 := p2_12 (j := k.toNat) (by omega)
  have hpk := Nat.two_pow_pos k.toNat
  have hP : ∀ a y, 0 ≤ a → a < n → 0 ≤ y → y < k → 0 ≤ prc O G n k a y ∧ prc O G n k a y ≤ 70000000 := fun a y a0 a1 y0 y1 => prc_b hE a0 a1 y0 y1
  have hsh : a_shl32 1 k = ((2 ^ k.toNat : Nat) : Int) := shl32 (by omega) (by omega)
  refine ⟨fun _ => ?_, fun q => absurd (by omega) q⟩
  refine LP1.of (b := bc_X8_bound_L35 (-1) Q _) (fun x B => ∃ s : Nat, x = (s : Int) ∧ 1 ≤ s ∧ s ≤ 2 ^ k.toNat ∧ (∀ c, c ≠ 45 → c ≠ 46 → B c = Mi c) ∧ B 45 0 = 0 ∧ (∀ t : Nat, t < s → B 46 (t : Int) = pc t ∧ (1 ≤ t → B 45 (t : Int) = -1))) (fun x _ => (((2 ^ k.toNat : Nat) : Int) - x).toNat) ?_ 1 _ ⟨1, rfl, Nat.le_refl _, hpk, fun c c1 c2 => by simp only [mset_eq, fu_ap, c1, c2, reduceIte], rfl, fun t ht => ?_⟩
  · rintro R x B ⟨s, rfl, s1, s2, fB, z0, hB⟩ ih
    unfold bc_X8_bound_L35
    have b8 := fB 8 (by decide) (by decide)
    rw [b8, m5, hsh]
    refine ⟨fun q => ?_, fun q => ?_⟩
    · -- the prices
      have hs : s = 2 ^ k.toNat := by omega
      rw [hs] at hB
      refine LP1.of (b := bc_X8_bound_L80 (-1) Q _) (fun a C => 0 ≤ a ∧ a ≤ n ∧ (∀ c, c ≠ 43 → c ≠ 44 → c ≠ 47 → C c = B c) ∧ ∀ b y, 0 ≤ b → b < a → 0 ≤ y → y < k → C 47 (12 * b + y) = prc O G n k b y) (fun a _ => (n - a).toNat) ?_ 0 B ⟨by omega, by omega, fun _ _ _ _ => rfl, fun b y b0 b1 => by omega⟩
      rintro R2 a C ⟨a0, a1, fC, hC⟩ ih2
      unfold bc_X8_bound_L80
      have c8 : C 8 = Mi 8 := (fC 8 (by decide) (by decide) (by decide)).trans b8
      rw [c8, m0]
      refine ⟨fun q2 => ?_, fun q2 => ?_⟩
      · -- the sets
        have fCM : ∀ c, c ≠ 43 → c ≠ 44 → c ≠ 45 → c ≠ 46 → c ≠ 47 → C c = Mi c := fun c x1 x2 x3 x4 x5 => (fC c x1 x2 x5).trans (fB c x3 x4)
        have c45 := fC 45 (by decide) (by decide) (by decide)
        have c46 := fC 46 (by decide) (by decide) (by decide)
        have hMv0 : Mv (alm n fo) (prc O G n k) n k 0 0 (C 45) := by
          rw [c45]
          refine ⟨z0, fun t ht => ?_, fun t f ht hf h1 hn2 hc => ?_⟩
          · by_cases e : t = 0
            · subst e
              right
              refine ⟨by show 0 ≤ B 45 0; omega, by show B 45 0 ≤ _; rw [pc_0]; omega, fun _ => 0, ⟨fun b b0 b1 => by rw [pc_0] at b1; omega, fun b c b0 b1 => by rw [pc_0] at b1; omega, fun y y0 y1 => ?_⟩, ?_⟩
              · rw [Nat.zero_testBit, pc_0]
                constructor
                · intro z; exact absurd z (by decide)
                · rintro ⟨b, b0, b1, -⟩; omega
              · show B 45 0 = _
                unfold vm; rw [pc_0, z0]; rfl
            · left
              exact (hB t ht).2 (by omega)
          · exfalso
            have hfb := hf.1 (pc t - 1) (by omega) (by omega)
            omega
        refine LP2.of (b := bc_X8_bound_L133 Q) (fun w x D => ∃ S : Nat, x = (S : Int) ∧ S ≤ 2 ^ k.toNat ∧ (∀ c, c ≠ 45 → D c = C c) ∧ Mv (alm n fo) (prc O G n k) n k S 0 (D 45) ∧ Bi (alm n fo) (prc O G n k) n k S w) (fun _ x _ => (((2 ^ k.toNat : Nat) : Int) - x).toNat) ?_ (-1) 0 C ⟨0, rfl, by omega, fun _ _ => rfl, hMv0, Or.inl rfl, fun t f t1 => by omega⟩
        rintro R3 w x D ⟨S, rfl, hS, fD, hMv, hBi⟩ ih3
        unfold bc_X8_bound_L133
        have d8 : D 8 = Mi 8 := (fD 8 (by decide)).trans c8
        rw [d8, m5, hsh, m0]
        refine ⟨fun q3 => h D w (fun c x1 x2 x3 x4 x5 => (fD c x3).trans (fCM c x1 x2 x3 x4 x5)) ⟨?_, fun f hf => ?_⟩, fun q3 => ?_⟩
        · rcases hBi.1 with z | ⟨z1, z2, z3⟩
          · exact Or.inl z
          · exact Or.inr ⟨z1, z3⟩
        · obtain ⟨t, t1, t2, t3⟩ := Fe_set (by omega) k2 hf
          exact hBi.2 t f (by omega) t1 t2 t3
        have hS2 : S < 2 ^ k.toNat := by omega
        have e46 : D 46 (S : Int) = pc S := by rw [fD 46 (by decide), c46]; exact (hB S hS2).1
        rw [e46]
        have hdm : ∀ a, 0 ≤ a → a < n → D 37 a = fo a := fun a a0 a1 => by rw [fD 37 (by decide), fCM 37 (by decide) (by decide) (by decide) (by decide) (by decide)]; exact h37 a a0 a1
        have hd47 : ∀ a y, 0 ≤ a → a < n → 0 ≤ y → y < k → D 47 (12 * a + y) = prc O G n k a y := fun b y b0 b1 y0 y1 => by rw [fD 47 (by decide)]; exact hC b y b0 (by omega) y0 y1
        have inner : ∀ w', Bi (alm n fo) (prc O G n k) n k (S + 1) w' → wp_X8_bound_L202 w' (S : Int) (pc S) Q (fun M1 => iR ((S : Int) + 1) ∧ R3 w' ((S : Int) + 1) M1) 0 D := by
          intro w' hw'
          refine m_inner w' S D Q _ (by omega) k2 (by rw [d8]; exact m0) (by rw [d8]; exact m5) hdm hd47 hP hS2 hMv (fun E fE hE2 => ⟨by omega, ih3 _ _ _ ⟨S + 1, by push_cast; rfl, by omega, fun c hc => (fE c hc).trans (fD c hc), hE2, hw'⟩ (by omega)⟩)
        refine ⟨by omega, by omega, fun q4 => inner w (Bi_skip k2 hS2 hMv hBi (Or.inl q4)), fun q4 => ⟨fun q5 => inner w (Bi_skip k2 hS2 hMv hBi (Or.inr q5)), fun q5 => ?_⟩⟩
        have hwb : -1 ≤ w ∧ w ≤ 840000000 := by
          rcases hBi.1 with z | ⟨z1, z2, -⟩
          · omega
          · omega
        have hvb : D 45 (S : Int) ≤ 840000000 := by
          obtain ⟨-, z2, -⟩ := (hMv.2.1 S hS2).resolve_left (by omega)
          have := pc_b S
          omega
        refine ⟨Or.inl ⟨⟨by omega, by omega⟩, ⟨by omega, by omega⟩⟩, fun q6 => ⟨by omega, inner _ (Bi_put k2 hS2 hMv hBi (by omega) q5 (by rw [if_pos q6]))⟩, fun q6 => ⟨by omega, Or.inl ⟨⟨by omega, by omega⟩, ⟨by omega, by omega⟩⟩, fun q7 => inner w (Bi_put k2 hS2 hMv hBi (by omega) q5 (by rw [if_neg q6]; omega)), fun q7 => ⟨by omega, inner _ (Bi_put k2 hS2 hMv hBi (by omega) q5 (by rw [if_neg q6]; omega))⟩⟩⟩
      · refine LP1.of (b := bc_X8_bound_L91 (-1) a Q _) (fun y D => 0 ≤ y ∧ y ≤ k ∧ (∀ c, c ≠ 43 → c ≠ 44 → c ≠ 47 → D c = B c) ∧ (∀ b z, 0 ≤ b → b < a → 0 ≤ z → z < k → D 47 (12 * b + z) = prc O G n k b z) ∧ (∀ z, 0 ≤ z → z < y → D 47 (12 * a + z) = prc O G n k a z)) (fun y _ => (k - y).toNat) ?_ 0 C ⟨by omega, by omega, fC, hC, fun z z0 z1 => by omega⟩
        rintro R3 y D ⟨y0, y1, fD, hD, hDa⟩ ih3
        unfold bc_X8_bound_L91
        have d8 : D 8 = Mi 8 := (fD 8 (by decide) (by decide) (by decide)).trans b8
        rw [d8, m5]
        refine ⟨fun q3 => ⟨by omega, ih2 _ _ ⟨by omega, by omega, fD, fun b z b0 b1 z0 z1 => ?_⟩ (by omega)⟩, fun q3 => ?_⟩
        · by_cases e : b = a
          · rw [e]; exact hDa z z0 (by omega)
          · exact hD b z b0 (by omega) z0 z1
        · have hmd : Md D n k O G := Md_fr hM (by rw [d8]) (by rw [d8]) (by rw [fD 33 (by decide) (by decide) (by decide), fB 33 (by decide) (by decide)]) (by rw [fD 34 (by decide) (by decide) (by decide), fB 34 (by decide) (by decide)]) (by rw [fD 35 (by decide) (by decide) (by decide), fB 35 (by decide) (by decide)]) (by rw [fD 36 (by decide) (by decide) (by decide), fB 36 (by decide) (by decide)])
          have hpb := hP a y a0 (by omega) y0 (by omega)
          refine s_priceOf a y D _ hmd hnk (by omega) (by omega) (fun D' fD' => ⟨⟨by omega, by omega⟩, by omega, by omega, ih3 _ _ ⟨by omega, by omega, fun c c1 c2 c3 => ?_, fun b z b0 b1 z0 z1 => ?_, fun z z0 z1 => ?_⟩ (by omega)⟩)
          · simp only [mset_eq, fu_ap, c3, reduceIte]; exact (fD' c c1 c2).trans (fD c c1 c2 c3)
          · show fu (D' 47) (12 * a + y) _ (12 * b + z) = _
            rw [fu_n _ _ (by omega), fD' 47 (by decide) (by decide)]; exact hD b z b0 b1 z0 z1
          · show fu (D' 47) (12 * a + y) _ (12 * a + z) = _
            by_cases e : z = y
            · rw [e, fu_s]
            · rw [fu_n _ _ (by omega), fD' 47 (by decide) (by decide)]; exact hDa z z0 (by omega)
    · have hlow := pc_low (s := s) (by omega) s1
      rw [and_low (by omega) s1]
      have e46 : (mset B 45 (s : Int) (-1)) 46 ((s &&& (s - 1) : Nat) : Int) = pc (s &&& (s - 1)) := (hB _ hlow.2).1
      have hpb := pc_b (s &&& (s - 1))
      rw [e46]
      refine ⟨by omega, by omega, by omega, by omega, by omega, ih _ _ ⟨s + 1, by push_cast; rfl, by omega, by omega, fun c c1 c2 => ?_, ?_, fun t ht => ?_⟩ (by omega)⟩
      · simp only [mset_eq, fu_ap, c1, c2, reduceIte]; exact fB c c1 c2
      · show fu (B 45) (s : Int) (-1) 0 = 0
        rw [fu_n _ _ (by omega)]; exact z0
      · show fu (B 46) (s : Int) _ (t : Int) = pc t ∧ (1 ≤ t → fu (B 45) (s : Int) (-1) (t : Int) = -1)
        by_cases e : t = s
        · subst e
          rw [fu_s, fu_s]
          exact ⟨hlow.1, fun _ => rfl⟩
        · rw [fu_n _ _ (by omega), fu_n _ _ (by omega)]
          exact hB t (by omega)
  · have e : t = 0 := by omega
    subst e
    exact ⟨pc_0.symm, fun z => by omega⟩
theorem first_const {P : Prop} (M : Mm) (h : wp_X5_becomeFirst M (fun _ => P)) : P := by
  refine LP2.ind (b := bc_X5_becomeFirst_L4 (fun _ => P)) (P := fun _ _ _ => P) ?_ 0 0 M h
  intro R hR x1 x2 B hb
  unfold bc_X5_becomeFirst_L4 wp_X3_isFixed at hb
  by_cases q : B 1 0 ≤ x2
  · exact hb.1 q
  · obtain ⟨_, g1, g2⟩ := hb.2 q
    by_cases q2 : B 9 x2 = -1
    · have h3 := (g1 q2).1 rfl
      refine LP1.ind (b := bc_X5_unfixedFrom_L2 (fun z2 M2 => (0 ≤ x2 ∧ x2 < 10) ∧ iR (z2 + 1) ∧ iR (x2 + 1) ∧ R (z2 + 1) (x2 + 1) (mset M2 19 x2 z2))) (P := fun _ _ => P) ?_ x1 B h3
      intro R2 hR2 x C hc
      unfold bc_X5_unfixedFrom_L2 at hc
      obtain ⟨_, c1, c2⟩ := hc
      by_cases q3 : C 3 0 - 1 ≤ x
      · exact hR _ _ _ (c1 q3).2.2.2
      · obtain ⟨_, c3, c4⟩ := c2 q3
        by_cases q4 : C 10 x = -1
        · exact hR _ _ _ (c3 q4).2.2.2
        · exact hR2 _ _ (c4 q4).2
    · exact hR _ _ _ ((g2 q2).2 (by decide)).2.2.2
theorem Sok_ex {M : Mm} (hI : Inv M) (hnk : M 1 0 ≤ M 3 0) : ∃ f, Sok (M 1 0) (M 3 0) (M 9) f := by
  obtain ⟨hn, hk, hg, hc, hf, hs, hd, ht, hz, hb, hp, hq, ho⟩ := id hI
  obtain ⟨n1, n2, k1, k2, e1, e2⟩ := id hn
  exact first_const M (s_becomeFirst M _ (M 37) (by omega) (by omega) hnk hf (fun M' _ _ _ f4 => ⟨_, fstP_Sok hnk n2 hf f4⟩))
theorem Sok_Fe {n k : Int} {fo f : Int → Int} (h : Sok n k fo f) : Fe (alm n fo) n k f := by
  refine ⟨fun a a0 a1 => ?_, h.2.2⟩
  obtain ⟨h1, h2, h3⟩ := h.2.1 a a0 a1
  refine ⟨h1, h2, ?_⟩
  unfold alm
  by_cases q : fo a = -1
  · rw [if_pos q]
    intro b b0 b1 e
    obtain ⟨g1, g2, g3⟩ := h.2.1 b b0 b1
    have e2 := g3 (by omega)
    have := h.2.2 b a b0 b1 a0 a1 (e2.trans e)
    rw [this] at e; omega
  · rw [if_neg q]; exact (h3 q).symm
theorem Fe_iff {al al' : Int → Int → Prop} {n k : Int} {f : Int → Int} (h : ∀ a y, 0 ≤ a → a < n → 0 ≤ y → y < k → (al a y ↔ al' a y)) (hf : Fe al n k f) : Fe al' n k f := by
  refine ⟨fun a a0 a1 => ?_, hf.2⟩
  obtain ⟨h1, h2, h3⟩ := hf.1 a a0 a1
  exact ⟨h1, h2, (h a _ a0 a1 h1 h2).mp h3⟩
theorem all_bits {n : Int} {a : Int} (a0 : 0 ≤ a) (a1 : a < n) : (2 ^ n.toNat - 1).testBit a.toNat = true := by
  rw [Nat.testBit_two_pow_sub_one]
  exact decide_eq_true (by omega)
theorem PlC_Fe {al : Int → Int → Prop} {n k : Int} {f : Int → Int} : PlC al n (2 ^ n.toNat - 1) k f ↔ Fe al n k f := by
  constructor
  · intro h
    exact ⟨fun a a0 a1 => h.1 a a0 a1 (all_bits a0 a1), fun a b a0 a1 b0 b1 => h.2 a b a0 a1 b0 b1 (all_bits a0 a1) (all_bits b0 b1)⟩
  · intro h
    exact ⟨fun a a0 a1 _ => h.1 a a0 a1, fun a b a0 a1 b0 b1 _ _ => h.2 a b a0 a1 b0 b1⟩
theorem vs_val {P : Int → Int → Int} {n : Int} {f : Int → Int} : vs P n (2 ^ n.toNat - 1) f = val P n f := by
  unfold vs val
  apply sm_congr
  intro a a0 a1
  exact if_pos (all_bits a0 (by omega))
theorem e_bound (M : Mm) (hI : Inv M) : Same wp_X7_bound wp_X8_bound M := by
  obtain ⟨hn, hk, hg, hc, hf, hs, hd, ht, hz, hb, hp, hq, ho⟩ := id hI
  obtain ⟨n1, n2, k1, k2, e1, e2⟩ := id hn
  unfold Same wp_X7_bound wp_X7_tooFewKeys
  by_cases hnk : M 1 0 ≤ M 3 0
  · have hE := Inv_Ev hI hnk
    refine ⟨fun _ => ⟨fun _ => ?_, fun q => absurd rfl q⟩, fun q => absurd hnk q⟩
    refine s_leastSum M _ (by omega) (by omega) (fun a y a0 a1 y0 y1 => by have := prc_b hE a0 a1 y0 y1; omega) (fun M' w f1 hC => ?_)
    have m8 := f1 8 (by decide) (by decide) (by decide) (by decide)
    have hmd : Md M' (M 1 0) (M 3 0) (Oc1 M) (Gc1 M) := Md_fr (Inv_Md hI) (by rw [m8]) (by rw [m8]) (f1 33 (by decide) (by decide) (by decide) (by decide)) (f1 34 (by decide) (by decide) (by decide) (by decide)) (f1 35 (by decide) (by decide) (by decide) (by decide)) (f1 36 (by decide) (by decide) (by decide) (by decide))
    refine m_bound M' hE hmd (fun a a0 a1 => ?_) _ (fun M2 w' g1 hB => ⟨?_, ?_⟩)
    · rw [f1 37 (by decide) (by decide) (by decide) (by decide)]; exact (hf.1 a a0 (by omega)).1
    · have hal : ∀ a y, 0 ≤ a → a < M 1 0 → 0 ≤ y → y < M 3 0 → (alc M a y ↔ alm (M 1 0) (M 9) a y) := by
        intro a y a0 a1 y0 y1
        unfold alc alm
        split
        · exact Jf_Ffb hf n2 y y0 (by omega)
        · exact Iff.rfl
      obtain ⟨f0, hf0⟩ := Sok_ex hI hnk
      have hF0 := Sok_Fe hf0
      obtain ⟨c1, c2, c3, c4⟩ := hC
      obtain ⟨b1, b2⟩ := hB
      have up : ∀ f, Fe (alm (M 1 0) (M 9)) (M 1 0) (M 3 0) f → w ≤ val (prc (Oc1 M) (Gc1 M) (M 1 0) (M 3 0)) (M 1 0) f := by
        intro f hf
        have := c3 f (PlC_Fe.mpr (Fe_iff (fun a y a0 a1 y0 y1 => (hal a y a0 a1 y0 y1).symm) hf))
        rw [vs_val] at this
        exact this
      have hv0 : val (prc (Oc1 M) (Gc1 M) (M 1 0) (M 3 0)) (M 1 0) f0 ≤ 700000000 := by
        unfold val
        have := sm_le (n := (M 1 0).toNat) (f := fun a => prc (Oc1 M) (Gc1 M) (M 1 0) (M 3 0) a (f0 a)) (g := fun _ => 70000000) (fun a a0 a1 => by
          have hz := hF0.1 a a0 (by omega)
          exact (prc_b hE a0 (by omega) hz.1 hz.2.1).2)
        rw [sm_const] at this
        omega
      have hw0 := up f0 hF0
      obtain ⟨fa, fa1, fa2⟩ := c4.resolve_left (by omega)
      rw [vs_val] at fa2
      have hfa := Fe_iff hal (PlC_Fe.mp fa1)
      have k1 := b2 fa hfa
      obtain ⟨-, fb, fb1, fb2⟩ := b1.resolve_left (by omega)
      have k2 := up fb fb1
      omega
    · have h2 : ∀ c, c ≠ 23 → c ≠ 24 → c ≠ 25 → c ≠ 26 → c ≠ 43 → c ≠ 44 → c ≠ 45 → c ≠ 46 → c ≠ 47 → M2 c = M c := fun c x1 x2 x3 x4 x5 x6 x7 x8 x9 => (g1 c x5 x6 x7 x8 x9).trans (f1 c x1 x2 x3 x4)
      refine Inv_fr hI (fun c _ _ x1 x2 x3 x4 _ _ _ _ x5 x6 x7 x8 x9 _ => h2 c x1 x2 x3 x4 x5 x6 x7 x8 x9) ?_ ?_ ?_ ?_
      · rw [h2 4 (by decide) (by decide) (by decide) (by decide) (by decide) (by decide) (by decide) (by decide) (by decide)]
      · rw [h2 5 (by decide) (by decide) (by decide) (by decide) (by decide) (by decide) (by decide) (by decide) (by decide)]
      · rw [h2 5 (by decide) (by decide) (by decide) (by decide) (by decide) (by decide) (by decide) (by decide) (by decide)]
      · rw [h2 5 (by decide) (by decide) (by decide) (by decide) (by decide) (by decide) (by decide) (by decide) (by decide)]
  · refine ⟨fun q => absurd q hnk, fun _ => ⟨fun q => absurd q (by decide), fun _ => ?_⟩⟩
    show wp_X8_bound M (fun r' M2 => -3 = r' ∧ Inv M2)
    exact ⟨fun q => by omega, fun _ => ⟨rfl, hI⟩⟩
