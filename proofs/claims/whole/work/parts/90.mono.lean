theorem im_mo {A B B' : Prop} (h : B → B') : (A → B) → (A → B') := fun f a => h (f a)
theorem LP1.mono {b b' : (Int → Mm → Prop) → Int → Mm → Prop} (hb : ∀ R R' : Int → Mm → Prop, (∀ x0 M, R x0 M → R' x0 M) → ∀ x0 M, b R x0 M → b' R' x0 M) : ∀ x0 M, LP1 b x0 M → LP1 b' x0 M := by
  have key : ∀ n x0 M, lpw1 b n x0 M → lpw1 b' n x0 M := by
    intro n
    induction n with
    | zero => intro x0 M h; exact h
    | succ n ih => intro x0 M h; exact hb _ _ ih x0 M h
  rintro x0 M ⟨n, h⟩
  exact ⟨n, key n x0 M h⟩
theorem LP2.mono {b b' : (Int → Int → Mm → Prop) → Int → Int → Mm → Prop} (hb : ∀ R R' : Int → Int → Mm → Prop, (∀ x0 x1 M, R x0 x1 M → R' x0 x1 M) → ∀ x0 x1 M, b R x0 x1 M → b' R' x0 x1 M) : ∀ x0 x1 M, LP2 b x0 x1 M → LP2 b' x0 x1 M := by
  have key : ∀ n x0 x1 M, lpw2 b n x0 x1 M → lpw2 b' n x0 x1 M := by
    intro n
    induction n with
    | zero => intro x0 x1 M h; exact h
    | succ n ih => intro x0 x1 M h; exact hb _ _ ih x0 x1 M h
  rintro x0 x1 M ⟨n, h⟩
  exact ⟨n, key n x0 x1 M h⟩
theorem LP4.mono {b b' : (Int → Int → Int → Int → Mm → Prop) → Int → Int → Int → Int → Mm → Prop} (hb : ∀ R R' : Int → Int → Int → Int → Mm → Prop, (∀ x0 x1 x2 x3 M, R x0 x1 x2 x3 M → R' x0 x1 x2 x3 M) → ∀ x0 x1 x2 x3 M, b R x0 x1 x2 x3 M → b' R' x0 x1 x2 x3 M) : ∀ x0 x1 x2 x3 M, LP4 b x0 x1 x2 x3 M → LP4 b' x0 x1 x2 x3 M := by
  have key : ∀ n x0 x1 x2 x3 M, lpw4 b n x0 x1 x2 x3 M → lpw4 b' n x0 x1 x2 x3 M := by
    intro n
    induction n with
    | zero => intro x0 x1 x2 x3 M h; exact h
    | succ n ih => intro x0 x1 x2 x3 M h; exact hb _ _ ih x0 x1 x2 x3 M h
  rintro x0 x1 x2 x3 M ⟨n, h⟩
  exact ⟨n, key n x0 x1 x2 x3 M h⟩
theorem LP5.mono {b b' : (Int → Int → Int → Int → Int → Mm → Prop) → Int → Int → Int → Int → Int → Mm → Prop} (hb : ∀ R R' : Int → Int → Int → Int → Int → Mm → Prop, (∀ x0 x1 x2 x3 x4 M, R x0 x1 x2 x3 x4 M → R' x0 x1 x2 x3 x4 M) → ∀ x0 x1 x2 x3 x4 M, b R x0 x1 x2 x3 x4 M → b' R' x0 x1 x2 x3 x4 M) : ∀ x0 x1 x2 x3 x4 M, LP5 b x0 x1 x2 x3 x4 M → LP5 b' x0 x1 x2 x3 x4 M := by
  have key : ∀ n x0 x1 x2 x3 x4 M, lpw5 b n x0 x1 x2 x3 x4 M → lpw5 b' n x0 x1 x2 x3 x4 M := by
    intro n
    induction n with
    | zero => intro x0 x1 x2 x3 x4 M h; exact h
    | succ n ih => intro x0 x1 x2 x3 x4 M h; exact hb _ _ ih x0 x1 x2 x3 x4 M h
  rintro x0 x1 x2 x3 x4 M ⟨n, h⟩
  exact ⟨n, key n x0 x1 x2 x3 x4 M h⟩
theorem mo_bc_J7_fill_53178_c9_L5 {x1 : Int} {x3 : Int} {Q Q' : Mm → Prop} {R R' : Int → Mm → Prop} (hQ : ∀ z0, Q z0 → Q' z0) (hR : ∀ z0 z1, R z0 z1 → R' z0 z1) : ∀ (x2 : Int) (M : Mm), bc_J7_fill_53178_c9_L5 x1 x3 Q R x2 M → bc_J7_fill_53178_c9_L5 x1 x3 Q' R' x2 M := by
  intro x2 M
  unfold bc_J7_fill_53178_c9_L5
  exact fun h0 => ⟨(fun q1 => (hQ _ (h0.1 q1))), (fun q2 => ⟨(h0.2 q2).1, (h0.2 q2).2.1, (hR _ _ (h0.2 q2).2.2)⟩)⟩
theorem mo_wp_J7_fill_53178_c9_L5 {x1 : Int} {x3 : Int} {x2 : Int} {M : Mm} {Q Q' : Mm → Prop} (hQ : ∀ z0, Q z0 → Q' z0) : wp_J7_fill_53178_c9_L5 x1 x3 Q x2 M → wp_J7_fill_53178_c9_L5 x1 x3 Q' x2 M := LP1.mono (fun _ _ hR => mo_bc_J7_fill_53178_c9_L5 hQ hR) _ _
theorem mo_wp_J7_fill_53178_c9 {x1 : Int} {M : Mm} {Q Q' : Mm → Prop} (hQ : ∀ z0, Q z0 → Q' z0) : wp_J7_fill_53178_c9 x1 M Q → wp_J7_fill_53178_c9 x1 M Q' := by
  unfold wp_J7_fill_53178_c9
  exact fun h0 => (mo_wp_J7_fill_53178_c9_L5 hQ h0)
theorem mo_bc_J7_fill_53178_c10_L5 {x1 : Int} {x3 : Int} {Q Q' : Mm → Prop} {R R' : Int → Mm → Prop} (hQ : ∀ z0, Q z0 → Q' z0) (hR : ∀ z0 z1, R z0 z1 → R' z0 z1) : ∀ (x2 : Int) (M : Mm), bc_J7_fill_53178_c10_L5 x1 x3 Q R x2 M → bc_J7_fill_53178_c10_L5 x1 x3 Q' R' x2 M := by
  intro x2 M
  unfold bc_J7_fill_53178_c10_L5
  exact fun h0 => ⟨(fun q1 => (hQ _ (h0.1 q1))), (fun q2 => ⟨(h0.2 q2).1, (h0.2 q2).2.1, (hR _ _ (h0.2 q2).2.2)⟩)⟩
theorem mo_wp_J7_fill_53178_c10_L5 {x1 : Int} {x3 : Int} {x2 : Int} {M : Mm} {Q Q' : Mm → Prop} (hQ : ∀ z0, Q z0 → Q' z0) : wp_J7_fill_53178_c10_L5 x1 x3 Q x2 M → wp_J7_fill_53178_c10_L5 x1 x3 Q' x2 M := LP1.mono (fun _ _ hR => mo_bc_J7_fill_53178_c10_L5 hQ hR) _ _
theorem mo_wp_J7_fill_53178_c10 {x1 : Int} {M : Mm} {Q Q' : Mm → Prop} (hQ : ∀ z0, Q z0 → Q' z0) : wp_J7_fill_53178_c10 x1 M Q → wp_J7_fill_53178_c10 x1 M Q' := by
  unfold wp_J7_fill_53178_c10
  exact fun h0 => (mo_wp_J7_fill_53178_c10_L5 hQ h0)
theorem mo_wp_X3_startAnew {x1 : Int} {M : Mm} {Q Q' : Mm → Prop} (hQ : ∀ z0, Q z0 → Q' z0) : wp_X3_startAnew x1 M Q → wp_X3_startAnew x1 M Q' := by
  unfold wp_X3_startAnew
  exact fun h0 => (mo_wp_J7_fill_53178_c9 (fun _ h1 => (mo_wp_J7_fill_53178_c10 (fun _ h2 => (hQ _ h2)) h1)) h0)
theorem mo_wp_X1_forget {M : Mm} {Q Q' : Mm → Prop} (hQ : ∀ z0, Q z0 → Q' z0) : wp_X1_forget M Q → wp_X1_forget M Q' := by
  unfold wp_X1_forget
  exact fun h0 => (hQ _ h0)
theorem mo_wp_X7_letters {x1 : Int} {M : Mm} {Q Q' : Int → Mm → Prop} (hQ : ∀ z0 z1, Q z0 z1 → Q' z0 z1) : wp_X7_letters x1 M Q → wp_X7_letters x1 M Q' := by
  unfold wp_X7_letters
  exact fun h0 => ⟨(fun q1 => (hQ _ _ (h0.1 q1))), (fun q2 => ⟨(fun q3 => (mo_wp_X3_startAnew (fun _ h4 => (mo_wp_X1_forget (fun _ h5 => (hQ _ _ h5)) h4)) ((h0.2 q2).1 q3))), (fun q6 => (hQ _ _ ((h0.2 q2).2 q6)))⟩)⟩
theorem mo_wp_X8_in {x0 : Int} {x1 : Int} {x2 : Int} {M : Mm} {Q Q' : Int → Mm → Prop} (hQ : ∀ z0 z1, Q z0 z1 → Q' z0 z1) : wp_X8_in x0 x1 x2 M Q → wp_X8_in x0 x1 x2 M Q' := by
  unfold wp_X8_in
  exact fun h0 => ⟨(fun q1 => (hQ _ _ (h0.1 q1))), (fun q2 => ⟨(fun q3 => (hQ _ _ ((h0.2 q2).1 q3))), (fun q4 => (hQ _ _ ((h0.2 q2).2 q4)))⟩)⟩
theorem mo_bc_X8_unfix_L2 {Q Q' : Mm → Prop} {R R' : Int → Mm → Prop} (hQ : ∀ z0, Q z0 → Q' z0) (hR : ∀ z0 z1, R z0 z1 → R' z0 z1) : ∀ (x1 : Int) (M : Mm), bc_X8_unfix_L2 Q R x1 M → bc_X8_unfix_L2 Q' R' x1 M := by
  intro x1 M
  unfold bc_X8_unfix_L2
  exact fun h0 => ⟨(fun q1 => (hQ _ (h0.1 q1))), (fun q2 => ⟨(h0.2 q2).1, (h0.2 q2).2.1, (hR _ _ (h0.2 q2).2.2)⟩)⟩
theorem mo_wp_X8_unfix_L2 {x1 : Int} {M : Mm} {Q Q' : Mm → Prop} (hQ : ∀ z0, Q z0 → Q' z0) : wp_X8_unfix_L2 Q x1 M → wp_X8_unfix_L2 Q' x1 M := LP1.mono (fun _ _ hR => mo_bc_X8_unfix_L2 hQ hR) _ _
theorem mo_wp_X8_unfix {M : Mm} {Q Q' : Mm → Prop} (hQ : ∀ z0, Q z0 → Q' z0) : wp_X8_unfix M Q → wp_X8_unfix M Q' := by
  unfold wp_X8_unfix
  exact fun h0 => (mo_wp_X8_unfix_L2 hQ h0)
theorem mo_wp_X8_isLetter {x1 : Int} {M : Mm} {Q Q' : Int → Mm → Prop} (hQ : ∀ z0 z1, Q z0 z1 → Q' z0 z1) : wp_X8_isLetter x1 M Q → wp_X8_isLetter x1 M Q' := by
  unfold wp_X8_isLetter
  exact fun h0 => ⟨h0.1, (mo_wp_X8_in (fun _ _ h1 => (hQ _ _ h1)) h0.2)⟩
theorem mo_wp_X8_letterAt {x1 : Int} {x2 : Int} {M : Mm} {Q Q' : Int → Mm → Prop} (hQ : ∀ z0 z1, Q z0 z1 → Q' z0 z1) : wp_X8_letterAt x1 x2 M Q → wp_X8_letterAt x1 x2 M Q' := by
  unfold wp_X8_letterAt
  exact fun h0 => ⟨h0.1, h0.2.1, (mo_wp_X8_isLetter (fun _ _ h1 => ⟨(fun q2 => (hQ _ _ (h1.1 q2))), (fun q3 => (hQ _ _ (h1.2 q3)))⟩) h0.2.2)⟩
theorem mo_bc_X8_counts_L2 {Q Q' : Mm → Prop} {K21 K21' : Mm → Prop} {R R' : Int → Mm → Prop} (hQ : ∀ z0, Q z0 → Q' z0) (hK21 : ∀ z0, K21 z0 → K21' z0) (hR : ∀ z0 z1, R z0 z1 → R' z0 z1) : ∀ (x1 : Int) (M : Mm), bc_X8_counts_L2 Q K21 R x1 M → bc_X8_counts_L2 Q' K21' R' x1 M := by
  intro x1 M
  unfold bc_X8_counts_L2
  exact fun h0 => ⟨(fun q1 => (hK21 _ (h0.1 q1))), (fun q2 => ⟨(h0.2 q2).1, (h0.2 q2).2.1, (hR _ _ (h0.2 q2).2.2)⟩)⟩
theorem mo_wp_X8_counts_L2 {x1 : Int} {M : Mm} {Q Q' : Mm → Prop} {K21 K21' : Mm → Prop} (hQ : ∀ z0, Q z0 → Q' z0) (hK21 : ∀ z0, K21 z0 → K21' z0) : wp_X8_counts_L2 Q K21 x1 M → wp_X8_counts_L2 Q' K21' x1 M := LP1.mono (fun _ _ hR => mo_bc_X8_counts_L2 hQ hK21 hR) _ _
theorem mo_bc_X8_counts_L31 {x1 : Int} {Q Q' : Mm → Prop} {K100 K100' : Mm → Prop} {R R' : Int → Mm → Prop} (hQ : ∀ z0, Q z0 → Q' z0) (hK100 : ∀ z0, K100 z0 → K100' z0) (hR : ∀ z0 z1, R z0 z1 → R' z0 z1) : ∀ (x2 : Int) (M : Mm), bc_X8_counts_L31 x1 Q K100 R x2 M → bc_X8_counts_L31 x1 Q' K100' R' x2 M := by
  intro x2 M
  unfold bc_X8_counts_L31
  exact fun h0 => ⟨h0.1, (fun q1 => (hK100 _ (h0.2.1 q1))), (fun q2 => ⟨(h0.2.2 q2).1, (fun q3 => (hK100 _ ((h0.2.2 q2).2.1 q3))), (fun q4 => ⟨((h0.2.2 q2).2.2 q4).1, (mo_wp_X8_letterAt (fun _ _ h5 => (mo_wp_X8_letterAt (fun _ _ h6 => ⟨(fun q7 => ⟨(h6.1 q7).1, (hR _ _ (h6.1 q7).2)⟩), (fun q8 => ⟨(fun q9 => ⟨((h6.2 q8).1 q9).1, (hR _ _ ((h6.2 q8).1 q9).2)⟩), (fun q10 => ⟨((h6.2 q8).2 q10).1, ((h6.2 q8).2 q10).2.1, ((h6.2 q8).2 q10).2.2.1, ((h6.2 q8).2 q10).2.2.2.1, (hR _ _ ((h6.2 q8).2 q10).2.2.2.2)⟩)⟩)⟩) h5)) ((h0.2.2 q2).2.2 q4).2)⟩)⟩)⟩
theorem mo_wp_X8_counts_L31 {x1 : Int} {x2 : Int} {M : Mm} {Q Q' : Mm → Prop} {K100 K100' : Mm → Prop} (hQ : ∀ z0, Q z0 → Q' z0) (hK100 : ∀ z0, K100 z0 → K100' z0) : wp_X8_counts_L31 x1 Q K100 x2 M → wp_X8_counts_L31 x1 Q' K100' x2 M := LP1.mono (fun _ _ hR => mo_bc_X8_counts_L31 hQ hK100 hR) _ _
theorem mo_bc_X8_counts_L23 {Q Q' : Mm → Prop} {R R' : Int → Mm → Prop} (hQ : ∀ z0, Q z0 → Q' z0) (hR : ∀ z0 z1, R z0 z1 → R' z0 z1) : ∀ (x1 : Int) (M : Mm), bc_X8_counts_L23 Q R x1 M → bc_X8_counts_L23 Q' R' x1 M := by
  intro x1 M
  unfold bc_X8_counts_L23
  exact fun h0 => ⟨(fun q1 => (hQ _ (h0.1 q1))), (fun q2 => (mo_wp_X8_counts_L31 hQ (fun _ h3 => ⟨h3.1, (hR _ _ h3.2)⟩) (h0.2 q2)))⟩
theorem mo_wp_X8_counts_L23 {x1 : Int} {M : Mm} {Q Q' : Mm → Prop} (hQ : ∀ z0, Q z0 → Q' z0) : wp_X8_counts_L23 Q x1 M → wp_X8_counts_L23 Q' x1 M := LP1.mono (fun _ _ hR => mo_bc_X8_counts_L23 hQ hR) _ _
theorem mo_wp_X8_counts {M : Mm} {Q Q' : Mm → Prop} (hQ : ∀ z0, Q z0 → Q' z0) : wp_X8_counts M Q → wp_X8_counts M Q' := by
  unfold wp_X8_counts
  exact fun h0 => (mo_wp_X8_counts_L2 hQ (fun _ h1 => (mo_wp_X8_counts_L23 hQ h1)) h0)
theorem mo_wp_X8_letters {x1 : Int} {M : Mm} {Q Q' : Int → Mm → Prop} (hQ : ∀ z0 z1, Q z0 z1 → Q' z0 z1) : wp_X8_letters x1 M Q → wp_X8_letters x1 M Q' := by
  unfold wp_X8_letters
  exact fun h0 => (mo_wp_X8_in (fun _ _ h1 => ⟨(fun q2 => (mo_wp_X8_unfix (fun _ h3 => (mo_wp_X8_counts (fun _ h4 => (hQ _ _ h4)) h3)) (h1.1 q2))), (fun q5 => (hQ _ _ (h1.2 q5)))⟩) h0)
theorem mo_wp_X7_isPage {x0 : Int} {M : Mm} {Q Q' : Int → Mm → Prop} (hQ : ∀ z0 z1, Q z0 z1 → Q' z0 z1) : wp_X7_isPage x0 M Q → wp_X7_isPage x0 M Q' := by
  unfold wp_X7_isPage
  exact fun h0 => ⟨(fun q1 => (hQ _ _ (h0.1 q1))), (fun q2 => ⟨(fun q3 => (hQ _ _ ((h0.2 q2).1 q3))), (fun q4 => (hQ _ _ ((h0.2 q2).2 q4)))⟩)⟩
theorem mo_wp_X4_countPair {x1 : Int} {x2 : Int} {x3 : Int} {M : Mm} {Q Q' : Mm → Prop} (hQ : ∀ z0, Q z0 → Q' z0) : wp_X4_countPair x1 x2 x3 M Q → wp_X4_countPair x1 x2 x3 M Q' := by
  unfold wp_X4_countPair
  exact fun h0 => ⟨h0.1, (fun q1 => (hQ _ (h0.2.1 q1))), (fun q2 => ⟨(fun q3 => (hQ _ ((h0.2.2 q2).1 q3))), (fun q4 => ⟨((h0.2.2 q2).2 q4).1, (fun q5 => (hQ _ (((h0.2.2 q2).2 q4).2.1 q5))), (fun q6 => ⟨(fun q7 => (hQ _ ((((h0.2.2 q2).2 q4).2.2 q6).1 q7))), (fun q8 => ⟨((((h0.2.2 q2).2 q4).2.2 q6).2 q8).1, ((((h0.2.2 q2).2 q4).2.2 q6).2 q8).2.1, ((((h0.2.2 q2).2 q4).2.2 q6).2 q8).2.2.1, ((((h0.2.2 q2).2 q4).2.2 q6).2 q8).2.2.2.1, (hQ _ ((((h0.2.2 q2).2 q4).2.2 q6).2 q8).2.2.2.2)⟩)⟩)⟩)⟩)⟩
theorem mo_wp_X4_append {x1 : Int} {x2 : Int} {M : Mm} {Q Q' : Mm → Prop} (hQ : ∀ z0, Q z0 → Q' z0) : wp_X4_append x1 x2 M Q → wp_X4_append x1 x2 M Q' := by
  unfold wp_X4_append
  exact fun h0 => ⟨h0.1, (fun q1 => ⟨(fun q2 => ⟨((h0.2.1 q1).1 q2).1, ((h0.2.1 q1).1 q2).2.1, ((h0.2.1 q1).1 q2).2.2.1, ((h0.2.1 q1).1 q2).2.2.2.1, (hQ _ ((h0.2.1 q1).1 q2).2.2.2.2)⟩), (fun q3 => ⟨((h0.2.1 q1).2 q3).1, ((h0.2.1 q1).2 q3).2.1, (mo_wp_X4_countPair (fun _ h4 => ⟨h4.1, h4.2.1, h4.2.2.1, h4.2.2.2.1, (hQ _ h4.2.2.2.2)⟩) ((h0.2.1 q1).2 q3).2.2)⟩)⟩), (fun q5 => (hQ _ (h0.2.2 q5)))⟩
theorem mo_bc_X4_write_L6 {x1 : Int} {x2 : Int} {Q Q' : Mm → Prop} {R R' : Int → Mm → Prop} (hQ : ∀ z0, Q z0 → Q' z0) (hR : ∀ z0 z1, R z0 z1 → R' z0 z1) : ∀ (x5 : Int) (M : Mm), bc_X4_write_L6 x1 x2 Q R x5 M → bc_X4_write_L6 x1 x2 Q' R' x5 M := by
  intro x5 M
  unfold bc_X4_write_L6
  exact fun h0 => ⟨(fun q1 => (hQ _ (h0.1 q1))), (fun q2 => ⟨(h0.2 q2).1, (mo_wp_X4_append (fun _ h3 => ⟨h3.1, (hR _ _ h3.2)⟩) (h0.2 q2).2)⟩)⟩
theorem mo_wp_X4_write_L6 {x1 : Int} {x2 : Int} {x5 : Int} {M : Mm} {Q Q' : Mm → Prop} (hQ : ∀ z0, Q z0 → Q' z0) : wp_X4_write_L6 x1 x2 Q x5 M → wp_X4_write_L6 x1 x2 Q' x5 M := LP1.mono (fun _ _ hR => mo_bc_X4_write_L6 hQ hR) _ _
theorem mo_wp_X4_write {x1 : Int} {x2 : Int} {x4 : Int} {M : Mm} {Q Q' : Mm → Prop} (hQ : ∀ z0, Q z0 → Q' z0) : wp_X4_write x1 x2 x4 M Q → wp_X4_write x1 x2 x4 M Q' := by
  unfold wp_X4_write
  exact fun h0 => ⟨h0.1, (mo_wp_X4_write_L6 hQ h0.2)⟩
theorem mo_wp_X7_feed {x1 : Int} {x2 : Int} {x4 : Int} {M : Mm} {Q Q' : Int → Mm → Prop} (hQ : ∀ z0 z1, Q z0 z1 → Q' z0 z1) : wp_X7_feed x1 x2 x4 M Q → wp_X7_feed x1 x2 x4 M Q' := by
  unfold wp_X7_feed
  exact fun h0 => (mo_wp_X7_isPage (fun _ _ h1 => ⟨(fun q2 => (hQ _ _ (h1.1 q2))), (fun q3 => ⟨(fun q4 => (hQ _ _ ((h1.2 q3).1 q4))), (fun q5 => ⟨(fun q6 => ⟨(((h1.2 q3).2 q5).1 q6).1, (((h1.2 q3).2 q5).1 q6).2.1, (fun q7 => (mo_wp_X1_forget (fun _ h8 => (mo_wp_X4_write (fun _ h9 => ⟨h9.1, (hQ _ _ h9.2)⟩) h8)) ((((h1.2 q3).2 q5).1 q6).2.2.1 q7))), (fun q10 => (hQ _ _ ((((h1.2 q3).2 q5).1 q6).2.2.2 q10)))⟩), (fun q11 => (hQ _ _ (((h1.2 q3).2 q5).2 q11)))⟩)⟩)⟩) h0)
theorem mo_bc_X8_feed_L64 {x1 : Int} {x2 : Int} {x4 : Int} {x5 : Int} {Q Q' : Int → Mm → Prop} {K108 K108' : Mm → Prop} {R R' : Int → Mm → Prop} (hQ : ∀ z0 z1, Q z0 z1 → Q' z0 z1) (hK108 : ∀ z0, K108 z0 → K108' z0) (hR : ∀ z0 z1, R z0 z1 → R' z0 z1) : ∀ (x6 : Int) (M : Mm), bc_X8_feed_L64 x1 x2 x4 x5 Q K108 R x6 M → bc_X8_feed_L64 x1 x2 x4 x5 Q' K108' R' x6 M := by
  intro x6 M
  unfold bc_X8_feed_L64
  exact fun h0 => ⟨(fun q1 => (hK108 _ (h0.1 q1))), (fun q2 => ⟨(h0.2 q2).1, (h0.2 q2).2.1, (hR _ _ (h0.2 q2).2.2)⟩)⟩
theorem mo_wp_X8_feed_L64 {x1 : Int} {x2 : Int} {x4 : Int} {x5 : Int} {x6 : Int} {M : Mm} {Q Q' : Int → Mm → Prop} {K108 K108' : Mm → Prop} (hQ : ∀ z0 z1, Q z0 z1 → Q' z0 z1) (hK108 : ∀ z0, K108 z0 → K108' z0) : wp_X8_feed_L64 x1 x2 x4 x5 Q K108 x6 M → wp_X8_feed_L64 x1 x2 x4 x5 Q' K108' x6 M := LP1.mono (fun _ _ hR => mo_bc_X8_feed_L64 hQ hK108 hR) _ _
theorem mo_wp_X8_feed {x1 : Int} {x2 : Int} {x4 : Int} {M : Mm} {Q Q' : Int → Mm → Prop} (hQ : ∀ z0 z1, Q z0 z1 → Q' z0 z1) : wp_X8_feed x1 x2 x4 M Q → wp_X8_feed x1 x2 x4 M Q' := by
  unfold wp_X8_feed
  exact fun h0 => (mo_wp_X8_in (fun _ _ h1 => ⟨(fun q2 => (hQ _ _ (h1.1 q2))), (fun q3 => (mo_wp_X8_in (fun _ _ h4 => ⟨(fun q5 => ⟨(h4.1 q5).1, (fun q6 => ⟨((h4.1 q5).2.1 q6).1, (fun q7 => ⟨(((h4.1 q5).2.1 q6).2.1 q7).1, (mo_wp_X8_feed_L64 hQ (fun _ h8 => ⟨h8.1, h8.2.1, h8.2.2.1, (mo_wp_X8_counts (fun _ h9 => ⟨h9.1, (hQ _ _ h9.2)⟩) h8.2.2.2)⟩) (((h4.1 q5).2.1 q6).2.1 q7).2)⟩), (fun q10 => (hQ _ _ (((h4.1 q5).2.1 q6).2.2 q10)))⟩), (fun q11 => ⟨((h4.1 q5).2.2 q11).1, ((h4.1 q5).2.2 q11).2.1, (fun q12 => ⟨(((h4.1 q5).2.2 q11).2.2.1 q12).1, (mo_wp_X8_feed_L64 hQ (fun _ h13 => ⟨h13.1, h13.2.1, h13.2.2.1, (mo_wp_X8_counts (fun _ h14 => ⟨h14.1, (hQ _ _ h14.2)⟩) h13.2.2.2)⟩) (((h4.1 q5).2.2 q11).2.2.1 q12).2)⟩), (fun q15 => (hQ _ _ (((h4.1 q5).2.2 q11).2.2.2 q15)))⟩)⟩), (fun q16 => (hQ _ _ (h4.2 q16)))⟩) (h1.2 q3)))⟩) h0)
theorem mo_bc_X4_wipe_L2 {x1 : Int} {Q Q' : Mm → Prop} {R R' : Int → Mm → Prop} (hQ : ∀ z0, Q z0 → Q' z0) (hR : ∀ z0 z1, R z0 z1 → R' z0 z1) : ∀ (x2 : Int) (M : Mm), bc_X4_wipe_L2 x1 Q R x2 M → bc_X4_wipe_L2 x1 Q' R' x2 M := by
  intro x2 M
  unfold bc_X4_wipe_L2
  exact fun h0 => ⟨h0.1, (fun q1 => ⟨(h0.2.1 q1).1, (hQ _ (h0.2.1 q1).2)⟩), (fun q2 => ⟨(h0.2.2 q2).1, (h0.2.2 q2).2.1, (h0.2.2 q2).2.2.1, (h0.2.2 q2).2.2.2.1, (mo_wp_X4_countPair (fun _ h3 => ⟨h3.1, (hR _ _ h3.2)⟩) (h0.2.2 q2).2.2.2.2)⟩)⟩
theorem mo_wp_X4_wipe_L2 {x1 : Int} {x2 : Int} {M : Mm} {Q Q' : Mm → Prop} (hQ : ∀ z0, Q z0 → Q' z0) : wp_X4_wipe_L2 x1 Q x2 M → wp_X4_wipe_L2 x1 Q' x2 M := LP1.mono (fun _ _ hR => mo_bc_X4_wipe_L2 hQ hR) _ _
theorem mo_wp_X4_wipe {x1 : Int} {M : Mm} {Q Q' : Mm → Prop} (hQ : ∀ z0, Q z0 → Q' z0) : wp_X4_wipe x1 M Q → wp_X4_wipe x1 M Q' := by
  unfold wp_X4_wipe
  exact fun h0 => (mo_wp_X4_wipe_L2 hQ h0)
theorem mo_wp_X7_tear {x1 : Int} {M : Mm} {Q Q' : Int → Mm → Prop} (hQ : ∀ z0 z1, Q z0 z1 → Q' z0 z1) : wp_X7_tear x1 M Q → wp_X7_tear x1 M Q' := by
  unfold wp_X7_tear
  exact fun h0 => (mo_wp_X7_isPage (fun _ _ h1 => ⟨(fun q2 => ⟨(h1.1 q2).1, (fun q3 => (mo_wp_X1_forget (fun _ h4 => (mo_wp_X4_wipe (fun _ h5 => (hQ _ _ h5)) h4)) ((h1.1 q2).2.1 q3))), (fun q6 => (hQ _ _ ((h1.1 q2).2.2 q6)))⟩), (fun q7 => (hQ _ _ (h1.2 q7)))⟩) h0)
theorem mo_wp_X8_tear {x1 : Int} {M : Mm} {Q Q' : Int → Mm → Prop} (hQ : ∀ z0 z1, Q z0 z1 → Q' z0 z1) : wp_X8_tear x1 M Q → wp_X8_tear x1 M Q' := by
  unfold wp_X8_tear
  exact fun h0 => (mo_wp_X8_in (fun _ _ h1 => ⟨(fun q2 => ⟨(h1.1 q2).1, (fun q3 => ⟨((h1.1 q2).2.1 q3).1, (mo_wp_X8_counts (fun _ h4 => ⟨h4.1, (hQ _ _ h4.2)⟩) ((h1.1 q2).2.1 q3).2)⟩), (fun q5 => (hQ _ _ ((h1.1 q2).2.2 q5)))⟩), (fun q6 => (hQ _ _ (h1.2 q6)))⟩) h0)
theorem mo_wp_X3_has {x1 : Int} {M : Mm} {Q Q' : Int → Mm → Prop} (hQ : ∀ z0 z1, Q z0 z1 → Q' z0 z1) : wp_X3_has x1 M Q → wp_X3_has x1 M Q' := by
  unfold wp_X3_has
  exact fun h0 => ⟨(fun q1 => (hQ _ _ (h0.1 q1))), (fun q2 => ⟨(fun q3 => (hQ _ _ ((h0.2 q2).1 q3))), (fun q4 => (hQ _ _ ((h0.2 q2).2 q4)))⟩)⟩
theorem mo_wp_X7_often {x1 : Int} {x2 : Int} {M : Mm} {Q Q' : Int → Mm → Prop} (hQ : ∀ z0 z1, Q z0 z1 → Q' z0 z1) : wp_X7_often x1 x2 M Q → wp_X7_often x1 x2 M Q' := by
  unfold wp_X7_often
  exact fun h0 => (mo_wp_X3_has (fun _ _ h1 => ⟨(fun q2 => (hQ _ _ (h1.1 q2))), (fun q3 => (mo_wp_X3_has (fun _ _ h4 => ⟨(fun q5 => ⟨(h4.1 q5).1, (h4.1 q5).2.1, (hQ _ _ (h4.1 q5).2.2)⟩), (fun q6 => (hQ _ _ (h4.2 q6)))⟩) (h1.2 q3)))⟩) h0)
theorem mo_wp_X8_often {x1 : Int} {x2 : Int} {M : Mm} {Q Q' : Int → Mm → Prop} (hQ : ∀ z0 z1, Q z0 z1 → Q' z0 z1) : wp_X8_often x1 x2 M Q → wp_X8_often x1 x2 M Q' := by
  unfold wp_X8_often
  exact fun h0 => (mo_wp_X8_isLetter (fun _ _ h1 => ⟨(fun q2 => (hQ _ _ (h1.1 q2))), (fun q3 => (mo_wp_X8_isLetter (fun _ _ h4 => ⟨(fun q5 => (hQ _ _ (h4.1 q5))), (fun q6 => ⟨(h4.2 q6).1, (hQ _ _ (h4.2 q6).2)⟩)⟩) (h1.2 q3)))⟩) h0)
theorem mo_wp_X2_reckonCost {x1 : Int} {x2 : Int} {M : Mm} {Q Q' : Int → Mm → Prop} (hQ : ∀ z0 z1, Q z0 z1 → Q' z0 z1) : wp_X2_reckonCost x1 x2 M Q → wp_X2_reckonCost x1 x2 M Q' := by
  unfold wp_X2_reckonCost
  exact fun h0 => ⟨h0.1, h0.2.1, h0.2.2.1, (fun q1 => (hQ _ _ (h0.2.2.2.1 q1))), (fun q2 => ⟨(h0.2.2.2.2.1 q2).1, (h0.2.2.2.2.1 q2).2.1, (hQ _ _ (h0.2.2.2.2.1 q2).2.2)⟩), (fun q3 => ⟨(h0.2.2.2.2.2.1 q3).1, (h0.2.2.2.2.2.1 q3).2.1, (hQ _ _ (h0.2.2.2.2.2.1 q3).2.2)⟩), (fun q4 => (hQ _ _ (h0.2.2.2.2.2.2 q4)))⟩
theorem mo_bc_X2_append_L32 {x3 : Int} {Q Q' : Int → Mm → Prop} {R R' : Int → Mm → Prop} (hQ : ∀ z0 z1, Q z0 z1 → Q' z0 z1) (hR : ∀ z0 z1, R z0 z1 → R' z0 z1) : ∀ (x4 : Int) (M : Mm), bc_X2_append_L32 x3 Q R x4 M → bc_X2_append_L32 x3 Q' R' x4 M := by
  intro x4 M
  unfold bc_X2_append_L32
  exact fun h0 => ⟨(fun q1 => (hQ _ _ (h0.1 q1))), (fun q2 => ⟨(h0.2 q2).1, (mo_wp_X2_reckonCost (fun _ _ h3 => ⟨h3.1, h3.2.1, (mo_wp_X2_reckonCost (fun _ _ h4 => ⟨h4.1, h4.2.1, (hR _ _ h4.2.2)⟩) h3.2.2)⟩) (h0.2 q2).2)⟩)⟩
theorem mo_wp_X2_append_L32 {x3 : Int} {x4 : Int} {M : Mm} {Q Q' : Int → Mm → Prop} (hQ : ∀ z0 z1, Q z0 z1 → Q' z0 z1) : wp_X2_append_L32 x3 Q x4 M → wp_X2_append_L32 x3 Q' x4 M := LP1.mono (fun _ _ hR => mo_bc_X2_append_L32 hQ hR) _ _
theorem mo_wp_X2_append {x1 : Int} {x2 : Int} {M : Mm} {Q Q' : Int → Mm → Prop} (hQ : ∀ z0 z1, Q z0 z1 → Q' z0 z1) : wp_X2_append x1 x2 M Q → wp_X2_append x1 x2 M Q' := by
  unfold wp_X2_append
  exact fun h0 => ⟨h0.1, h0.2.1, h0.2.2.1, (mo_wp_X2_append_L32 hQ h0.2.2.2)⟩
theorem mo_wp_X7_key {x1 : Int} {x2 : Int} {M : Mm} {Q Q' : Int → Mm → Prop} (hQ : ∀ z0 z1, Q z0 z1 → Q' z0 z1) : wp_X7_key x1 x2 M Q → wp_X7_key x1 x2 M Q' := by
  unfold wp_X7_key
  exact fun h0 => ⟨(fun q1 => (hQ _ _ (h0.1 q1))), (fun q2 => ⟨(fun q3 => (hQ _ _ ((h0.2 q2).1 q3))), (fun q4 => ⟨(fun q5 => (hQ _ _ (((h0.2 q2).2 q4).1 q5))), (fun q6 => ⟨(fun q7 => ⟨(fun q8 => (mo_wp_X1_forget (fun _ h9 => (mo_wp_X2_append (fun _ _ h10 => (hQ _ _ h10)) h9)) (((((h0.2 q2).2 q4).2 q6).1 q7).1 q8))), (fun q11 => (hQ _ _ (((((h0.2 q2).2 q4).2 q6).1 q7).2 q11)))⟩), (fun q12 => (hQ _ _ ((((h0.2 q2).2 q4).2 q6).2 q12)))⟩)⟩)⟩)⟩
theorem mo_wp_X8_key {x1 : Int} {x2 : Int} {M : Mm} {Q Q' : Int → Mm → Prop} (hQ : ∀ z0 z1, Q z0 z1 → Q' z0 z1) : wp_X8_key x1 x2 M Q → wp_X8_key x1 x2 M Q' := by
  unfold wp_X8_key
  exact fun h0 => (mo_wp_X8_in (fun _ _ h1 => ⟨(fun q2 => (hQ _ _ (h1.1 q2))), (fun q3 => (mo_wp_X8_in (fun _ _ h4 => ⟨(fun q5 => ⟨(fun q6 => ⟨((h4.1 q5).1 q6).1, ((h4.1 q5).1 q6).2.1, ((h4.1 q5).1 q6).2.2.1, ((h4.1 q5).1 q6).2.2.2.1, (hQ _ _ ((h4.1 q5).1 q6).2.2.2.2)⟩), (fun q7 => (hQ _ _ ((h4.1 q5).2 q7)))⟩), (fun q8 => (hQ _ _ (h4.2 q8)))⟩) (h1.2 q3)))⟩) h0)
theorem mo_wp_X2_has {x1 : Int} {M : Mm} {Q Q' : Int → Mm → Prop} (hQ : ∀ z0 z1, Q z0 z1 → Q' z0 z1) : wp_X2_has x1 M Q → wp_X2_has x1 M Q' := by
  unfold wp_X2_has
  exact fun h0 => ⟨(fun q1 => (hQ _ _ (h0.1 q1))), (fun q2 => ⟨(fun q3 => (hQ _ _ ((h0.2 q2).1 q3))), (fun q4 => (hQ _ _ ((h0.2 q2).2 q4)))⟩)⟩
theorem mo_wp_X2_setGoing {x1 : Int} {x2 : Int} {x3 : Int} {M : Mm} {Q Q' : Int → Mm → Prop} (hQ : ∀ z0 z1, Q z0 z1 → Q' z0 z1) : wp_X2_setGoing x1 x2 x3 M Q → wp_X2_setGoing x1 x2 x3 M Q' := by
  unfold wp_X2_setGoing
  exact fun h0 => ⟨h0.1, h0.2.1, h0.2.2.1, h0.2.2.2.1, h0.2.2.2.2.1, (mo_wp_X2_reckonCost (fun _ _ h1 => ⟨h1.1, (hQ _ _ h1.2)⟩) h0.2.2.2.2.2)⟩
theorem mo_wp_X7_go {x1 : Int} {x2 : Int} {x3 : Int} {M : Mm} {Q Q' : Int → Mm → Prop} (hQ : ∀ z0 z1, Q z0 z1 → Q' z0 z1) : wp_X7_go x1 x2 x3 M Q → wp_X7_go x1 x2 x3 M Q' := by
  unfold wp_X7_go
  exact fun h0 => (mo_wp_X2_has (fun _ _ h1 => ⟨(fun q2 => (hQ _ _ (h1.1 q2))), (fun q3 => (mo_wp_X2_has (fun _ _ h4 => ⟨(fun q5 => (hQ _ _ (h4.1 q5))), (fun q6 => ⟨(fun q7 => (hQ _ _ ((h4.2 q6).1 q7))), (fun q8 => ⟨(fun q9 => (mo_wp_X1_forget (fun _ h10 => (mo_wp_X2_setGoing (fun _ _ h11 => (hQ _ _ h11)) h10)) (((h4.2 q6).2 q8).1 q9))), (fun q12 => (hQ _ _ (((h4.2 q6).2 q8).2 q12)))⟩)⟩)⟩) (h1.2 q3)))⟩) h0)
theorem mo_wp_X8_isKey {x1 : Int} {M : Mm} {Q Q' : Int → Mm → Prop} (hQ : ∀ z0 z1, Q z0 z1 → Q' z0 z1) : wp_X8_isKey x1 M Q → wp_X8_isKey x1 M Q' := by
  unfold wp_X8_isKey
  exact fun h0 => ⟨h0.1, (mo_wp_X8_in (fun _ _ h1 => (hQ _ _ h1)) h0.2)⟩
theorem mo_wp_X8_go {x1 : Int} {x2 : Int} {x3 : Int} {M : Mm} {Q Q' : Int → Mm → Prop} (hQ : ∀ z0 z1, Q z0 z1 → Q' z0 z1) : wp_X8_go x1 x2 x3 M Q → wp_X8_go x1 x2 x3 M Q' := by
  unfold wp_X8_go
  exact fun h0 => (mo_wp_X8_isKey (fun _ _ h1 => ⟨(fun q2 => (hQ _ _ (h1.1 q2))), (fun q3 => (mo_wp_X8_isKey (fun _ _ h4 => ⟨(fun q5 => (hQ _ _ (h4.1 q5))), (fun q6 => (mo_wp_X8_in (fun _ _ h7 => ⟨(fun q8 => ⟨(h7.1 q8).1, (h7.1 q8).2.1, (hQ _ _ (h7.1 q8).2.2)⟩), (fun q9 => (hQ _ _ (h7.2 q9)))⟩) (h4.2 q6)))⟩) (h1.2 q3)))⟩) h0)
theorem mo_wp_X2_writeBody {x1 : Int} {M : Mm} {Q Q' : Mm → Prop} (hQ : ∀ z0, Q z0 → Q' z0) : wp_X2_writeBody x1 M Q → wp_X2_writeBody x1 M Q' := by
  unfold wp_X2_writeBody
  exact fun h0 => ⟨(fun q1 => (hQ _ (h0.1 q1))), (fun q2 => ⟨(h0.2 q2).1, (h0.2 q2).2.1, (hQ _ (h0.2 q2).2.2)⟩)⟩
theorem mo_wp_X2_writeBodies {x1 : Int} {M : Mm} {Q Q' : Mm → Prop} (hQ : ∀ z0, Q z0 → Q' z0) : wp_X2_writeBodies x1 M Q → wp_X2_writeBodies x1 M Q' := by
  unfold wp_X2_writeBodies
  exact fun h0 => ⟨h0.1, (fun q1 => ⟨(fun q2 => ⟨(fun q3 => (mo_wp_X2_writeBody (fun _ h4 => (mo_wp_X2_writeBody (fun _ h5 => (hQ _ h5)) h4)) (((h0.2.1 q1).1 q2).1 q3))), (fun q6 => ⟨(fun q7 => (mo_wp_X2_writeBody (fun _ h8 => (hQ _ h8)) ((((h0.2.1 q1).1 q2).2 q6).1 q7))), (fun q9 => (mo_wp_X2_writeBody (fun _ h10 => (mo_wp_X2_writeBody (fun _ h11 => (hQ _ h11)) h10)) ((((h0.2.1 q1).1 q2).2 q6).2 q9)))⟩)⟩), (fun q12 => (mo_wp_X2_writeBody (fun _ h13 => ⟨(fun q14 => (mo_wp_X2_writeBody (fun _ h15 => (mo_wp_X2_writeBody (fun _ h16 => (hQ _ h16)) h15)) (h13.1 q14))), (fun q17 => ⟨(fun q18 => (mo_wp_X2_writeBody (fun _ h19 => (hQ _ h19)) ((h13.2 q17).1 q18))), (fun q20 => (mo_wp_X2_writeBody (fun _ h21 => (mo_wp_X2_writeBody (fun _ h22 => (hQ _ h22)) h21)) ((h13.2 q17).2 q20)))⟩)⟩) ((h0.2.1 q1).2 q12)))⟩), (fun q23 => (mo_wp_X2_writeBody (fun _ h24 => ⟨(fun q25 => ⟨(fun q26 => (mo_wp_X2_writeBody (fun _ h27 => (mo_wp_X2_writeBody (fun _ h28 => (hQ _ h28)) h27)) ((h24.1 q25).1 q26))), (fun q29 => ⟨(fun q30 => (mo_wp_X2_writeBody (fun _ h31 => (hQ _ h31)) (((h24.1 q25).2 q29).1 q30))), (fun q32 => (mo_wp_X2_writeBody (fun _ h33 => (mo_wp_X2_writeBody (fun _ h34 => (hQ _ h34)) h33)) (((h24.1 q25).2 q29).2 q32)))⟩)⟩), (fun q35 => (mo_wp_X2_writeBody (fun _ h36 => ⟨(fun q37 => (mo_wp_X2_writeBody (fun _ h38 => (mo_wp_X2_writeBody (fun _ h39 => (hQ _ h39)) h38)) (h36.1 q37))), (fun q40 => ⟨(fun q41 => (mo_wp_X2_writeBody (fun _ h42 => (hQ _ h42)) ((h36.2 q40).1 q41))), (fun q43 => (mo_wp_X2_writeBody (fun _ h44 => (mo_wp_X2_writeBody (fun _ h45 => (hQ _ h45)) h44)) ((h36.2 q40).2 q43)))⟩)⟩) (h24.2 q35)))⟩) (h0.2.2 q23)))⟩
theorem mo_wp_X7_cost {x1 : Int} {x2 : Int} {M : Mm} {Q Q' : Int → Mm → Prop} (hQ : ∀ z0 z1, Q z0 z1 → Q' z0 z1) : wp_X7_cost x1 x2 M Q → wp_X7_cost x1 x2 M Q' := by
  unfold wp_X7_cost
  exact fun h0 => (mo_wp_X2_has (fun _ _ h1 => ⟨(fun q2 => (hQ _ _ (h1.1 q2))), (fun q3 => (mo_wp_X2_has (fun _ _ h4 => ⟨(fun q5 => (mo_wp_X2_writeBodies (fun _ h6 => ⟨h6.1, h6.2.1, (hQ _ _ h6.2.2)⟩) (h4.1 q5))), (fun q7 => (hQ _ _ (h4.2 q7)))⟩) (h1.2 q3)))⟩) h0)
theorem mo_wp_X8_costOf {x1 : Int} {x2 : Int} {M : Mm} {Q Q' : Int → Mm → Prop} (hQ : ∀ z0 z1, Q z0 z1 → Q' z0 z1) : wp_X8_costOf x1 x2 M Q → wp_X8_costOf x1 x2 M Q' := by
  unfold wp_X8_costOf
  exact fun h0 => ⟨h0.1, h0.2.1, (fun q1 => (hQ _ _ (h0.2.2.1 q1))), (fun q2 => (hQ _ _ (h0.2.2.2.1 q2))), (fun q3 => ⟨(h0.2.2.2.2.1 q3).1, (h0.2.2.2.2.1 q3).2.1, (hQ _ _ (h0.2.2.2.2.1 q3).2.2)⟩), (fun q4 => ⟨(h0.2.2.2.2.2 q4).1, (h0.2.2.2.2.2 q4).2.1, (hQ _ _ (h0.2.2.2.2.2 q4).2.2)⟩)⟩
theorem mo_wp_X8_cost {x1 : Int} {x2 : Int} {M : Mm} {Q Q' : Int → Mm → Prop} (hQ : ∀ z0 z1, Q z0 z1 → Q' z0 z1) : wp_X8_cost x1 x2 M Q → wp_X8_cost x1 x2 M Q' := by
  unfold wp_X8_cost
  exact fun h0 => (mo_wp_X8_isKey (fun _ _ h1 => ⟨(fun q2 => (hQ _ _ (h1.1 q2))), (fun q3 => (mo_wp_X8_isKey (fun _ _ h4 => ⟨(fun q5 => ⟨(h4.1 q5).1, (fun q6 => ⟨((h4.1 q5).2.1 q6).1, (fun q7 => ⟨(((h4.1 q5).2.1 q6).2.1 q7).1, (((h4.1 q5).2.1 q6).2.1 q7).2.1, (mo_wp_X8_costOf (fun _ _ h8 => (hQ _ _ h8)) (((h4.1 q5).2.1 q6).2.1 q7).2.2)⟩), (fun q9 => ⟨(((h4.1 q5).2.1 q6).2.2 q9).1, (((h4.1 q5).2.1 q6).2.2 q9).2.1, (((h4.1 q5).2.1 q6).2.2 q9).2.2.1, (((h4.1 q5).2.1 q6).2.2 q9).2.2.2.1, (mo_wp_X8_costOf (fun _ _ h10 => (hQ _ _ h10)) (((h4.1 q5).2.1 q6).2.2 q9).2.2.2.2)⟩)⟩), (fun q11 => ⟨((h4.1 q5).2.2 q11).1, ((h4.1 q5).2.2 q11).2.1, (mo_wp_X8_costOf (fun _ _ h12 => (hQ _ _ h12)) ((h4.1 q5).2.2 q11).2.2)⟩)⟩), (fun q13 => (hQ _ _ (h4.2 q13)))⟩) (h1.2 q3)))⟩) h0)
theorem mo_wp_X7_body {x1 : Int} {M : Mm} {Q Q' : Int → Mm → Prop} (hQ : ∀ z0 z1, Q z0 z1 → Q' z0 z1) : wp_X7_body x1 M Q → wp_X7_body x1 M Q' := by
  unfold wp_X7_body
  exact fun h0 => ⟨(fun q1 => (hQ _ _ (h0.1 q1))), (fun q2 => ⟨(fun q3 => ⟨((h0.2 q2).1 q3).1, (hQ _ _ ((h0.2 q2).1 q3).2)⟩), (fun q4 => (hQ _ _ ((h0.2 q2).2 q4)))⟩)⟩
theorem mo_wp_X8_body {x1 : Int} {M : Mm} {Q Q' : Int → Mm → Prop} (hQ : ∀ z0 z1, Q z0 z1 → Q' z0 z1) : wp_X8_body x1 M Q → wp_X8_body x1 M Q' := by
  unfold wp_X8_body
  exact fun h0 => ⟨h0.1, (mo_wp_X8_in (fun _ _ h1 => ⟨(fun q2 => (hQ _ _ (h1.1 q2))), (fun q3 => ⟨(h1.2 q3).1, (hQ _ _ (h1.2 q3).2)⟩)⟩) h0.2)⟩
theorem mo_wp_X3_fixOn {x1 : Int} {x2 : Int} {M : Mm} {Q Q' : Int → Mm → Prop} (hQ : ∀ z0 z1, Q z0 z1 → Q' z0 z1) : wp_X3_fixOn x1 x2 M Q → wp_X3_fixOn x1 x2 M Q' := by
  unfold wp_X3_fixOn
  exact fun h0 => ⟨h0.1, (fun q1 => ⟨(h0.2.1 q1).1, (fun q2 => (hQ _ _ ((h0.2.1 q1).2.1 q2))), (fun q3 => ⟨((h0.2.1 q1).2.2 q3).1, (hQ _ _ ((h0.2.1 q1).2.2 q3).2)⟩)⟩), (fun q4 => ⟨(h0.2.2 q4).1, (h0.2.2 q4).2.1, (fun q5 => (hQ _ _ ((h0.2.2 q4).2.2.1 q5))), (fun q6 => ⟨((h0.2.2 q4).2.2.2 q6).1, (hQ _ _ ((h0.2.2 q4).2.2.2 q6).2)⟩)⟩)⟩
theorem mo_wp_X3_isFixedByOther {x1 : Int} {x2 : Int} {M : Mm} {Q Q' : Int → Mm → Prop} (hQ : ∀ z0 z1, Q z0 z1 → Q' z0 z1) : wp_X3_isFixedByOther x1 x2 M Q → wp_X3_isFixedByOther x1 x2 M Q' := by
  unfold wp_X3_isFixedByOther
  exact fun h0 => ⟨h0.1, (fun q1 => (hQ _ _ (h0.2.1 q1))), (fun q2 => ⟨(h0.2.2 q2).1, (fun q3 => (hQ _ _ ((h0.2.2 q2).2.1 q3))), (fun q4 => (hQ _ _ ((h0.2.2 q2).2.2 q4)))⟩)⟩
theorem mo_wp_X7_fix {x1 : Int} {x2 : Int} {M : Mm} {Q Q' : Int → Mm → Prop} (hQ : ∀ z0 z1, Q z0 z1 → Q' z0 z1) : wp_X7_fix x1 x2 M Q → wp_X7_fix x1 x2 M Q' := by
  unfold wp_X7_fix
  exact fun h0 => (mo_wp_X3_has (fun _ _ h1 => ⟨(fun q2 => (hQ _ _ (h1.1 q2))), (fun q3 => ⟨(fun q4 => ⟨(fun q5 => (mo_wp_X1_forget (fun _ h6 => (mo_wp_X3_fixOn (fun _ _ h7 => (hQ _ _ h7)) h6)) (((h1.2 q3).1 q4).1 q5))), (fun q8 => (mo_wp_X3_isFixedByOther (fun _ _ h9 => ⟨(fun q10 => (mo_wp_X1_forget (fun _ h11 => (mo_wp_X3_fixOn (fun _ _ h12 => (hQ _ _ h12)) h11)) (h9.1 q10))), (fun q13 => (hQ _ _ (h9.2 q13)))⟩) (((h1.2 q3).1 q4).2 q8)))⟩), (fun q14 => (mo_wp_X2_has (fun _ _ h15 => ⟨(fun q16 => ⟨(fun q17 => (mo_wp_X1_forget (fun _ h18 => (mo_wp_X3_fixOn (fun _ _ h19 => (hQ _ _ h19)) h18)) ((h15.1 q16).1 q17))), (fun q20 => (mo_wp_X3_isFixedByOther (fun _ _ h21 => ⟨(fun q22 => (mo_wp_X1_forget (fun _ h23 => (mo_wp_X3_fixOn (fun _ _ h24 => (hQ _ _ h24)) h23)) (h21.1 q22))), (fun q25 => (hQ _ _ (h21.2 q25)))⟩) ((h15.1 q16).2 q20)))⟩), (fun q26 => (hQ _ _ (h15.2 q26)))⟩) ((h1.2 q3).2 q14)))⟩)⟩) h0)
theorem mo_bc_X8_fix_L26 {x1 : Int} {x2 : Int} {Q Q' : Int → Mm → Prop} {K63 K63' : Mm → Prop} {R R' : Int → Mm → Prop} (hQ : ∀ z0 z1, Q z0 z1 → Q' z0 z1) (hK63 : ∀ z0, K63 z0 → K63' z0) (hR : ∀ z0 z1, R z0 z1 → R' z0 z1) : ∀ (x3 : Int) (M : Mm), bc_X8_fix_L26 x1 x2 Q K63 R x3 M → bc_X8_fix_L26 x1 x2 Q' K63' R' x3 M := by
  intro x3 M
  unfold bc_X8_fix_L26
  exact fun h0 => ⟨(fun q1 => (hK63 _ (h0.1 q1))), (fun q2 => ⟨(fun q3 => ⟨((h0.2 q2).1 q3).1, (hR _ _ ((h0.2 q2).1 q3).2)⟩), (fun q4 => ⟨(fun q5 => ⟨(((h0.2 q2).2 q4).1 q5).1, (hR _ _ (((h0.2 q2).2 q4).1 q5).2)⟩), (fun q6 => ⟨(((h0.2 q2).2 q4).2 q6).1, (fun q7 => ⟨((((h0.2 q2).2 q4).2 q6).2.1 q7).1, (hR _ _ ((((h0.2 q2).2 q4).2 q6).2.1 q7).2)⟩), (fun q8 => (hQ _ _ ((((h0.2 q2).2 q4).2 q6).2.2 q8)))⟩)⟩)⟩)⟩
theorem mo_wp_X8_fix_L26 {x1 : Int} {x2 : Int} {x3 : Int} {M : Mm} {Q Q' : Int → Mm → Prop} {K63 K63' : Mm → Prop} (hQ : ∀ z0 z1, Q z0 z1 → Q' z0 z1) (hK63 : ∀ z0, K63 z0 → K63' z0) : wp_X8_fix_L26 x1 x2 Q K63 x3 M → wp_X8_fix_L26 x1 x2 Q' K63' x3 M := LP1.mono (fun _ _ hR => mo_bc_X8_fix_L26 hQ hK63 hR) _ _
theorem mo_wp_X8_fix {x1 : Int} {x2 : Int} {M : Mm} {Q Q' : Int → Mm → Prop} (hQ : ∀ z0 z1, Q z0 z1 → Q' z0 z1) : wp_X8_fix x1 x2 M Q → wp_X8_fix x1 x2 M Q' := by
  unfold wp_X8_fix
  exact fun h0 => (mo_wp_X8_isLetter (fun _ _ h1 => ⟨(fun q2 => (hQ _ _ (h1.1 q2))), (fun q3 => ⟨(fun q4 => (mo_wp_X8_fix_L26 hQ (fun _ h5 => ⟨h5.1, h5.2.1, (hQ _ _ h5.2.2)⟩) ((h1.2 q3).1 q4))), (fun q6 => (mo_wp_X8_isKey (fun _ _ h7 => ⟨(fun q8 => (mo_wp_X8_fix_L26 hQ (fun _ h9 => ⟨h9.1, h9.2.1, (hQ _ _ h9.2.2)⟩) (h7.1 q8))), (fun q10 => (hQ _ _ (h7.2 q10)))⟩) ((h1.2 q3).2 q6)))⟩)⟩) h0)
theorem mo_wp_X7_tooFewKeys {M : Mm} {Q Q' : Int → Mm → Prop} (hQ : ∀ z0 z1, Q z0 z1 → Q' z0 z1) : wp_X7_tooFewKeys M Q → wp_X7_tooFewKeys M Q' := by
  unfold wp_X7_tooFewKeys
  exact fun h0 => ⟨(fun q1 => (hQ _ _ (h0.1 q1))), (fun q2 => (hQ _ _ (h0.2 q2)))⟩
theorem mo_wp_X3_isFixed {x1 : Int} {M : Mm} {Q Q' : Int → Mm → Prop} (hQ : ∀ z0 z1, Q z0 z1 → Q' z0 z1) : wp_X3_isFixed x1 M Q → wp_X3_isFixed x1 M Q' := by
  unfold wp_X3_isFixed
  exact fun h0 => ⟨h0.1, (fun q1 => (hQ _ _ (h0.2.1 q1))), (fun q2 => (hQ _ _ (h0.2.2 q2)))⟩
theorem mo_bc_X5_unfixedFrom_L2 {Q Q' : Int → Mm → Prop} {R R' : Int → Mm → Prop} (hQ : ∀ z0 z1, Q z0 z1 → Q' z0 z1) (hR : ∀ z0 z1, R z0 z1 → R' z0 z1) : ∀ (x2 : Int) (M : Mm), bc_X5_unfixedFrom_L2 Q R x2 M → bc_X5_unfixedFrom_L2 Q' R' x2 M := by
  intro x2 M
  unfold bc_X5_unfixedFrom_L2
  exact fun h0 => ⟨h0.1, (fun q1 => (hQ _ _ (h0.2.1 q1))), (fun q2 => ⟨(h0.2.2 q2).1, (fun q3 => (hQ _ _ ((h0.2.2 q2).2.1 q3))), (fun q4 => ⟨((h0.2.2 q2).2.2 q4).1, (hR _ _ ((h0.2.2 q2).2.2 q4).2)⟩)⟩)⟩
theorem mo_wp_X5_unfixedFrom_L2 {x2 : Int} {M : Mm} {Q Q' : Int → Mm → Prop} (hQ : ∀ z0 z1, Q z0 z1 → Q' z0 z1) : wp_X5_unfixedFrom_L2 Q x2 M → wp_X5_unfixedFrom_L2 Q' x2 M := LP1.mono (fun _ _ hR => mo_bc_X5_unfixedFrom_L2 hQ hR) _ _
theorem mo_wp_X5_unfixedFrom {x1 : Int} {M : Mm} {Q Q' : Int → Mm → Prop} (hQ : ∀ z0 z1, Q z0 z1 → Q' z0 z1) : wp_X5_unfixedFrom x1 M Q → wp_X5_unfixedFrom x1 M Q' := by
  unfold wp_X5_unfixedFrom
  exact fun h0 => (mo_wp_X5_unfixedFrom_L2 hQ h0)
theorem mo_bc_X5_becomeFirst_L4 {Q Q' : Mm → Prop} {R R' : Int → Int → Mm → Prop} (hQ : ∀ z0, Q z0 → Q' z0) (hR : ∀ z0 z1 z2, R z0 z1 z2 → R' z0 z1 z2) : ∀ (x1 : Int) (x2 : Int) (M : Mm), bc_X5_becomeFirst_L4 Q R x1 x2 M → bc_X5_becomeFirst_L4 Q' R' x1 x2 M := by
  intro x1 x2 M
  unfold bc_X5_becomeFirst_L4
  exact fun h0 => ⟨(fun q1 => (hQ _ (h0.1 q1))), (fun q2 => (mo_wp_X3_isFixed (fun _ _ h3 => ⟨(fun q4 => (mo_wp_X5_unfixedFrom (fun _ _ h5 => ⟨h5.1, h5.2.1, h5.2.2.1, (hR _ _ _ h5.2.2.2)⟩) (h3.1 q4))), (fun q6 => ⟨(h3.2 q6).1, (h3.2 q6).2.1, (h3.2 q6).2.2.1, (hR _ _ _ (h3.2 q6).2.2.2)⟩)⟩) (h0.2 q2)))⟩
theorem mo_wp_X5_becomeFirst_L4 {x1 : Int} {x2 : Int} {M : Mm} {Q Q' : Mm → Prop} (hQ : ∀ z0, Q z0 → Q' z0) : wp_X5_becomeFirst_L4 Q x1 x2 M → wp_X5_becomeFirst_L4 Q' x1 x2 M := LP2.mono (fun _ _ hR => mo_bc_X5_becomeFirst_L4 hQ hR) _ _ _
theorem mo_wp_X5_becomeFirst {M : Mm} {Q Q' : Mm → Prop} (hQ : ∀ z0, Q z0 → Q' z0) : wp_X5_becomeFirst M Q → wp_X5_becomeFirst M Q' := by
  unfold wp_X5_becomeFirst
  exact fun h0 => (mo_wp_X5_becomeFirst_L4 hQ h0)
theorem mo_wp_X7_first {M : Mm} {Q Q' : Int → Mm → Prop} (hQ : ∀ z0 z1, Q z0 z1 → Q' z0 z1) : wp_X7_first M Q → wp_X7_first M Q' := by
  unfold wp_X7_first
  exact fun h0 => (mo_wp_X7_tooFewKeys (fun _ _ h1 => ⟨(fun q2 => (mo_wp_X5_becomeFirst (fun _ h3 => (hQ _ _ h3)) (h1.1 q2))), (fun q4 => (hQ _ _ (h1.2 q4)))⟩) h0)
theorem mo_bc_X8_mayBear_c38_L29 {x2 : Int} {x4 : Int} {Q Q' : Int → Mm → Prop} {R R' : Int → Mm → Prop} (hQ : ∀ z0 z1, Q z0 z1 → Q' z0 z1) (hR : ∀ z0 z1, R z0 z1 → R' z0 z1) : ∀ (x5 : Int) (M : Mm), bc_X8_mayBear_c38_L29 x2 x4 Q R x5 M → bc_X8_mayBear_c38_L29 x2 x4 Q' R' x5 M := by
  intro x5 M
  unfold bc_X8_mayBear_c38_L29
  exact fun h0 => ⟨(fun q1 => (hQ _ _ (h0.1 q1))), (fun q2 => ⟨(h0.2 q2).1, (fun q3 => (hQ _ _ ((h0.2 q2).2.1 q3))), (fun q4 => ⟨(fun q5 => ⟨(((h0.2 q2).2.2 q4).1 q5).1, (hR _ _ (((h0.2 q2).2.2 q4).1 q5).2)⟩), (fun q6 => ⟨(((h0.2 q2).2.2 q4).2 q6).1, (fun q7 => ⟨((((h0.2 q2).2.2 q4).2 q6).2.1 q7).1, (hR _ _ ((((h0.2 q2).2.2 q4).2 q6).2.1 q7).2)⟩), (fun q8 => (hQ _ _ ((((h0.2 q2).2.2 q4).2 q6).2.2 q8)))⟩)⟩)⟩)⟩
theorem mo_wp_X8_mayBear_c38_L29 {x2 : Int} {x4 : Int} {x5 : Int} {M : Mm} {Q Q' : Int → Mm → Prop} (hQ : ∀ z0 z1, Q z0 z1 → Q' z0 z1) : wp_X8_mayBear_c38_L29 x2 x4 Q x5 M → wp_X8_mayBear_c38_L29 x2 x4 Q' x5 M := LP1.mono (fun _ _ hR => mo_bc_X8_mayBear_c38_L29 hQ hR) _ _
theorem mo_wp_X8_mayBear_c38 {x1 : Int} {x2 : Int} {x4 : Int} {M : Mm} {Q Q' : Int → Mm → Prop} (hQ : ∀ z0 z1, Q z0 z1 → Q' z0 z1) : wp_X8_mayBear_c38 x1 x2 x4 M Q → wp_X8_mayBear_c38 x1 x2 x4 M Q' := by
  unfold wp_X8_mayBear_c38
  exact fun h0 => ⟨h0.1, (fun q1 => (mo_wp_X8_mayBear_c38_L29 hQ (h0.2.1 q1))), (fun q2 => ⟨(h0.2.2 q2).1, (fun q3 => (hQ _ _ ((h0.2.2 q2).2.1 q3))), (fun q4 => (hQ _ _ ((h0.2.2 q2).2.2 q4)))⟩)⟩
theorem mo_bc_X8_first_L26 {x1 : Int} {Q Q' : Int → Mm → Prop} {K46 K46' : Int → Mm → Prop} {R R' : Int → Mm → Prop} (hQ : ∀ z0 z1, Q z0 z1 → Q' z0 z1) (hK46 : ∀ z0 z1, K46 z0 z1 → K46' z0 z1) (hR : ∀ z0 z1, R z0 z1 → R' z0 z1) : ∀ (x2 : Int) (M : Mm), bc_X8_first_L26 x1 Q K46 R x2 M → bc_X8_first_L26 x1 Q' K46' R' x2 M := by
  intro x2 M
  unfold bc_X8_first_L26
  exact fun h0 => (mo_wp_X8_mayBear_c38 (fun _ _ h1 => ⟨(fun q2 => (hK46 _ _ (h1.1 q2))), (fun q3 => ⟨(h1.2 q3).1, (hR _ _ (h1.2 q3).2)⟩)⟩) h0)
theorem mo_wp_X8_first_L26 {x1 : Int} {x2 : Int} {M : Mm} {Q Q' : Int → Mm → Prop} {K46 K46' : Int → Mm → Prop} (hQ : ∀ z0 z1, Q z0 z1 → Q' z0 z1) (hK46 : ∀ z0 z1, K46 z0 z1 → K46' z0 z1) : wp_X8_first_L26 x1 Q K46 x2 M → wp_X8_first_L26 x1 Q' K46' x2 M := LP1.mono (fun _ _ hR => mo_bc_X8_first_L26 hQ hK46 hR) _ _
theorem mo_bc_X8_first_L16 {Q Q' : Int → Mm → Prop} {R R' : Int → Mm → Prop} (hQ : ∀ z0 z1, Q z0 z1 → Q' z0 z1) (hR : ∀ z0 z1, R z0 z1 → R' z0 z1) : ∀ (x1 : Int) (M : Mm), bc_X8_first_L16 Q R x1 M → bc_X8_first_L16 Q' R' x1 M := by
  intro x1 M
  unfold bc_X8_first_L16
  exact fun h0 => ⟨(fun q1 => (hQ _ _ (h0.1 q1))), (fun q2 => (mo_wp_X8_first_L26 hQ (fun _ _ h3 => ⟨h3.1, h3.2.1, (hR _ _ h3.2.2)⟩) (h0.2 q2)))⟩
theorem mo_wp_X8_first_L16 {x1 : Int} {M : Mm} {Q Q' : Int → Mm → Prop} (hQ : ∀ z0 z1, Q z0 z1 → Q' z0 z1) : wp_X8_first_L16 Q x1 M → wp_X8_first_L16 Q' x1 M := LP1.mono (fun _ _ hR => mo_bc_X8_first_L16 hQ hR) _ _
theorem mo_wp_X8_first {M : Mm} {Q Q' : Int → Mm → Prop} (hQ : ∀ z0 z1, Q z0 z1 → Q' z0 z1) : wp_X8_first M Q → wp_X8_first M Q' := by
  unfold wp_X8_first
  exact fun h0 => ⟨(fun q1 => (mo_wp_X8_first_L16 hQ (h0.1 q1))), (fun q2 => (hQ _ _ (h0.2 q2)))⟩
theorem mo_bc_X5_letterOn_L2 {x1 : Int} {Q Q' : Int → Mm → Prop} {R R' : Int → Mm → Prop} (hQ : ∀ z0 z1, Q z0 z1 → Q' z0 z1) (hR : ∀ z0 z1, R z0 z1 → R' z0 z1) : ∀ (x2 : Int) (M : Mm), bc_X5_letterOn_L2 x1 Q R x2 M → bc_X5_letterOn_L2 x1 Q' R' x2 M := by
  intro x2 M
  unfold bc_X5_letterOn_L2
  exact fun h0 => ⟨(fun q1 => (hQ _ _ (h0.1 q1))), (fun q2 => ⟨(h0.2 q2).1, (fun q3 => ⟨((h0.2 q2).2.1 q3).1, (hR _ _ ((h0.2 q2).2.1 q3).2)⟩), (fun q4 => (hQ _ _ ((h0.2 q2).2.2 q4)))⟩)⟩
theorem mo_wp_X5_letterOn_L2 {x1 : Int} {x2 : Int} {M : Mm} {Q Q' : Int → Mm → Prop} (hQ : ∀ z0 z1, Q z0 z1 → Q' z0 z1) : wp_X5_letterOn_L2 x1 Q x2 M → wp_X5_letterOn_L2 x1 Q' x2 M := LP1.mono (fun _ _ hR => mo_bc_X5_letterOn_L2 hQ hR) _ _
theorem mo_wp_X5_letterOn {x1 : Int} {M : Mm} {Q Q' : Int → Mm → Prop} (hQ : ∀ z0 z1, Q z0 z1 → Q' z0 z1) : wp_X5_letterOn x1 M Q → wp_X5_letterOn x1 M Q' := by
  unfold wp_X5_letterOn
  exact fun h0 => (mo_wp_X5_letterOn_L2 hQ h0)
theorem mo_wp_X5_move {x1 : Int} {x2 : Int} {M : Mm} {Q Q' : Mm → Prop} (hQ : ∀ z0, Q z0 → Q' z0) : wp_X5_move x1 x2 M Q → wp_X5_move x1 x2 M Q' := by
  unfold wp_X5_move
  exact fun h0 => (mo_wp_X5_letterOn (fun _ _ h1 => ⟨(fun q2 => ⟨(h1.1 q2).1, (hQ _ (h1.1 q2).2)⟩), (fun q3 => ⟨(h1.2 q3).1, (h1.2 q3).2.1, (h1.2 q3).2.2.1, (hQ _ (h1.2 q3).2.2.2)⟩)⟩) h0)
theorem mo_wp_X7_put {x1 : Int} {x2 : Int} {M : Mm} {Q Q' : Int → Mm → Prop} (hQ : ∀ z0 z1, Q z0 z1 → Q' z0 z1) : wp_X7_put x1 x2 M Q → wp_X7_put x1 x2 M Q' := by
  unfold wp_X7_put
  exact fun h0 => (mo_wp_X3_has (fun _ _ h1 => ⟨(fun q2 => (hQ _ _ (h1.1 q2))), (fun q3 => (mo_wp_X2_has (fun _ _ h4 => ⟨(fun q5 => ⟨(fun q6 => (hQ _ _ ((h4.1 q5).1 q6))), (fun q7 => (mo_wp_X3_isFixed (fun _ _ h8 => ⟨(fun q9 => (hQ _ _ (h8.1 q9))), (fun q10 => ⟨(h8.2 q10).1, (fun q11 => (mo_wp_X5_move (fun _ h12 => (hQ _ _ h12)) ((h8.2 q10).2.1 q11))), (fun q13 => (hQ _ _ ((h8.2 q10).2.2 q13)))⟩)⟩) ((h4.1 q5).2 q7)))⟩), (fun q14 => (hQ _ _ (h4.2 q14)))⟩) (h1.2 q3)))⟩) h0)
theorem mo_bc_X8_borne_L2 {x1 : Int} {Q Q' : Int → Mm → Prop} {R R' : Int → Mm → Prop} (hQ : ∀ z0 z1, Q z0 z1 → Q' z0 z1) (hR : ∀ z0 z1, R z0 z1 → R' z0 z1) : ∀ (x2 : Int) (M : Mm), bc_X8_borne_L2 x1 Q R x2 M → bc_X8_borne_L2 x1 Q' R' x2 M := by
  intro x2 M
  unfold bc_X8_borne_L2
  exact fun h0 => ⟨(fun q1 => (hQ _ _ (h0.1 q1))), (fun q2 => ⟨(h0.2 q2).1, (fun q3 => ⟨((h0.2 q2).2.1 q3).1, (hR _ _ ((h0.2 q2).2.1 q3).2)⟩), (fun q4 => (hQ _ _ ((h0.2 q2).2.2 q4)))⟩)⟩
theorem mo_wp_X8_borne_L2 {x1 : Int} {x2 : Int} {M : Mm} {Q Q' : Int → Mm → Prop} (hQ : ∀ z0 z1, Q z0 z1 → Q' z0 z1) : wp_X8_borne_L2 x1 Q x2 M → wp_X8_borne_L2 x1 Q' x2 M := LP1.mono (fun _ _ hR => mo_bc_X8_borne_L2 hQ hR) _ _
theorem mo_wp_X8_borne {x1 : Int} {M : Mm} {Q Q' : Int → Mm → Prop} (hQ : ∀ z0 z1, Q z0 z1 → Q' z0 z1) : wp_X8_borne x1 M Q → wp_X8_borne x1 M Q' := by
  unfold wp_X8_borne
  exact fun h0 => (mo_wp_X8_borne_L2 hQ h0)
theorem mo_wp_X8_put {x1 : Int} {x2 : Int} {M : Mm} {Q Q' : Int → Mm → Prop} (hQ : ∀ z0 z1, Q z0 z1 → Q' z0 z1) : wp_X8_put x1 x2 M Q → wp_X8_put x1 x2 M Q' := by
  unfold wp_X8_put
  exact fun h0 => (mo_wp_X8_isLetter (fun _ _ h1 => ⟨(fun q2 => (hQ _ _ (h1.1 q2))), (fun q3 => (mo_wp_X8_isKey (fun _ _ h4 => ⟨(fun q5 => ⟨(fun q6 => (mo_wp_X8_borne (fun _ _ h7 => ⟨h7.1, (fun q8 => (hQ _ _ (h7.2.1 q8))), (fun q9 => ⟨(fun q10 => ⟨(fun q11 => ⟨(((h7.2.2 q9).1 q10).1 q11).1, (hQ _ _ (((h7.2.2 q9).1 q10).1 q11).2)⟩), (fun q12 => ⟨(((h7.2.2 q9).1 q10).2 q12).1, (((h7.2.2 q9).1 q10).2 q12).2.1, (((h7.2.2 q9).1 q10).2 q12).2.2.1, (hQ _ _ (((h7.2.2 q9).1 q10).2 q12).2.2.2)⟩)⟩), (fun q13 => ⟨((h7.2.2 q9).2 q13).1, (fun q14 => ⟨(fun q15 => ⟨((((h7.2.2 q9).2 q13).2.1 q14).1 q15).1, (hQ _ _ ((((h7.2.2 q9).2 q13).2.1 q14).1 q15).2)⟩), (fun q16 => ⟨((((h7.2.2 q9).2 q13).2.1 q14).2 q16).1, ((((h7.2.2 q9).2 q13).2.1 q14).2 q16).2.1, ((((h7.2.2 q9).2 q13).2.1 q14).2 q16).2.2.1, (hQ _ _ ((((h7.2.2 q9).2 q13).2.1 q14).2 q16).2.2.2)⟩)⟩), (fun q17 => (hQ _ _ (((h7.2.2 q9).2 q13).2.2 q17)))⟩)⟩)⟩) ((h4.1 q5).1 q6))), (fun q18 => (hQ _ _ ((h4.1 q5).2 q18)))⟩), (fun q19 => (hQ _ _ (h4.2 q19)))⟩) (h1.2 q3)))⟩) h0)
theorem mo_wp_X7_at {x1 : Int} {M : Mm} {Q Q' : Int → Mm → Prop} (hQ : ∀ z0 z1, Q z0 z1 → Q' z0 z1) : wp_X7_at x1 M Q → wp_X7_at x1 M Q' := by
  unfold wp_X7_at
  exact fun h0 => (mo_wp_X3_has (fun _ _ h1 => ⟨(fun q2 => ⟨(fun q3 => (hQ _ _ ((h1.1 q2).1 q3))), (fun q4 => ⟨((h1.1 q2).2 q4).1, (hQ _ _ ((h1.1 q2).2 q4).2)⟩)⟩), (fun q5 => (hQ _ _ (h1.2 q5)))⟩) h0)
theorem mo_wp_X8_at {x1 : Int} {M : Mm} {Q Q' : Int → Mm → Prop} (hQ : ∀ z0 z1, Q z0 z1 → Q' z0 z1) : wp_X8_at x1 M Q → wp_X8_at x1 M Q' := by
  unfold wp_X8_at
  exact fun h0 => (mo_wp_X8_isLetter (fun _ _ h1 => ⟨(fun q2 => ⟨(fun q3 => (hQ _ _ ((h1.1 q2).1 q3))), (fun q4 => ⟨((h1.1 q2).2 q4).1, (hQ _ _ ((h1.1 q2).2 q4).2)⟩)⟩), (fun q5 => (hQ _ _ (h1.2 q5)))⟩) h0)
theorem mo_wp_X5_pairCost {x1 : Int} {x2 : Int} {M : Mm} {Q Q' : Int → Mm → Prop} (hQ : ∀ z0 z1, Q z0 z1 → Q' z0 z1) : wp_X5_pairCost x1 x2 M Q → wp_X5_pairCost x1 x2 M Q' := by
  unfold wp_X5_pairCost
  exact fun h0 => ⟨h0.1, h0.2.1, h0.2.2.1, h0.2.2.2.1, h0.2.2.2.2.1, h0.2.2.2.2.2.1, (hQ _ _ h0.2.2.2.2.2.2)⟩
theorem mo_bc_X5_wholeCost_L18 {x3 : Int} {Q Q' : Int → Mm → Prop} {K52 K52' : Int → Mm → Prop} {R R' : Int → Int → Mm → Prop} (hQ : ∀ z0 z1, Q z0 z1 → Q' z0 z1) (hK52 : ∀ z0 z1, K52 z0 z1 → K52' z0 z1) (hR : ∀ z0 z1 z2, R z0 z1 z2 → R' z0 z1 z2) : ∀ (x1 : Int) (x4 : Int) (M : Mm), bc_X5_wholeCost_L18 x3 Q K52 R x1 x4 M → bc_X5_wholeCost_L18 x3 Q' K52' R' x1 x4 M := by
  intro x1 x4 M
  unfold bc_X5_wholeCost_L18
  exact fun h0 => ⟨(fun q1 => (hK52 _ _ (h0.1 q1))), (fun q2 => ⟨(fun q3 => ⟨((h0.2 q2).1 q3).1, (hR _ _ _ ((h0.2 q2).1 q3).2)⟩), (fun q4 => (mo_wp_X5_pairCost (fun _ _ h5 => ⟨h5.1, (hR _ _ _ h5.2)⟩) ((h0.2 q2).2 q4)))⟩)⟩
theorem mo_wp_X5_wholeCost_L18 {x3 : Int} {x1 : Int} {x4 : Int} {M : Mm} {Q Q' : Int → Mm → Prop} {K52 K52' : Int → Mm → Prop} (hQ : ∀ z0 z1, Q z0 z1 → Q' z0 z1) (hK52 : ∀ z0 z1, K52 z0 z1 → K52' z0 z1) : wp_X5_wholeCost_L18 x3 Q K52 x1 x4 M → wp_X5_wholeCost_L18 x3 Q' K52' x1 x4 M := LP2.mono (fun _ _ hR => mo_bc_X5_wholeCost_L18 hQ hK52 hR) _ _ _
theorem mo_bc_X5_wholeCost_L4 {Q Q' : Int → Mm → Prop} {R R' : Int → Int → Mm → Prop} (hQ : ∀ z0 z1, Q z0 z1 → Q' z0 z1) (hR : ∀ z0 z1 z2, R z0 z1 z2 → R' z0 z1 z2) : ∀ (x1 : Int) (x3 : Int) (M : Mm), bc_X5_wholeCost_L4 Q R x1 x3 M → bc_X5_wholeCost_L4 Q' R' x1 x3 M := by
  intro x1 x3 M
  unfold bc_X5_wholeCost_L4
  exact fun h0 => ⟨(fun q1 => (hQ _ _ (h0.1 q1))), (fun q2 => (mo_wp_X5_wholeCost_L18 hQ (fun _ _ h3 => ⟨h3.1, (hR _ _ _ h3.2)⟩) (h0.2 q2)))⟩
theorem mo_wp_X5_wholeCost_L4 {x1 : Int} {x3 : Int} {M : Mm} {Q Q' : Int → Mm → Prop} (hQ : ∀ z0 z1, Q z0 z1 → Q' z0 z1) : wp_X5_wholeCost_L4 Q x1 x3 M → wp_X5_wholeCost_L4 Q' x1 x3 M := LP2.mono (fun _ _ hR => mo_bc_X5_wholeCost_L4 hQ hR) _ _ _
theorem mo_wp_X5_wholeCost {M : Mm} {Q Q' : Int → Mm → Prop} (hQ : ∀ z0 z1, Q z0 z1 → Q' z0 z1) : wp_X5_wholeCost M Q → wp_X5_wholeCost M Q' := by
  unfold wp_X5_wholeCost
  exact fun h0 => (mo_wp_X5_wholeCost_L4 hQ h0)
theorem mo_wp_X7_all {M : Mm} {Q Q' : Int → Mm → Prop} (hQ : ∀ z0 z1, Q z0 z1 → Q' z0 z1) : wp_X7_all M Q → wp_X7_all M Q' := by
  unfold wp_X7_all
  exact fun h0 => ⟨(fun q1 => (hQ _ _ (h0.1 q1))), (fun q2 => (mo_wp_X5_wholeCost (fun _ _ h3 => (hQ _ _ h3)) (h0.2 q2)))⟩
theorem mo_wp_X8_between {x1 : Int} {x2 : Int} {x3 : Int} {x4 : Int} {M : Mm} {Q Q' : Int → Mm → Prop} (hQ : ∀ z0 z1, Q z0 z1 → Q' z0 z1) : wp_X8_between x1 x2 x3 x4 M Q → wp_X8_between x1 x2 x3 x4 M Q' := by
  unfold wp_X8_between
  exact fun h0 => ⟨h0.1, (mo_wp_X8_costOf (fun _ _ h1 => (hQ _ _ h1)) h0.2)⟩
theorem mo_bc_X8_costAll_L15 {x3 : Int} {Q Q' : Int → Mm → Prop} {K63 K63' : Int → Mm → Prop} {R R' : Int → Int → Mm → Prop} (hQ : ∀ z0 z1, Q z0 z1 → Q' z0 z1) (hK63 : ∀ z0 z1, K63 z0 z1 → K63' z0 z1) (hR : ∀ z0 z1 z2, R z0 z1 z2 → R' z0 z1 z2) : ∀ (x1 : Int) (x4 : Int) (M : Mm), bc_X8_costAll_L15 x3 Q K63 R x1 x4 M → bc_X8_costAll_L15 x3 Q' K63' R' x1 x4 M := by
  intro x1 x4 M
  unfold bc_X8_costAll_L15
  exact fun h0 => ⟨(fun q1 => (hK63 _ _ (h0.1 q1))), (fun q2 => ⟨(fun q3 => ⟨((h0.2 q2).1 q3).1, ((h0.2 q2).1 q3).2.1, (mo_wp_X8_between (fun _ _ h4 => ⟨h4.1, (hR _ _ _ h4.2)⟩) ((h0.2 q2).1 q3).2.2)⟩), (fun q5 => ⟨((h0.2 q2).2 q5).1, (hR _ _ _ ((h0.2 q2).2 q5).2)⟩)⟩)⟩
theorem mo_wp_X8_costAll_L15 {x3 : Int} {x1 : Int} {x4 : Int} {M : Mm} {Q Q' : Int → Mm → Prop} {K63 K63' : Int → Mm → Prop} (hQ : ∀ z0 z1, Q z0 z1 → Q' z0 z1) (hK63 : ∀ z0 z1, K63 z0 z1 → K63' z0 z1) : wp_X8_costAll_L15 x3 Q K63 x1 x4 M → wp_X8_costAll_L15 x3 Q' K63' x1 x4 M := LP2.mono (fun _ _ hR => mo_bc_X8_costAll_L15 hQ hK63 hR) _ _ _
theorem mo_bc_X8_costAll_L4 {Q Q' : Int → Mm → Prop} {R R' : Int → Int → Mm → Prop} (hQ : ∀ z0 z1, Q z0 z1 → Q' z0 z1) (hR : ∀ z0 z1 z2, R z0 z1 z2 → R' z0 z1 z2) : ∀ (x1 : Int) (x3 : Int) (M : Mm), bc_X8_costAll_L4 Q R x1 x3 M → bc_X8_costAll_L4 Q' R' x1 x3 M := by
  intro x1 x3 M
  unfold bc_X8_costAll_L4
  exact fun h0 => ⟨(fun q1 => (hQ _ _ (h0.1 q1))), (fun q2 => (mo_wp_X8_costAll_L15 hQ (fun _ _ h3 => ⟨h3.1, (hR _ _ _ h3.2)⟩) (h0.2 q2)))⟩
theorem mo_wp_X8_costAll_L4 {x1 : Int} {x3 : Int} {M : Mm} {Q Q' : Int → Mm → Prop} (hQ : ∀ z0 z1, Q z0 z1 → Q' z0 z1) : wp_X8_costAll_L4 Q x1 x3 M → wp_X8_costAll_L4 Q' x1 x3 M := LP2.mono (fun _ _ hR => mo_bc_X8_costAll_L4 hQ hR) _ _ _
theorem mo_wp_X8_costAll {M : Mm} {Q Q' : Int → Mm → Prop} (hQ : ∀ z0 z1, Q z0 z1 → Q' z0 z1) : wp_X8_costAll M Q → wp_X8_costAll M Q' := by
  unfold wp_X8_costAll
  exact fun h0 => (mo_wp_X8_costAll_L4 hQ h0)
theorem mo_wp_X8_all {M : Mm} {Q Q' : Int → Mm → Prop} (hQ : ∀ z0 z1, Q z0 z1 → Q' z0 z1) : wp_X8_all M Q → wp_X8_all M Q' := by
  unfold wp_X8_all
  exact fun h0 => ⟨(fun q1 => (hQ _ _ (h0.1 q1))), (fun q2 => (mo_wp_X8_costAll (fun _ _ h3 => (hQ _ _ h3)) (h0.2 q2)))⟩
theorem mo_bc_X5_shareOf_L18 {x1 : Int} {x2 : Int} {Q Q' : Int → Mm → Prop} {R R' : Int → Int → Mm → Prop} (hQ : ∀ z0 z1, Q z0 z1 → Q' z0 z1) (hR : ∀ z0 z1 z2, R z0 z1 z2 → R' z0 z1 z2) : ∀ (x3 : Int) (x5 : Int) (M : Mm), bc_X5_shareOf_L18 x1 x2 Q R x3 x5 M → bc_X5_shareOf_L18 x1 x2 Q' R' x3 x5 M := by
  intro x3 x5 M
  unfold bc_X5_shareOf_L18
  exact fun h0 => ⟨(fun q1 => (hQ _ _ (h0.1 q1))), (fun q2 => ⟨(fun q3 => ⟨((h0.2 q2).1 q3).1, (hR _ _ _ ((h0.2 q2).1 q3).2)⟩), (fun q4 => ⟨(fun q5 => ⟨(((h0.2 q2).2 q4).1 q5).1, (hR _ _ _ (((h0.2 q2).2 q4).1 q5).2)⟩), (fun q6 => (mo_wp_X5_pairCost (fun _ _ h7 => (mo_wp_X5_pairCost (fun _ _ h8 => ⟨h8.1, (hR _ _ _ h8.2)⟩) h7)) (((h0.2 q2).2 q4).2 q6)))⟩)⟩)⟩
theorem mo_wp_X5_shareOf_L18 {x1 : Int} {x2 : Int} {x3 : Int} {x5 : Int} {M : Mm} {Q Q' : Int → Mm → Prop} (hQ : ∀ z0 z1, Q z0 z1 → Q' z0 z1) : wp_X5_shareOf_L18 x1 x2 Q x3 x5 M → wp_X5_shareOf_L18 x1 x2 Q' x3 x5 M := LP2.mono (fun _ _ hR => mo_bc_X5_shareOf_L18 hQ hR) _ _ _
theorem mo_wp_X5_shareOf {x1 : Int} {x2 : Int} {M : Mm} {Q Q' : Int → Mm → Prop} (hQ : ∀ z0 z1, Q z0 z1 → Q' z0 z1) : wp_X5_shareOf x1 x2 M Q → wp_X5_shareOf x1 x2 M Q' := by
  unfold wp_X5_shareOf
  exact fun h0 => (mo_wp_X3_has (fun _ _ h1 => ⟨(fun q2 => (mo_wp_X5_shareOf_L18 hQ (h1.1 q2))), (fun q3 => (hQ _ _ (h1.2 q3)))⟩) h0)
theorem mo_wp_X7_share {x1 : Int} {M : Mm} {Q Q' : Int → Mm → Prop} (hQ : ∀ z0 z1, Q z0 z1 → Q' z0 z1) : wp_X7_share x1 M Q → wp_X7_share x1 M Q' := by
  unfold wp_X7_share
  exact fun h0 => (mo_wp_X3_has (fun _ _ h1 => ⟨(fun q2 => ⟨(fun q3 => (hQ _ _ ((h1.1 q2).1 q3))), (fun q4 => (mo_wp_X5_shareOf (fun _ _ h5 => (hQ _ _ h5)) ((h1.1 q2).2 q4)))⟩), (fun q6 => (hQ _ _ (h1.2 q6)))⟩) h0)
theorem mo_bc_X8_share_L28 {x1 : Int} {Q Q' : Int → Mm → Prop} {R R' : Int → Int → Mm → Prop} (hQ : ∀ z0 z1, Q z0 z1 → Q' z0 z1) (hR : ∀ z0 z1 z2, R z0 z1 z2 → R' z0 z1 z2) : ∀ (x2 : Int) (x4 : Int) (M : Mm), bc_X8_share_L28 x1 Q R x2 x4 M → bc_X8_share_L28 x1 Q' R' x2 x4 M := by
  intro x2 x4 M
  unfold bc_X8_share_L28
  exact fun h0 => ⟨(fun q1 => (hQ _ _ (h0.1 q1))), (fun q2 => ⟨(fun q3 => ⟨((h0.2 q2).1 q3).1, (hR _ _ _ ((h0.2 q2).1 q3).2)⟩), (fun q4 => ⟨((h0.2 q2).2 q4).1, ((h0.2 q2).2 q4).2.1, (mo_wp_X8_between (fun _ _ h5 => ⟨h5.1, h5.2.1, (mo_wp_X8_between (fun _ _ h6 => ⟨h6.1, (hR _ _ _ h6.2)⟩) h5.2.2)⟩) ((h0.2 q2).2 q4).2.2)⟩)⟩)⟩
theorem mo_wp_X8_share_L28 {x1 : Int} {x2 : Int} {x4 : Int} {M : Mm} {Q Q' : Int → Mm → Prop} (hQ : ∀ z0 z1, Q z0 z1 → Q' z0 z1) : wp_X8_share_L28 x1 Q x2 x4 M → wp_X8_share_L28 x1 Q' x2 x4 M := LP2.mono (fun _ _ hR => mo_bc_X8_share_L28 hQ hR) _ _ _
theorem mo_wp_X8_share {x1 : Int} {M : Mm} {Q Q' : Int → Mm → Prop} (hQ : ∀ z0 z1, Q z0 z1 → Q' z0 z1) : wp_X8_share x1 M Q → wp_X8_share x1 M Q' := by
  unfold wp_X8_share
  exact fun h0 => (mo_wp_X8_isLetter (fun _ _ h1 => ⟨(fun q2 => ⟨(fun q3 => (mo_wp_X8_share_L28 hQ ((h1.1 q2).1 q3))), (fun q4 => (hQ _ _ ((h1.1 q2).2 q4)))⟩), (fun q5 => (hQ _ _ (h1.2 q5)))⟩) h0)
theorem mo_wp_X5_changeByMove {x1 : Int} {x2 : Int} {M : Mm} {Q Q' : Int → Mm → Prop} (hQ : ∀ z0 z1, Q z0 z1 → Q' z0 z1) : wp_X5_changeByMove x1 x2 M Q → wp_X5_changeByMove x1 x2 M Q' := by
  unfold wp_X5_changeByMove
  exact fun h0 => (mo_wp_X5_letterOn (fun _ _ h1 => ⟨h1.1, (mo_wp_X5_shareOf (fun _ _ h2 => (mo_wp_X5_shareOf (fun _ _ h3 => (mo_wp_X5_move (fun _ h4 => (mo_wp_X5_shareOf (fun _ _ h5 => (mo_wp_X5_shareOf (fun _ _ h6 => (mo_wp_X5_move (fun _ h7 => (hQ _ _ h7)) h6)) h5)) h4)) h3)) h2)) h1.2)⟩) h0)
theorem mo_wp_X5_weigh {x1 : Int} {x2 : Int} {M : Mm} {Q Q' : Mm → Prop} (hQ : ∀ z0, Q z0 → Q' z0) : wp_X5_weigh x1 x2 M Q → wp_X5_weigh x1 x2 M Q' := by
  unfold wp_X5_weigh
  exact fun h0 => (mo_wp_X5_changeByMove (fun _ _ h1 => ⟨h1.1, (fun q2 => (hQ _ (h1.2.1 q2))), (fun q3 => ⟨(h1.2.2 q3).1, (hQ _ (h1.2.2 q3).2)⟩)⟩) h0)
theorem mo_bc_X5_weighExchanges_L16 {x1 : Int} {Q Q' : Mm → Prop} {R R' : Int → Mm → Prop} (hQ : ∀ z0, Q z0 → Q' z0) (hR : ∀ z0 z1, R z0 z1 → R' z0 z1) : ∀ (x2 : Int) (M : Mm), bc_X5_weighExchanges_L16 x1 Q R x2 M → bc_X5_weighExchanges_L16 x1 Q' R' x2 M := by
  intro x2 M
  unfold bc_X5_weighExchanges_L16
  exact fun h0 => ⟨(fun q1 => (hQ _ (h0.1 q1))), (fun q2 => (mo_wp_X3_isFixed (fun _ _ h3 => ⟨(fun q4 => ⟨(h3.1 q4).1, (hR _ _ (h3.1 q4).2)⟩), (fun q5 => ⟨(h3.2 q5).1, (mo_wp_X5_weigh (fun _ h6 => ⟨h6.1, (hR _ _ h6.2)⟩) (h3.2 q5).2)⟩)⟩) (h0.2 q2)))⟩
theorem mo_wp_X5_weighExchanges_L16 {x1 : Int} {x2 : Int} {M : Mm} {Q Q' : Mm → Prop} (hQ : ∀ z0, Q z0 → Q' z0) : wp_X5_weighExchanges_L16 x1 Q x2 M → wp_X5_weighExchanges_L16 x1 Q' x2 M := LP1.mono (fun _ _ hR => mo_bc_X5_weighExchanges_L16 hQ hR) _ _
theorem mo_wp_X5_weighExchanges {x1 : Int} {M : Mm} {Q Q' : Mm → Prop} (hQ : ∀ z0, Q z0 → Q' z0) : wp_X5_weighExchanges x1 M Q → wp_X5_weighExchanges x1 M Q' := by
  unfold wp_X5_weighExchanges
  exact fun h0 => (mo_wp_X3_isFixed (fun _ _ h1 => ⟨(fun q2 => ⟨(h1.1 q2).1, (mo_wp_X5_weighExchanges_L16 hQ (h1.1 q2).2)⟩), (fun q3 => (hQ _ (h1.2 q3)))⟩) h0)
theorem mo_wp_X3_allow {x1 : Int} {x2 : Int} {M : Mm} {Q Q' : Int → Mm → Prop} (hQ : ∀ z0 z1, Q z0 z1 → Q' z0 z1) : wp_X3_allow x1 x2 M Q → wp_X3_allow x1 x2 M Q' := by
  unfold wp_X3_allow
  exact fun h0 => (mo_wp_X3_isFixed (fun _ _ h1 => ⟨(fun q2 => ⟨(h1.1 q2).1, (fun q3 => (hQ _ _ ((h1.1 q2).2.1 q3))), (fun q4 => (hQ _ _ ((h1.1 q2).2.2 q4)))⟩), (fun q5 => ⟨(h1.2 q5).1, (fun q6 => (hQ _ _ ((h1.2 q5).2.1 q6))), (fun q7 => (hQ _ _ ((h1.2 q5).2.2 q7)))⟩)⟩) h0)
theorem mo_bc_X5_weighGoings_L14 {x1 : Int} {Q Q' : Mm → Prop} {R R' : Int → Mm → Prop} (hQ : ∀ z0, Q z0 → Q' z0) (hR : ∀ z0 z1, R z0 z1 → R' z0 z1) : ∀ (x2 : Int) (M : Mm), bc_X5_weighGoings_L14 x1 Q R x2 M → bc_X5_weighGoings_L14 x1 Q' R' x2 M := by
  intro x2 M
  unfold bc_X5_weighGoings_L14
  exact fun h0 => ⟨(fun q1 => (hQ _ (h0.1 q1))), (fun q2 => (mo_wp_X3_allow (fun _ _ h3 => ⟨(fun q4 => ⟨(h3.1 q4).1, (hR _ _ (h3.1 q4).2)⟩), (fun q5 => (mo_wp_X5_letterOn (fun _ _ h6 => ⟨(fun q7 => ⟨(h6.1 q7).1, (hR _ _ (h6.1 q7).2)⟩), (fun q8 => (mo_wp_X5_weigh (fun _ h9 => ⟨h9.1, (hR _ _ h9.2)⟩) (h6.2 q8)))⟩) (h3.2 q5)))⟩) (h0.2 q2)))⟩
theorem mo_wp_X5_weighGoings_L14 {x1 : Int} {x2 : Int} {M : Mm} {Q Q' : Mm → Prop} (hQ : ∀ z0, Q z0 → Q' z0) : wp_X5_weighGoings_L14 x1 Q x2 M → wp_X5_weighGoings_L14 x1 Q' x2 M := LP1.mono (fun _ _ hR => mo_bc_X5_weighGoings_L14 hQ hR) _ _
theorem mo_wp_X5_weighGoings {x1 : Int} {M : Mm} {Q Q' : Mm → Prop} (hQ : ∀ z0, Q z0 → Q' z0) : wp_X5_weighGoings x1 M Q → wp_X5_weighGoings x1 M Q' := by
  unfold wp_X5_weighGoings
  exact fun h0 => (mo_wp_X3_isFixed (fun _ _ h1 => ⟨(fun q2 => (mo_wp_X5_weighGoings_L14 hQ (h1.1 q2))), (fun q3 => (hQ _ (h1.2 q3)))⟩) h0)
theorem mo_bc_X5_findBestChange_L7 {Q Q' : Int → Mm → Prop} {K29 K29' : Mm → Prop} {R R' : Int → Mm → Prop} (hQ : ∀ z0 z1, Q z0 z1 → Q' z0 z1) (hK29 : ∀ z0, K29 z0 → K29' z0) (hR : ∀ z0 z1, R z0 z1 → R' z0 z1) : ∀ (x1 : Int) (M : Mm), bc_X5_findBestChange_L7 Q K29 R x1 M → bc_X5_findBestChange_L7 Q' K29' R' x1 M := by
  intro x1 M
  unfold bc_X5_findBestChange_L7
  exact fun h0 => ⟨(fun q1 => (hK29 _ (h0.1 q1))), (fun q2 => (mo_wp_X5_weighExchanges (fun _ h3 => ⟨h3.1, (hR _ _ h3.2)⟩) (h0.2 q2)))⟩
theorem mo_wp_X5_findBestChange_L7 {x1 : Int} {M : Mm} {Q Q' : Int → Mm → Prop} {K29 K29' : Mm → Prop} (hQ : ∀ z0 z1, Q z0 z1 → Q' z0 z1) (hK29 : ∀ z0, K29 z0 → K29' z0) : wp_X5_findBestChange_L7 Q K29 x1 M → wp_X5_findBestChange_L7 Q' K29' x1 M := LP1.mono (fun _ _ hR => mo_bc_X5_findBestChange_L7 hQ hK29 hR) _ _
theorem mo_bc_X5_findBestChange_L31 {Q Q' : Int → Mm → Prop} {R R' : Int → Mm → Prop} (hQ : ∀ z0 z1, Q z0 z1 → Q' z0 z1) (hR : ∀ z0 z1, R z0 z1 → R' z0 z1) : ∀ (x1 : Int) (M : Mm), bc_X5_findBestChange_L31 Q R x1 M → bc_X5_findBestChange_L31 Q' R' x1 M := by
  intro x1 M
  unfold bc_X5_findBestChange_L31
  exact fun h0 => ⟨(fun q1 => ⟨(fun q2 => (hQ _ _ ((h0.1 q1).1 q2))), (fun q3 => (hQ _ _ ((h0.1 q1).2 q3)))⟩), (fun q4 => (mo_wp_X5_weighGoings (fun _ h5 => ⟨h5.1, (hR _ _ h5.2)⟩) (h0.2 q4)))⟩
theorem mo_wp_X5_findBestChange_L31 {x1 : Int} {M : Mm} {Q Q' : Int → Mm → Prop} (hQ : ∀ z0 z1, Q z0 z1 → Q' z0 z1) : wp_X5_findBestChange_L31 Q x1 M → wp_X5_findBestChange_L31 Q' x1 M := LP1.mono (fun _ _ hR => mo_bc_X5_findBestChange_L31 hQ hR) _ _
theorem mo_wp_X5_findBestChange {M : Mm} {Q Q' : Int → Mm → Prop} (hQ : ∀ z0 z1, Q z0 z1 → Q' z0 z1) : wp_X5_findBestChange M Q → wp_X5_findBestChange M Q' := by
  unfold wp_X5_findBestChange
  exact fun h0 => (mo_wp_X5_findBestChange_L7 hQ (fun _ h1 => (mo_wp_X5_findBestChange_L31 hQ h1)) h0)
theorem mo_bc_X5_betterToTheEnd_L2 {Q Q' : Int → Mm → Prop} {R R' : Int → Mm → Prop} (hQ : ∀ z0 z1, Q z0 z1 → Q' z0 z1) (hR : ∀ z0 z1, R z0 z1 → R' z0 z1) : ∀ (x1 : Int) (M : Mm), bc_X5_betterToTheEnd_L2 Q R x1 M → bc_X5_betterToTheEnd_L2 Q' R' x1 M := by
  intro x1 M
  unfold bc_X5_betterToTheEnd_L2
  exact fun h0 => ⟨(fun q1 => (hQ _ _ (h0.1 q1))), (fun q2 => (mo_wp_X5_findBestChange (fun _ _ h3 => ⟨(fun q4 => (hQ _ _ (h3.1 q4))), (fun q5 => (mo_wp_X5_move (fun _ h6 => ⟨h6.1, (hR _ _ h6.2)⟩) (h3.2 q5)))⟩) (h0.2 q2)))⟩
theorem mo_wp_X5_betterToTheEnd_L2 {x1 : Int} {M : Mm} {Q Q' : Int → Mm → Prop} (hQ : ∀ z0 z1, Q z0 z1 → Q' z0 z1) : wp_X5_betterToTheEnd_L2 Q x1 M → wp_X5_betterToTheEnd_L2 Q' x1 M := LP1.mono (fun _ _ hR => mo_bc_X5_betterToTheEnd_L2 hQ hR) _ _
theorem mo_wp_X5_betterToTheEnd {M : Mm} {Q Q' : Int → Mm → Prop} (hQ : ∀ z0 z1, Q z0 z1 → Q' z0 z1) : wp_X5_betterToTheEnd M Q → wp_X5_betterToTheEnd M Q' := by
  unfold wp_X5_betterToTheEnd
  exact fun h0 => (mo_wp_X5_betterToTheEnd_L2 hQ h0)
theorem mo_wp_X7_better {M : Mm} {Q Q' : Int → Mm → Prop} (hQ : ∀ z0 z1, Q z0 z1 → Q' z0 z1) : wp_X7_better M Q → wp_X7_better M Q' := by
  unfold wp_X7_better
  exact fun h0 => ⟨(fun q1 => (hQ _ _ (h0.1 q1))), (fun q2 => (mo_wp_X5_betterToTheEnd (fun _ _ h3 => (hQ _ _ h3)) (h0.2 q2)))⟩
theorem mo_wp_X8_exchange {x1 : Int} {x2 : Int} {M : Mm} {Q Q' : Mm → Prop} (hQ : ∀ z0, Q z0 → Q' z0) : wp_X8_exchange x1 x2 M Q → wp_X8_exchange x1 x2 M Q' := by
  unfold wp_X8_exchange
  exact fun h0 => ⟨h0.1, h0.2.1, h0.2.2.1, h0.2.2.2.1, (hQ _ h0.2.2.2.2)⟩
theorem mo_bc_X8_better_L53 {x1 : Int} {x3 : Int} {x9 : Int} {x10 : Int} {Q Q' : Int → Mm → Prop} {K132 K132' : Int → Int → Int → Mm → Prop} {R R' : Int → Int → Int → Int → Mm → Prop} (hQ : ∀ z0 z1, Q z0 z1 → Q' z0 z1) (hK132 : ∀ z0 z1 z2 z3, K132 z0 z1 z2 z3 → K132' z0 z1 z2 z3) (hR : ∀ z0 z1 z2 z3 z4, R z0 z1 z2 z3 z4 → R' z0 z1 z2 z3 z4) : ∀ (x5 : Int) (x7 : Int) (x8 : Int) (x11 : Int) (M : Mm), bc_X8_better_L53 x1 x3 x9 x10 Q K132 R x5 x7 x8 x11 M → bc_X8_better_L53 x1 x3 x9 x10 Q' K132' R' x5 x7 x8 x11 M := by
  intro x5 x7 x8 x11 M
  unfold bc_X8_better_L53
  exact fun h0 => ⟨(fun q1 => (hK132 _ _ _ _ (h0.1 q1))), (fun q2 => ⟨(h0.2 q2).1, (fun q3 => (hK132 _ _ _ _ ((h0.2 q2).2.1 q3))), (fun q4 => ⟨((h0.2 q2).2.2 q4).1, (fun q5 => ⟨(((h0.2 q2).2.2 q4).2.1 q5).1, (hR _ _ _ _ _ (((h0.2 q2).2.2 q4).2.1 q5).2)⟩), (fun q6 => (mo_wp_X8_exchange (fun _ h7 => (mo_wp_X8_costAll (fun _ _ h8 => (mo_wp_X8_exchange (fun _ h9 => ⟨h9.1, (fun q10 => ⟨(h9.2.1 q10).1, (hR _ _ _ _ _ (h9.2.1 q10).2)⟩), (fun q11 => ⟨(h9.2.2 q11).1, (hR _ _ _ _ _ (h9.2.2 q11).2)⟩)⟩) h8)) h7)) (((h0.2 q2).2.2 q4).2.2 q6)))⟩)⟩)⟩
theorem mo_wp_X8_better_L53 {x1 : Int} {x3 : Int} {x9 : Int} {x10 : Int} {x5 : Int} {x7 : Int} {x8 : Int} {x11 : Int} {M : Mm} {Q Q' : Int → Mm → Prop} {K132 K132' : Int → Int → Int → Mm → Prop} (hQ : ∀ z0 z1, Q z0 z1 → Q' z0 z1) (hK132 : ∀ z0 z1 z2 z3, K132 z0 z1 z2 z3 → K132' z0 z1 z2 z3) : wp_X8_better_L53 x1 x3 x9 x10 Q K132 x5 x7 x8 x11 M → wp_X8_better_L53 x1 x3 x9 x10 Q' K132' x5 x7 x8 x11 M := LP4.mono (fun _ _ hR => mo_bc_X8_better_L53 hQ hK132 hR) _ _ _ _ _
theorem mo_bc_X8_better_L38 {x1 : Int} {x3 : Int} {x9 : Int} {Q Q' : Int → Mm → Prop} {K138 K138' : Int → Int → Int → Mm → Prop} {R R' : Int → Int → Int → Int → Mm → Prop} (hQ : ∀ z0 z1, Q z0 z1 → Q' z0 z1) (hK138 : ∀ z0 z1 z2 z3, K138 z0 z1 z2 z3 → K138' z0 z1 z2 z3) (hR : ∀ z0 z1 z2 z3 z4, R z0 z1 z2 z3 z4 → R' z0 z1 z2 z3 z4) : ∀ (x5 : Int) (x7 : Int) (x8 : Int) (x10 : Int) (M : Mm), bc_X8_better_L38 x1 x3 x9 Q K138 R x5 x7 x8 x10 M → bc_X8_better_L38 x1 x3 x9 Q' K138' R' x5 x7 x8 x10 M := by
  intro x5 x7 x8 x10 M
  unfold bc_X8_better_L38
  exact fun h0 => ⟨(fun q1 => (hK138 _ _ _ _ (h0.1 q1))), (fun q2 => ⟨(h0.2 q2).1, (mo_wp_X8_better_L53 hQ (fun _ _ _ _ h3 => ⟨h3.1, (hR _ _ _ _ _ h3.2)⟩) (h0.2 q2).2)⟩)⟩
theorem mo_wp_X8_better_L38 {x1 : Int} {x3 : Int} {x9 : Int} {x5 : Int} {x7 : Int} {x8 : Int} {x10 : Int} {M : Mm} {Q Q' : Int → Mm → Prop} {K138 K138' : Int → Int → Int → Mm → Prop} (hQ : ∀ z0 z1, Q z0 z1 → Q' z0 z1) (hK138 : ∀ z0 z1 z2 z3, K138 z0 z1 z2 z3 → K138' z0 z1 z2 z3) : wp_X8_better_L38 x1 x3 x9 Q K138 x5 x7 x8 x10 M → wp_X8_better_L38 x1 x3 x9 Q' K138' x5 x7 x8 x10 M := LP4.mono (fun _ _ hR => mo_bc_X8_better_L38 hQ hK138 hR) _ _ _ _ _
theorem mo_bc_X8_better_L153 {x1 : Int} {x3 : Int} {x10 : Int} {Q Q' : Int → Mm → Prop} {K245 K245' : Int → Int → Int → Int → Mm → Prop} {R R' : Int → Int → Int → Int → Int → Mm → Prop} (hQ : ∀ z0 z1, Q z0 z1 → Q' z0 z1) (hK245 : ∀ z0 z1 z2 z3 z4, K245 z0 z1 z2 z3 z4 → K245' z0 z1 z2 z3 z4) (hR : ∀ z0 z1 z2 z3 z4 z5, R z0 z1 z2 z3 z4 z5 → R' z0 z1 z2 z3 z4 z5) : ∀ (x5 : Int) (x7 : Int) (x8 : Int) (x9 : Int) (x11 : Int) (M : Mm), bc_X8_better_L153 x1 x3 x10 Q K245 R x5 x7 x8 x9 x11 M → bc_X8_better_L153 x1 x3 x10 Q' K245' R' x5 x7 x8 x9 x11 M := by
  intro x5 x7 x8 x9 x11 M
  unfold bc_X8_better_L153
  exact fun h0 => ⟨(fun q1 => (hK245 _ _ _ _ _ (h0.1 q1))), (fun q2 => ⟨(h0.2 q2).1, (fun q3 => (hK245 _ _ _ _ _ ((h0.2 q2).2.1 q3))), (fun q4 => (mo_wp_X8_borne (fun _ _ h5 => ⟨(fun q6 => ⟨(h5.1 q6).1, (hR _ _ _ _ _ _ (h5.1 q6).2)⟩), (fun q7 => ⟨(h5.2 q7).1, (h5.2 q7).2.1, (mo_wp_X8_costAll (fun _ _ h8 => ⟨h8.1, h8.2.1, (fun q9 => ⟨(h8.2.2.1 q9).1, (hR _ _ _ _ _ _ (h8.2.2.1 q9).2)⟩), (fun q10 => ⟨(h8.2.2.2 q10).1, (hR _ _ _ _ _ _ (h8.2.2.2 q10).2)⟩)⟩) (h5.2 q7).2.2)⟩)⟩) ((h0.2 q2).2.2 q4)))⟩)⟩
theorem mo_wp_X8_better_L153 {x1 : Int} {x3 : Int} {x10 : Int} {x5 : Int} {x7 : Int} {x8 : Int} {x9 : Int} {x11 : Int} {M : Mm} {Q Q' : Int → Mm → Prop} {K245 K245' : Int → Int → Int → Int → Mm → Prop} (hQ : ∀ z0 z1, Q z0 z1 → Q' z0 z1) (hK245 : ∀ z0 z1 z2 z3 z4, K245 z0 z1 z2 z3 z4 → K245' z0 z1 z2 z3 z4) : wp_X8_better_L153 x1 x3 x10 Q K245 x5 x7 x8 x9 x11 M → wp_X8_better_L153 x1 x3 x10 Q' K245' x5 x7 x8 x9 x11 M := LP5.mono (fun _ _ hR => mo_bc_X8_better_L153 hQ hK245 hR) _ _ _ _ _ _
theorem mo_bc_X8_better_L141 {x1 : Int} {x3 : Int} {Q Q' : Int → Mm → Prop} {K251 K251' : Int → Int → Int → Int → Mm → Prop} {R R' : Int → Int → Int → Int → Int → Mm → Prop} (hQ : ∀ z0 z1, Q z0 z1 → Q' z0 z1) (hK251 : ∀ z0 z1 z2 z3 z4, K251 z0 z1 z2 z3 z4 → K251' z0 z1 z2 z3 z4) (hR : ∀ z0 z1 z2 z3 z4 z5, R z0 z1 z2 z3 z4 z5 → R' z0 z1 z2 z3 z4 z5) : ∀ (x5 : Int) (x7 : Int) (x8 : Int) (x9 : Int) (x10 : Int) (M : Mm), bc_X8_better_L141 x1 x3 Q K251 R x5 x7 x8 x9 x10 M → bc_X8_better_L141 x1 x3 Q' K251' R' x5 x7 x8 x9 x10 M := by
  intro x5 x7 x8 x9 x10 M
  unfold bc_X8_better_L141
  exact fun h0 => ⟨(fun q1 => (hK251 _ _ _ _ _ (h0.1 q1))), (fun q2 => (mo_wp_X8_better_L153 hQ (fun _ _ _ _ _ h3 => ⟨h3.1, (hR _ _ _ _ _ _ h3.2)⟩) (h0.2 q2)))⟩
theorem mo_wp_X8_better_L141 {x1 : Int} {x3 : Int} {x5 : Int} {x7 : Int} {x8 : Int} {x9 : Int} {x10 : Int} {M : Mm} {Q Q' : Int → Mm → Prop} {K251 K251' : Int → Int → Int → Int → Mm → Prop} (hQ : ∀ z0 z1, Q z0 z1 → Q' z0 z1) (hK251 : ∀ z0 z1 z2 z3 z4, K251 z0 z1 z2 z3 z4 → K251' z0 z1 z2 z3 z4) : wp_X8_better_L141 x1 x3 Q K251 x5 x7 x8 x9 x10 M → wp_X8_better_L141 x1 x3 Q' K251' x5 x7 x8 x9 x10 M := LP5.mono (fun _ _ hR => mo_bc_X8_better_L141 hQ hK251 hR) _ _ _ _ _ _
theorem mo_bc_X8_better_L14 {Q Q' : Int → Mm → Prop} {R R' : Int → Int → Mm → Prop} (hQ : ∀ z0 z1, Q z0 z1 → Q' z0 z1) (hR : ∀ z0 z1 z2, R z0 z1 z2 → R' z0 z1 z2) : ∀ (x1 : Int) (x2 : Int) (M : Mm), bc_X8_better_L14 Q R x1 x2 M → bc_X8_better_L14 Q' R' x1 x2 M := by
  intro x1 x2 M
  unfold bc_X8_better_L14
  exact fun h0 => ⟨(fun q1 => (hQ _ _ (h0.1 q1))), (fun q2 => (mo_wp_X8_costAll (fun _ _ h3 => (mo_wp_X8_better_L38 hQ (fun _ _ _ _ h4 => (mo_wp_X8_better_L141 hQ (fun _ _ _ _ _ h5 => ⟨h5.1, (fun q6 => ⟨(fun q7 => (hR _ _ _ ((h5.2.1 q6).1 q7))), (fun q8 => ⟨(fun q9 => (mo_wp_X8_exchange (fun _ h10 => ⟨h10.1, (hR _ _ _ h10.2)⟩) (((h5.2.1 q6).2 q8).1 q9))), (fun q11 => ⟨(((h5.2.1 q6).2 q8).2 q11).1, (((h5.2.1 q6).2 q8).2 q11).2.1, (hR _ _ _ (((h5.2.1 q6).2 q8).2 q11).2.2)⟩)⟩)⟩), (fun q12 => ⟨(fun q13 => (hR _ _ _ ((h5.2.2 q12).1 q13))), (fun q14 => ⟨(fun q15 => (mo_wp_X8_exchange (fun _ h16 => ⟨h16.1, (hR _ _ _ h16.2)⟩) (((h5.2.2 q12).2 q14).1 q15))), (fun q17 => ⟨(((h5.2.2 q12).2 q14).2 q17).1, (((h5.2.2 q12).2 q14).2 q17).2.1, (hR _ _ _ (((h5.2.2 q12).2 q14).2 q17).2.2)⟩)⟩)⟩)⟩) h4)) h3)) (h0.2 q2)))⟩
theorem mo_wp_X8_better_L14 {x1 : Int} {x2 : Int} {M : Mm} {Q Q' : Int → Mm → Prop} (hQ : ∀ z0 z1, Q z0 z1 → Q' z0 z1) : wp_X8_better_L14 Q x1 x2 M → wp_X8_better_L14 Q' x1 x2 M := LP2.mono (fun _ _ hR => mo_bc_X8_better_L14 hQ hR) _ _ _
theorem mo_wp_X8_better {M : Mm} {Q Q' : Int → Mm → Prop} (hQ : ∀ z0 z1, Q z0 z1 → Q' z0 z1) : wp_X8_better M Q → wp_X8_better M Q' := by
  unfold wp_X8_better
  exact fun h0 => ⟨(fun q1 => (mo_wp_X8_better_L14 hQ (h0.1 q1))), (fun q2 => (hQ _ _ (h0.2 q2)))⟩
theorem mo_wp_X7_change {x1 : Int} {x2 : Int} {M : Mm} {Q Q' : Int → Mm → Prop} (hQ : ∀ z0 z1, Q z0 z1 → Q' z0 z1) : wp_X7_change x1 x2 M Q → wp_X7_change x1 x2 M Q' := by
  unfold wp_X7_change
  exact fun h0 => (mo_wp_X3_has (fun _ _ h1 => ⟨(fun q2 => (hQ _ _ (h1.1 q2))), (fun q3 => (mo_wp_X3_has (fun _ _ h4 => ⟨(fun q5 => (hQ _ _ (h4.1 q5))), (fun q6 => ⟨(fun q7 => ⟨(fun q8 => (hQ _ _ (((h4.2 q6).1 q7).1 q8))), (fun q9 => (mo_wp_X3_isFixed (fun _ _ h10 => ⟨(fun q11 => (hQ _ _ (h10.1 q11))), (fun q12 => (mo_wp_X3_isFixed (fun _ _ h13 => ⟨(fun q14 => ⟨(h13.1 q14).1, (mo_wp_X5_changeByMove (fun _ _ h15 => (hQ _ _ h15)) (h13.1 q14).2)⟩), (fun q16 => (hQ _ _ (h13.2 q16)))⟩) (h10.2 q12)))⟩) (((h4.2 q6).1 q7).2 q9)))⟩), (fun q17 => (hQ _ _ ((h4.2 q6).2 q17)))⟩)⟩) (h1.2 q3)))⟩) h0)
theorem mo_wp_X8_change {x1 : Int} {x2 : Int} {M : Mm} {Q Q' : Int → Mm → Prop} (hQ : ∀ z0 z1, Q z0 z1 → Q' z0 z1) : wp_X8_change x1 x2 M Q → wp_X8_change x1 x2 M Q' := by
  unfold wp_X8_change
  exact fun h0 => (mo_wp_X8_isLetter (fun _ _ h1 => ⟨(fun q2 => (hQ _ _ (h1.1 q2))), (fun q3 => (mo_wp_X8_isLetter (fun _ _ h4 => ⟨(fun q5 => (hQ _ _ (h4.1 q5))), (fun q6 => ⟨(fun q7 => ⟨(fun q8 => (hQ _ _ (((h4.2 q6).1 q7).1 q8))), (fun q9 => ⟨(((h4.2 q6).1 q7).2 q9).1, (fun q10 => (hQ _ _ ((((h4.2 q6).1 q7).2 q9).2.1 q10))), (fun q11 => ⟨((((h4.2 q6).1 q7).2 q9).2.2 q11).1, (fun q12 => (mo_wp_X8_costAll (fun _ _ h13 => (mo_wp_X8_exchange (fun _ h14 => (mo_wp_X8_costAll (fun _ _ h15 => (mo_wp_X8_exchange (fun _ h16 => (hQ _ _ h16)) h15)) h14)) h13)) (((((h4.2 q6).1 q7).2 q9).2.2 q11).2.1 q12))), (fun q17 => (hQ _ _ (((((h4.2 q6).1 q7).2 q9).2.2 q11).2.2 q17)))⟩)⟩)⟩), (fun q18 => (hQ _ _ ((h4.2 q6).2 q18)))⟩)⟩) (h1.2 q3)))⟩) h0)
theorem mo_bc_X1_costAddedBy_L12 {x1 : Int} {x2 : Int} {Q Q' : Int → Mm → Prop} {R R' : Int → Int → Mm → Prop} (hQ : ∀ z0 z1, Q z0 z1 → Q' z0 z1) (hR : ∀ z0 z1 z2, R z0 z1 z2 → R' z0 z1 z2) : ∀ (x3 : Int) (x5 : Int) (M : Mm), bc_X1_costAddedBy_L12 x1 x2 Q R x3 x5 M → bc_X1_costAddedBy_L12 x1 x2 Q' R' x3 x5 M := by
  intro x3 x5 M
  unfold bc_X1_costAddedBy_L12
  exact fun h0 => ⟨(fun q1 => (hQ _ _ (h0.1 q1))), (fun q2 => ⟨(h0.2 q2).1, (h0.2 q2).2.1, (h0.2 q2).2.2.1, (h0.2 q2).2.2.2.1, (h0.2 q2).2.2.2.2.1, (h0.2 q2).2.2.2.2.2.1, (h0.2 q2).2.2.2.2.2.2.1, (h0.2 q2).2.2.2.2.2.2.2.1, (h0.2 q2).2.2.2.2.2.2.2.2.1, (h0.2 q2).2.2.2.2.2.2.2.2.2.1, (hR _ _ _ (h0.2 q2).2.2.2.2.2.2.2.2.2.2)⟩)⟩
theorem mo_wp_X1_costAddedBy_L12 {x1 : Int} {x2 : Int} {x3 : Int} {x5 : Int} {M : Mm} {Q Q' : Int → Mm → Prop} (hQ : ∀ z0 z1, Q z0 z1 → Q' z0 z1) : wp_X1_costAddedBy_L12 x1 x2 Q x3 x5 M → wp_X1_costAddedBy_L12 x1 x2 Q' x3 x5 M := LP2.mono (fun _ _ hR => mo_bc_X1_costAddedBy_L12 hQ hR) _ _ _
theorem mo_wp_X1_costAddedBy {x1 : Int} {M : Mm} {Q Q' : Int → Mm → Prop} (hQ : ∀ z0 z1, Q z0 z1 → Q' z0 z1) : wp_X1_costAddedBy x1 M Q → wp_X1_costAddedBy x1 M Q' := by
  unfold wp_X1_costAddedBy
  exact fun h0 => ⟨h0.1, (mo_wp_X1_costAddedBy_L12 hQ h0.2)⟩
theorem mo_bc_X1_keep_L2 {x1 : Int} {Q Q' : Mm → Prop} {R R' : Int → Mm → Prop} (hQ : ∀ z0, Q z0 → Q' z0) (hR : ∀ z0 z1, R z0 z1 → R' z0 z1) : ∀ (x3 : Int) (M : Mm), bc_X1_keep_L2 x1 Q R x3 M → bc_X1_keep_L2 x1 Q' R' x3 M := by
  intro x3 M
  unfold bc_X1_keep_L2
  exact fun h0 => ⟨(fun q1 => ⟨(h0.1 q1).1, (hQ _ (h0.1 q1).2)⟩), (fun q2 => ⟨(h0.2 q2).1, (h0.2 q2).2.1, (h0.2 q2).2.2.1, (hR _ _ (h0.2 q2).2.2.2)⟩)⟩
theorem mo_wp_X1_keep_L2 {x1 : Int} {x3 : Int} {M : Mm} {Q Q' : Mm → Prop} (hQ : ∀ z0, Q z0 → Q' z0) : wp_X1_keep_L2 x1 Q x3 M → wp_X1_keep_L2 x1 Q' x3 M := LP1.mono (fun _ _ hR => mo_bc_X1_keep_L2 hQ hR) _ _
theorem mo_wp_X1_keep {x1 : Int} {M : Mm} {Q Q' : Mm → Prop} (hQ : ∀ z0, Q z0 → Q' z0) : wp_X1_keep x1 M Q → wp_X1_keep x1 M Q' := by
  unfold wp_X1_keep
  exact fun h0 => (mo_wp_X1_keep_L2 hQ h0)
theorem mo_wp_X1_tryOn {x1 : Int} {x2 : Int} {x3 : Int} {M : Mm} {Q Q' : Mm → Prop} {PF : Int → Int → Mm → (Mm → Prop) → Prop} (hPF : ∀ (x c : Int) (M : Mm) (Q Q' : Mm → Prop), (∀ M, Q M → Q' M) → PF x c M Q → PF x c M Q') (hQ : ∀ z0, Q z0 → Q' z0) : wp_X1_tryOn PF x1 x2 x3 M Q → wp_X1_tryOn PF x1 x2 x3 M Q' := by
  unfold wp_X1_tryOn
  exact fun h0 => ⟨(fun q1 => ⟨(h0.1 q1).1, (h0.1 q1).2.1, (mo_wp_X1_costAddedBy (fun _ _ h2 => ⟨(fun q3 => ⟨(h2.1 q3).1, (h2.1 q3).2.1, (hPF _ _ _ _ _ (fun _ h4 => ⟨h4.1, (hQ _ h4.2)⟩) (h2.1 q3).2.2)⟩), (fun q5 => ⟨(h2.2 q5).1, (fun q6 => ⟨((h2.2 q5).2.1 q6).1, ((h2.2 q5).2.1 q6).2.1, (hPF _ _ _ _ _ (fun _ h7 => ⟨h7.1, (hQ _ h7.2)⟩) ((h2.2 q5).2.1 q6).2.2)⟩), (fun q8 => (hQ _ ((h2.2 q5).2.2 q8)))⟩)⟩) (h0.1 q1).2.2)⟩), (fun q9 => (hQ _ (h0.2 q9)))⟩
theorem mo_bc_X1_placeFrom_L20 {x1 : Int} {x2 : Int} {Q Q' : Mm → Prop} {R R' : Int → Mm → Prop} {PF : Int → Int → Mm → (Mm → Prop) → Prop} (hPF : ∀ (x c : Int) (M : Mm) (Q Q' : Mm → Prop), (∀ M, Q M → Q' M) → PF x c M Q → PF x c M Q') (hQ : ∀ z0, Q z0 → Q' z0) (hR : ∀ z0 z1, R z0 z1 → R' z0 z1) : ∀ (x4 : Int) (M : Mm), bc_X1_placeFrom_L20 PF x1 x2 Q R x4 M → bc_X1_placeFrom_L20 PF x1 x2 Q' R' x4 M := by
  intro x4 M
  unfold bc_X1_placeFrom_L20
  exact fun h0 => ⟨(fun q1 => (hQ _ (h0.1 q1))), (fun q2 => ⟨(fun q3 => (hQ _ ((h0.2 q2).1 q3))), (fun q4 => ⟨((h0.2 q2).2 q4).1, (fun q5 => ⟨(((h0.2 q2).2 q4).2.1 q5).1, (hR _ _ (((h0.2 q2).2 q4).2.1 q5).2)⟩), (fun q6 => (mo_wp_X3_allow (fun _ _ h7 => ⟨(fun q8 => ⟨(h7.1 q8).1, (hR _ _ (h7.1 q8).2)⟩), (fun q9 => (mo_wp_X1_tryOn hPF (fun _ h10 => ⟨h10.1, (hR _ _ h10.2)⟩) (h7.2 q9)))⟩) (((h0.2 q2).2 q4).2.2 q6)))⟩)⟩)⟩
theorem mo_wp_X1_placeFrom_L20 {x1 : Int} {x2 : Int} {x4 : Int} {M : Mm} {Q Q' : Mm → Prop} {PF : Int → Int → Mm → (Mm → Prop) → Prop} (hPF : ∀ (x c : Int) (M : Mm) (Q Q' : Mm → Prop), (∀ M, Q M → Q' M) → PF x c M Q → PF x c M Q') (hQ : ∀ z0, Q z0 → Q' z0) : wp_X1_placeFrom_L20 PF x1 x2 Q x4 M → wp_X1_placeFrom_L20 PF x1 x2 Q' x4 M := LP1.mono (fun _ _ hR => mo_bc_X1_placeFrom_L20 hPF hQ hR) _ _
theorem mo_wb_X1_placeFrom {x1 : Int} {x2 : Int} {M : Mm} {Q Q' : Mm → Prop} {PF : Int → Int → Mm → (Mm → Prop) → Prop} (hPF : ∀ (x c : Int) (M : Mm) (Q Q' : Mm → Prop), (∀ M, Q M → Q' M) → PF x c M Q → PF x c M Q') (hQ : ∀ z0, Q z0 → Q' z0) : wb_X1_placeFrom PF x1 x2 M Q → wb_X1_placeFrom PF x1 x2 M Q' := by
  unfold wb_X1_placeFrom
  exact fun h0 => ⟨(fun q1 => (mo_wp_X1_placeFrom_L20 hPF hQ (h0.1 q1))), (fun q2 => (mo_wp_X1_keep (fun _ h3 => (hQ _ h3)) (h0.2 q2)))⟩
