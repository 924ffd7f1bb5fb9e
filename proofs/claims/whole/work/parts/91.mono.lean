theorem mo_wp_X1_placeFrom (d : Nat) : ∀ (x c : Int) (M : Mm) (Q Q' : Mm → Prop), (∀ M, Q M → Q' M) → wp_X1_placeFrom d x c M Q → wp_X1_placeFrom d x c M Q' := by
  induction d with
  | zero => intro x c M Q Q' _ h; exact h
  | succ d ih => intro x c M Q Q' hQ; exact mo_wb_X1_placeFrom ih hQ
theorem mo_wp_X1_findLeast {M : Mm} {Q Q' : Int → Mm → Prop} (hQ : ∀ z0 z1, Q z0 z1 → Q' z0 z1) : wp_X1_findLeast M Q → wp_X1_findLeast M Q' := by
  unfold wp_X1_findLeast
  exact fun h0 => (mo_wp_X1_forget (fun _ h1 => (mo_wp_X1_placeFrom _ _ _ _ _ _ (fun _ h2 => ⟨(fun q3 => (hQ _ _ (h2.1 q3))), (fun q4 => (hQ _ _ (h2.2 q4)))⟩) h1)) h0)
theorem mo_wp_X7_search {M : Mm} {Q Q' : Int → Mm → Prop} (hQ : ∀ z0 z1, Q z0 z1 → Q' z0 z1) : wp_X7_search M Q → wp_X7_search M Q' := by
  unfold wp_X7_search
  exact fun h0 => (mo_wp_X7_tooFewKeys (fun _ _ h1 => ⟨(fun q2 => (mo_wp_X1_findLeast (fun _ _ h3 => ⟨(fun q4 => (hQ _ _ (h3.1 q4))), (fun q5 => (hQ _ _ (h3.2 q5)))⟩) (h1.1 q2))), (fun q6 => (hQ _ _ (h1.2 q6)))⟩) h0)
theorem mo_bc_X8_mayBear_c41_L29 {x2 : Int} {x4 : Int} {Q Q' : Int → Mm → Prop} {R R' : Int → Mm → Prop} (hQ : ∀ z0 z1, Q z0 z1 → Q' z0 z1) (hR : ∀ z0 z1, R z0 z1 → R' z0 z1) : ∀ (x5 : Int) (M : Mm), bc_X8_mayBear_c41_L29 x2 x4 Q R x5 M → bc_X8_mayBear_c41_L29 x2 x4 Q' R' x5 M := by
  intro x5 M
  unfold bc_X8_mayBear_c41_L29
  exact fun h0 => ⟨(fun q1 => (hQ _ _ (h0.1 q1))), (fun q2 => ⟨(h0.2 q2).1, (fun q3 => (hQ _ _ ((h0.2 q2).2.1 q3))), (fun q4 => ⟨(fun q5 => ⟨(((h0.2 q2).2.2 q4).1 q5).1, (hR _ _ (((h0.2 q2).2.2 q4).1 q5).2)⟩), (fun q6 => ⟨(((h0.2 q2).2.2 q4).2 q6).1, (fun q7 => ⟨((((h0.2 q2).2.2 q4).2 q6).2.1 q7).1, (hR _ _ ((((h0.2 q2).2.2 q4).2 q6).2.1 q7).2)⟩), (fun q8 => (hQ _ _ ((((h0.2 q2).2.2 q4).2 q6).2.2 q8)))⟩)⟩)⟩)⟩
theorem mo_wp_X8_mayBear_c41_L29 {x2 : Int} {x4 : Int} {x5 : Int} {M : Mm} {Q Q' : Int → Mm → Prop} (hQ : ∀ z0 z1, Q z0 z1 → Q' z0 z1) : wp_X8_mayBear_c41_L29 x2 x4 Q x5 M → wp_X8_mayBear_c41_L29 x2 x4 Q' x5 M := LP1.mono (fun _ _ hR => mo_bc_X8_mayBear_c41_L29 hQ hR) _ _
theorem mo_wp_X8_mayBear_c41 {x1 : Int} {x2 : Int} {x4 : Int} {M : Mm} {Q Q' : Int → Mm → Prop} (hQ : ∀ z0 z1, Q z0 z1 → Q' z0 z1) : wp_X8_mayBear_c41 x1 x2 x4 M Q → wp_X8_mayBear_c41 x1 x2 x4 M Q' := by
  unfold wp_X8_mayBear_c41
  exact fun h0 => ⟨h0.1, (fun q1 => (mo_wp_X8_mayBear_c41_L29 hQ (h0.2.1 q1))), (fun q2 => ⟨(h0.2.2 q2).1, (fun q3 => (hQ _ _ ((h0.2.2 q2).2.1 q3))), (fun q4 => (hQ _ _ ((h0.2.2 q2).2.2 q4)))⟩)⟩
theorem mo_bc_X8_added_L5 {x1 : Int} {Q Q' : Int → Mm → Prop} {R R' : Int → Int → Mm → Prop} (hQ : ∀ z0 z1, Q z0 z1 → Q' z0 z1) (hR : ∀ z0 z1 z2, R z0 z1 z2 → R' z0 z1 z2) : ∀ (x2 : Int) (x4 : Int) (M : Mm), bc_X8_added_L5 x1 Q R x2 x4 M → bc_X8_added_L5 x1 Q' R' x2 x4 M := by
  intro x2 x4 M
  unfold bc_X8_added_L5
  exact fun h0 => ⟨(fun q1 => (hQ _ _ (h0.1 q1))), (fun q2 => ⟨(h0.2 q2).1, (h0.2 q2).2.1, (mo_wp_X8_between (fun _ _ h3 => ⟨h3.1, h3.2.1, (mo_wp_X8_between (fun _ _ h4 => ⟨h4.1, (hR _ _ _ h4.2)⟩) h3.2.2)⟩) (h0.2 q2).2.2)⟩)⟩
theorem mo_wp_X8_added_L5 {x1 : Int} {x2 : Int} {x4 : Int} {M : Mm} {Q Q' : Int → Mm → Prop} (hQ : ∀ z0 z1, Q z0 z1 → Q' z0 z1) : wp_X8_added_L5 x1 Q x2 x4 M → wp_X8_added_L5 x1 Q' x2 x4 M := LP2.mono (fun _ _ hR => mo_bc_X8_added_L5 hQ hR) _ _ _
theorem mo_wp_X8_added {x1 : Int} {M : Mm} {Q Q' : Int → Mm → Prop} (hQ : ∀ z0 z1, Q z0 z1 → Q' z0 z1) : wp_X8_added x1 M Q → wp_X8_added x1 M Q' := by
  unfold wp_X8_added
  exact fun h0 => (mo_wp_X8_added_L5 hQ h0)
theorem mo_bc_X8_search_L187 {x1 : Int} {Q Q' : Int → Mm → Prop} {K213 K213' : Mm → Prop} {R R' : Int → Mm → Prop} (hQ : ∀ z0 z1, Q z0 z1 → Q' z0 z1) (hK213 : ∀ z0, K213 z0 → K213' z0) (hR : ∀ z0 z1, R z0 z1 → R' z0 z1) : ∀ (x2 : Int) (M : Mm), bc_X8_search_L187 x1 Q K213 R x2 M → bc_X8_search_L187 x1 Q' K213' R' x2 M := by
  intro x2 M
  unfold bc_X8_search_L187
  exact fun h0 => ⟨(fun q1 => (hK213 _ (h0.1 q1))), (fun q2 => ⟨(h0.2 q2).1, (h0.2 q2).2.1, (h0.2 q2).2.2.1, (hR _ _ (h0.2 q2).2.2.2)⟩)⟩
theorem mo_wp_X8_search_L187 {x1 : Int} {x2 : Int} {M : Mm} {Q Q' : Int → Mm → Prop} {K213 K213' : Mm → Prop} (hQ : ∀ z0 z1, Q z0 z1 → Q' z0 z1) (hK213 : ∀ z0, K213 z0 → K213' z0) : wp_X8_search_L187 x1 Q K213 x2 M → wp_X8_search_L187 x1 Q' K213' x2 M := LP1.mono (fun _ _ hR => mo_bc_X8_search_L187 hQ hK213 hR) _ _
theorem mo_bc_X8_search_L40 {Q Q' : Int → Mm → Prop} {R R' : Int → Mm → Prop} (hQ : ∀ z0 z1, Q z0 z1 → Q' z0 z1) (hR : ∀ z0 z1, R z0 z1 → R' z0 z1) : ∀ (x1 : Int) (M : Mm), bc_X8_search_L40 Q R x1 M → bc_X8_search_L40 Q' R' x1 M := by
  intro x1 M
  unfold bc_X8_search_L40
  exact fun h0 => ⟨(fun q1 => (hQ _ _ (h0.1 q1))), (fun q2 => ⟨(h0.2 q2).1, (h0.2 q2).2.1, (h0.2 q2).2.2.1, (h0.2 q2).2.2.2.1, (fun q3 => ⟨((h0.2 q2).2.2.2.2.1 q3).1, (mo_wp_X8_mayBear_c41 (fun _ _ h4 => ⟨(fun q5 => (hR _ _ (h4.1 q5))), (fun q6 => ⟨(fun q7 => ⟨((h4.2 q6).1 q7).1, ((h4.2 q6).1 q7).2.1, (mo_wp_X8_added (fun _ _ h8 => ⟨h8.1, h8.2.1, (fun q9 => ⟨(h8.2.2.1 q9).1, (fun q10 => ⟨((h8.2.2.1 q9).2.1 q10).1, ((h8.2.2.1 q9).2.1 q10).2.1, (hR _ _ ((h8.2.2.1 q9).2.1 q10).2.2)⟩), (fun q11 => ⟨((h8.2.2.1 q9).2.2 q11).1, (mo_wp_X8_search_L187 hQ (fun _ h12 => (hR _ _ h12)) ((h8.2.2.1 q9).2.2 q11).2)⟩)⟩), (fun q13 => ⟨(h8.2.2.2 q13).1, (fun q14 => (hR _ _ ((h8.2.2.2 q13).2.1 q14))), (fun q15 => ⟨((h8.2.2.2 q13).2.2 q15).1, (fun q16 => ⟨(((h8.2.2.2 q13).2.2 q15).2.1 q16).1, (((h8.2.2.2 q13).2.2 q15).2.1 q16).2.1, (hR _ _ (((h8.2.2.2 q13).2.2 q15).2.1 q16).2.2)⟩), (fun q17 => ⟨(((h8.2.2.2 q13).2.2 q15).2.2 q17).1, (mo_wp_X8_search_L187 hQ (fun _ h18 => (hR _ _ h18)) (((h8.2.2.2 q13).2.2 q15).2.2 q17).2)⟩)⟩)⟩)⟩) ((h4.2 q6).1 q7).2.2)⟩), (fun q19 => (hQ _ _ ((h4.2 q6).2 q19)))⟩)⟩) ((h0.2 q2).2.2.2.2.1 q3).2)⟩), (fun q20 => ⟨((h0.2 q2).2.2.2.2.2 q20).1, (hR _ _ ((h0.2 q2).2.2.2.2.2 q20).2)⟩)⟩)⟩
theorem mo_wp_X8_search_L40 {x1 : Int} {M : Mm} {Q Q' : Int → Mm → Prop} (hQ : ∀ z0 z1, Q z0 z1 → Q' z0 z1) : wp_X8_search_L40 Q x1 M → wp_X8_search_L40 Q' x1 M := LP1.mono (fun _ _ hR => mo_bc_X8_search_L40 hQ hR) _ _
theorem mo_wp_X8_search {M : Mm} {Q Q' : Int → Mm → Prop} (hQ : ∀ z0 z1, Q z0 z1 → Q' z0 z1) : wp_X8_search M Q → wp_X8_search M Q' := by
  unfold wp_X8_search
  exact fun h0 => ⟨(fun q1 => (mo_wp_X8_search_L40 hQ (h0.1 q1))), (fun q2 => (hQ _ _ (h0.2 q2)))⟩
theorem mo_wp_X7_least {M : Mm} {Q Q' : Int → Mm → Prop} (hQ : ∀ z0 z1, Q z0 z1 → Q' z0 z1) : wp_X7_least M Q → wp_X7_least M Q' := by
  unfold wp_X7_least
  exact fun h0 => ⟨(fun q1 => (hQ _ _ (h0.1 q1))), (fun q2 => (hQ _ _ (h0.2 q2)))⟩
theorem mo_wp_X8_least {M : Mm} {Q Q' : Int → Mm → Prop} (hQ : ∀ z0 z1, Q z0 z1 → Q' z0 z1) : wp_X8_least M Q → wp_X8_least M Q' := by
  unfold wp_X8_least
  exact fun h0 => ⟨(fun q1 => (hQ _ _ (h0.1 q1))), (fun q2 => (hQ _ _ (h0.2 q2)))⟩
theorem mo_bc_X5_become_c22_L2 {Q Q' : Mm → Prop} {R R' : Int → Mm → Prop} (hQ : ∀ z0, Q z0 → Q' z0) (hR : ∀ z0 z1, R z0 z1 → R' z0 z1) : ∀ (x2 : Int) (M : Mm), bc_X5_become_c22_L2 Q R x2 M → bc_X5_become_c22_L2 Q' R' x2 M := by
  intro x2 M
  unfold bc_X5_become_c22_L2
  exact fun h0 => ⟨(fun q1 => (hQ _ (h0.1 q1))), (fun q2 => ⟨(h0.2 q2).1, (h0.2 q2).2.1, (h0.2 q2).2.2.1, (hR _ _ (h0.2 q2).2.2.2)⟩)⟩
theorem mo_wp_X5_become_c22_L2 {x2 : Int} {M : Mm} {Q Q' : Mm → Prop} (hQ : ∀ z0, Q z0 → Q' z0) : wp_X5_become_c22_L2 Q x2 M → wp_X5_become_c22_L2 Q' x2 M := LP1.mono (fun _ _ hR => mo_bc_X5_become_c22_L2 hQ hR) _ _
theorem mo_wp_X5_become_c22 {M : Mm} {Q Q' : Mm → Prop} (hQ : ∀ z0, Q z0 → Q' z0) : wp_X5_become_c22 M Q → wp_X5_become_c22 M Q' := by
  unfold wp_X5_become_c22
  exact fun h0 => (mo_wp_X5_become_c22_L2 hQ h0)
theorem mo_wp_X7_take {M : Mm} {Q Q' : Int → Mm → Prop} (hQ : ∀ z0 z1, Q z0 z1 → Q' z0 z1) : wp_X7_take M Q → wp_X7_take M Q' := by
  unfold wp_X7_take
  exact fun h0 => ⟨(fun q1 => (mo_wp_X5_become_c22 (fun _ h2 => (hQ _ _ h2)) (h0.1 q1))), (fun q3 => (hQ _ _ (h0.2 q3)))⟩
theorem mo_bc_X8_take_L12 {Q Q' : Int → Mm → Prop} {R R' : Int → Mm → Prop} (hQ : ∀ z0 z1, Q z0 z1 → Q' z0 z1) (hR : ∀ z0 z1, R z0 z1 → R' z0 z1) : ∀ (x1 : Int) (M : Mm), bc_X8_take_L12 Q R x1 M → bc_X8_take_L12 Q' R' x1 M := by
  intro x1 M
  unfold bc_X8_take_L12
  exact fun h0 => ⟨(fun q1 => (hQ _ _ (h0.1 q1))), (fun q2 => ⟨(h0.2 q2).1, (h0.2 q2).2.1, (h0.2 q2).2.2.1, (hR _ _ (h0.2 q2).2.2.2)⟩)⟩
theorem mo_wp_X8_take_L12 {x1 : Int} {M : Mm} {Q Q' : Int → Mm → Prop} (hQ : ∀ z0 z1, Q z0 z1 → Q' z0 z1) : wp_X8_take_L12 Q x1 M → wp_X8_take_L12 Q' x1 M := LP1.mono (fun _ _ hR => mo_bc_X8_take_L12 hQ hR) _ _
theorem mo_wp_X8_take {M : Mm} {Q Q' : Int → Mm → Prop} (hQ : ∀ z0 z1, Q z0 z1 → Q' z0 z1) : wp_X8_take M Q → wp_X8_take M Q' := by
  unfold wp_X8_take
  exact fun h0 => ⟨(fun q1 => (mo_wp_X8_take_L12 hQ (h0.1 q1))), (fun q2 => (hQ _ _ (h0.2 q2)))⟩
theorem mo_wp_X7_tries {M : Mm} {Q Q' : Int → Mm → Prop} (hQ : ∀ z0 z1, Q z0 z1 → Q' z0 z1) : wp_X7_tries M Q → wp_X7_tries M Q' := by
  unfold wp_X7_tries
  exact fun h0 => (hQ _ _ h0)
theorem mo_wp_X8_tries {M : Mm} {Q Q' : Int → Mm → Prop} (hQ : ∀ z0 z1, Q z0 z1 → Q' z0 z1) : wp_X8_tries M Q → wp_X8_tries M Q' := by
  unfold wp_X8_tries
  exact fun h0 => (hQ _ _ h0)
theorem mo_bc_J7_fill_d0a16_c26_L6 {x1 : Int} {x4 : Int} {Q Q' : Mm → Prop} {R R' : Int → Mm → Prop} (hQ : ∀ z0, Q z0 → Q' z0) (hR : ∀ z0 z1, R z0 z1 → R' z0 z1) : ∀ (x3 : Int) (M : Mm), bc_J7_fill_d0a16_c26_L6 x1 x4 Q R x3 M → bc_J7_fill_d0a16_c26_L6 x1 x4 Q' R' x3 M := by
  intro x3 M
  unfold bc_J7_fill_d0a16_c26_L6
  exact fun h0 => ⟨(fun q1 => (hQ _ (h0.1 q1))), (fun q2 => ⟨(h0.2 q2).1, (h0.2 q2).2.1, (h0.2 q2).2.2.1, (hR _ _ (h0.2 q2).2.2.2)⟩)⟩
theorem mo_wp_J7_fill_d0a16_c26_L6 {x1 : Int} {x4 : Int} {x3 : Int} {M : Mm} {Q Q' : Mm → Prop} (hQ : ∀ z0, Q z0 → Q' z0) : wp_J7_fill_d0a16_c26_L6 x1 x4 Q x3 M → wp_J7_fill_d0a16_c26_L6 x1 x4 Q' x3 M := LP1.mono (fun _ _ hR => mo_bc_J7_fill_d0a16_c26_L6 hQ hR) _ _
theorem mo_wp_J7_fill_d0a16_c26 {x1 : Int} {M : Mm} {Q Q' : Mm → Prop} (hQ : ∀ z0, Q z0 → Q' z0) : wp_J7_fill_d0a16_c26 x1 M Q → wp_J7_fill_d0a16_c26 x1 M Q' := by
  unfold wp_J7_fill_d0a16_c26
  exact fun h0 => (mo_wp_J7_fill_d0a16_c26_L6 hQ h0)
theorem mo_bc_X0_insert_c23_L2 {x2 : Int} {Q Q' : Mm → Prop} {R R' : Int → Mm → Prop} (hQ : ∀ z0, Q z0 → Q' z0) (hR : ∀ z0 z1, R z0 z1 → R' z0 z1) : ∀ (x3 : Int) (M : Mm), bc_X0_insert_c23_L2 x2 Q R x3 M → bc_X0_insert_c23_L2 x2 Q' R' x3 M := by
  intro x3 M
  unfold bc_X0_insert_c23_L2
  exact fun h0 => ⟨(fun q1 => ⟨(h0.1 q1).1, (hQ _ (h0.1 q1).2)⟩), (fun q2 => ⟨(h0.2 q2).1, (fun q3 => ⟨((h0.2 q2).2.1 q3).1, (hQ _ ((h0.2 q2).2.1 q3).2)⟩), (fun q4 => ⟨((h0.2 q2).2.2 q4).1, ((h0.2 q2).2.2 q4).2.1, ((h0.2 q2).2.2 q4).2.2.1, (hR _ _ ((h0.2 q2).2.2 q4).2.2.2)⟩)⟩)⟩
theorem mo_wp_X0_insert_c23_L2 {x2 : Int} {x3 : Int} {M : Mm} {Q Q' : Mm → Prop} (hQ : ∀ z0, Q z0 → Q' z0) : wp_X0_insert_c23_L2 x2 Q x3 M → wp_X0_insert_c23_L2 x2 Q' x3 M := LP1.mono (fun _ _ hR => mo_bc_X0_insert_c23_L2 hQ hR) _ _
theorem mo_wp_X0_insert_c23 {x1 : Int} {x2 : Int} {M : Mm} {Q Q' : Mm → Prop} (hQ : ∀ z0, Q z0 → Q' z0) : wp_X0_insert_c23 x1 x2 M Q → wp_X0_insert_c23 x1 x2 M Q' := by
  unfold wp_X0_insert_c23
  exact fun h0 => (mo_wp_X0_insert_c23_L2 hQ h0)
theorem mo_bc_X0_gatherOftens_L4 {x1 : Int} {Q Q' : Int → Mm → Prop} {R R' : Int → Int → Mm → Prop} (hQ : ∀ z0 z1, Q z0 z1 → Q' z0 z1) (hR : ∀ z0 z1 z2, R z0 z1 z2 → R' z0 z1 z2) : ∀ (x2 : Int) (x3 : Int) (M : Mm), bc_X0_gatherOftens_L4 x1 Q R x2 x3 M → bc_X0_gatherOftens_L4 x1 Q' R' x2 x3 M := by
  intro x2 x3 M
  unfold bc_X0_gatherOftens_L4
  exact fun h0 => ⟨(fun q1 => (hQ _ _ (h0.1 q1))), (fun q2 => ⟨(fun q3 => ⟨((h0.2 q2).1 q3).1, (hR _ _ _ ((h0.2 q2).1 q3).2)⟩), (fun q4 => ⟨((h0.2 q2).2 q4).1, ((h0.2 q2).2 q4).2.1, (mo_wp_X0_insert_c23 (fun _ h5 => ⟨h5.1, h5.2.1, (hR _ _ _ h5.2.2)⟩) ((h0.2 q2).2 q4).2.2)⟩)⟩)⟩
theorem mo_wp_X0_gatherOftens_L4 {x1 : Int} {x2 : Int} {x3 : Int} {M : Mm} {Q Q' : Int → Mm → Prop} (hQ : ∀ z0 z1, Q z0 z1 → Q' z0 z1) : wp_X0_gatherOftens_L4 x1 Q x2 x3 M → wp_X0_gatherOftens_L4 x1 Q' x2 x3 M := LP2.mono (fun _ _ hR => mo_bc_X0_gatherOftens_L4 hQ hR) _ _ _
theorem mo_wp_X0_gatherOftens {x1 : Int} {M : Mm} {Q Q' : Int → Mm → Prop} (hQ : ∀ z0 z1, Q z0 z1 → Q' z0 z1) : wp_X0_gatherOftens x1 M Q → wp_X0_gatherOftens x1 M Q' := by
  unfold wp_X0_gatherOftens
  exact fun h0 => (mo_wp_X0_gatherOftens_L4 hQ h0)
theorem mo_bc_X0_insert_c24_L2 {x2 : Int} {Q Q' : Mm → Prop} {R R' : Int → Mm → Prop} (hQ : ∀ z0, Q z0 → Q' z0) (hR : ∀ z0 z1, R z0 z1 → R' z0 z1) : ∀ (x3 : Int) (M : Mm), bc_X0_insert_c24_L2 x2 Q R x3 M → bc_X0_insert_c24_L2 x2 Q' R' x3 M := by
  intro x3 M
  unfold bc_X0_insert_c24_L2
  exact fun h0 => ⟨(fun q1 => ⟨(h0.1 q1).1, (hQ _ (h0.1 q1).2)⟩), (fun q2 => ⟨(h0.2 q2).1, (fun q3 => ⟨((h0.2 q2).2.1 q3).1, (hQ _ ((h0.2 q2).2.1 q3).2)⟩), (fun q4 => ⟨((h0.2 q2).2.2 q4).1, ((h0.2 q2).2.2 q4).2.1, ((h0.2 q2).2.2 q4).2.2.1, (hR _ _ ((h0.2 q2).2.2 q4).2.2.2)⟩)⟩)⟩
theorem mo_wp_X0_insert_c24_L2 {x2 : Int} {x3 : Int} {M : Mm} {Q Q' : Mm → Prop} (hQ : ∀ z0, Q z0 → Q' z0) : wp_X0_insert_c24_L2 x2 Q x3 M → wp_X0_insert_c24_L2 x2 Q' x3 M := LP1.mono (fun _ _ hR => mo_bc_X0_insert_c24_L2 hQ hR) _ _
theorem mo_wp_X0_insert_c24 {x1 : Int} {x2 : Int} {M : Mm} {Q Q' : Mm → Prop} (hQ : ∀ z0, Q z0 → Q' z0) : wp_X0_insert_c24 x1 x2 M Q → wp_X0_insert_c24 x1 x2 M Q' := by
  unfold wp_X0_insert_c24
  exact fun h0 => (mo_wp_X0_insert_c24_L2 hQ h0)
theorem mo_bc_X0_gatherWays_L4 {x1 : Int} {Q Q' : Int → Mm → Prop} {R R' : Int → Int → Mm → Prop} (hQ : ∀ z0 z1, Q z0 z1 → Q' z0 z1) (hR : ∀ z0 z1 z2, R z0 z1 z2 → R' z0 z1 z2) : ∀ (x2 : Int) (x3 : Int) (M : Mm), bc_X0_gatherWays_L4 x1 Q R x2 x3 M → bc_X0_gatherWays_L4 x1 Q' R' x2 x3 M := by
  intro x2 x3 M
  unfold bc_X0_gatherWays_L4
  exact fun h0 => ⟨(fun q1 => (hQ _ _ (h0.1 q1))), (fun q2 => ⟨(fun q3 => ⟨((h0.2 q2).1 q3).1, (hR _ _ _ ((h0.2 q2).1 q3).2)⟩), (fun q4 => ⟨((h0.2 q2).2 q4).1, ((h0.2 q2).2 q4).2.1, (mo_wp_X0_insert_c24 (fun _ h5 => ⟨h5.1, h5.2.1, (hR _ _ _ h5.2.2)⟩) ((h0.2 q2).2 q4).2.2)⟩)⟩)⟩
theorem mo_wp_X0_gatherWays_L4 {x1 : Int} {x2 : Int} {x3 : Int} {M : Mm} {Q Q' : Int → Mm → Prop} (hQ : ∀ z0 z1, Q z0 z1 → Q' z0 z1) : wp_X0_gatherWays_L4 x1 Q x2 x3 M → wp_X0_gatherWays_L4 x1 Q' x2 x3 M := LP2.mono (fun _ _ hR => mo_bc_X0_gatherWays_L4 hQ hR) _ _ _
theorem mo_wp_X0_gatherWays {x1 : Int} {M : Mm} {Q Q' : Int → Mm → Prop} (hQ : ∀ z0 z1, Q z0 z1 → Q' z0 z1) : wp_X0_gatherWays x1 M Q → wp_X0_gatherWays x1 M Q' := by
  unfold wp_X0_gatherWays
  exact fun h0 => (mo_wp_X0_gatherWays_L4 hQ h0)
theorem mo_bc_X0_priceOn_L19 {x3 : Int} {x4 : Int} {Q Q' : Int → Mm → Prop} {R R' : Int → Int → Mm → Prop} (hQ : ∀ z0 z1, Q z0 z1 → Q' z0 z1) (hR : ∀ z0 z1 z2, R z0 z1 z2 → R' z0 z1 z2) : ∀ (x5 : Int) (x7 : Int) (M : Mm), bc_X0_priceOn_L19 x3 x4 Q R x5 x7 M → bc_X0_priceOn_L19 x3 x4 Q' R' x5 x7 M := by
  intro x5 x7 M
  unfold bc_X0_priceOn_L19
  exact fun h0 => ⟨(fun q1 => (hQ _ _ (h0.1 q1))), (fun q2 => ⟨(fun q3 => (hQ _ _ ((h0.2 q2).1 q3))), (fun q4 => ⟨((h0.2 q2).2 q4).1, ((h0.2 q2).2 q4).2.1, ((h0.2 q2).2 q4).2.2.1, (hR _ _ _ ((h0.2 q2).2 q4).2.2.2)⟩)⟩)⟩
theorem mo_wp_X0_priceOn_L19 {x3 : Int} {x4 : Int} {x5 : Int} {x7 : Int} {M : Mm} {Q Q' : Int → Mm → Prop} (hQ : ∀ z0 z1, Q z0 z1 → Q' z0 z1) : wp_X0_priceOn_L19 x3 x4 Q x5 x7 M → wp_X0_priceOn_L19 x3 x4 Q' x5 x7 M := LP2.mono (fun _ _ hR => mo_bc_X0_priceOn_L19 hQ hR) _ _ _
theorem mo_wp_X0_priceOn {x1 : Int} {x2 : Int} {M : Mm} {Q Q' : Int → Mm → Prop} (hQ : ∀ z0 z1, Q z0 z1 → Q' z0 z1) : wp_X0_priceOn x1 x2 M Q → wp_X0_priceOn x1 x2 M Q' := by
  unfold wp_X0_priceOn
  exact fun h0 => (mo_wp_X0_gatherOftens (fun _ _ h1 => (mo_wp_X0_gatherWays (fun _ _ h2 => (mo_wp_X0_priceOn_L19 hQ h2)) h1)) h0)
theorem mo_bc_X0_leastWithLatestKey_L7 {x1 : Int} {Q Q' : Int → Mm → Prop} {R R' : Int → Int → Mm → Prop} (hQ : ∀ z0 z1, Q z0 z1 → Q' z0 z1) (hR : ∀ z0 z1 z2, R z0 z1 z2 → R' z0 z1 z2) : ∀ (x2 : Int) (x4 : Int) (M : Mm), bc_X0_leastWithLatestKey_L7 x1 Q R x2 x4 M → bc_X0_leastWithLatestKey_L7 x1 Q' R' x2 x4 M := by
  intro x2 x4 M
  unfold bc_X0_leastWithLatestKey_L7
  exact fun h0 => ⟨(fun q1 => (hQ _ _ (h0.1 q1))), (fun q2 => ⟨(fun q3 => ⟨((h0.2 q2).1 q3).1, (hR _ _ _ ((h0.2 q2).1 q3).2)⟩), (fun q4 => ⟨((h0.2 q2).2 q4).1, ((h0.2 q2).2 q4).2.1, ((h0.2 q2).2 q4).2.2.1, ((h0.2 q2).2 q4).2.2.2.1, (hR _ _ _ ((h0.2 q2).2 q4).2.2.2.2)⟩)⟩)⟩
theorem mo_wp_X0_leastWithLatestKey_L7 {x1 : Int} {x2 : Int} {x4 : Int} {M : Mm} {Q Q' : Int → Mm → Prop} (hQ : ∀ z0 z1, Q z0 z1 → Q' z0 z1) : wp_X0_leastWithLatestKey_L7 x1 Q x2 x4 M → wp_X0_leastWithLatestKey_L7 x1 Q' x2 x4 M := LP2.mono (fun _ _ hR => mo_bc_X0_leastWithLatestKey_L7 hQ hR) _ _ _
theorem mo_wp_X0_leastWithLatestKey {x1 : Int} {M : Mm} {Q Q' : Int → Mm → Prop} (hQ : ∀ z0 z1, Q z0 z1 → Q' z0 z1) : wp_X0_leastWithLatestKey x1 M Q → wp_X0_leastWithLatestKey x1 M Q' := by
  unfold wp_X0_leastWithLatestKey
  exact fun h0 => (mo_wp_X0_leastWithLatestKey_L7 hQ h0)
theorem mo_bc_X0_leastSum_L44 {x1 : Int} {x2 : Int} {Q Q' : Int → Mm → Prop} {K91 K91' : Mm → Prop} {R R' : Int → Mm → Prop} (hQ : ∀ z0 z1, Q z0 z1 → Q' z0 z1) (hK91 : ∀ z0, K91 z0 → K91' z0) (hR : ∀ z0 z1, R z0 z1 → R' z0 z1) : ∀ (x3 : Int) (M : Mm), bc_X0_leastSum_L44 x1 x2 Q K91 R x3 M → bc_X0_leastSum_L44 x1 x2 Q' K91' R' x3 M := by
  intro x3 M
  unfold bc_X0_leastSum_L44
  exact fun h0 => ⟨(fun q1 => (hK91 _ (h0.1 q1))), (fun q2 => (mo_wp_X3_allow (fun _ _ h3 => ⟨(fun q4 => ⟨(h3.1 q4).1, (h3.1 q4).2.1, (hR _ _ (h3.1 q4).2.2)⟩), (fun q5 => (mo_wp_X0_priceOn (fun _ _ h6 => ⟨h6.1, h6.2.1, h6.2.2.1, (hR _ _ h6.2.2.2)⟩) (h3.2 q5)))⟩) (h0.2 q2)))⟩
theorem mo_wp_X0_leastSum_L44 {x1 : Int} {x2 : Int} {x3 : Int} {M : Mm} {Q Q' : Int → Mm → Prop} {K91 K91' : Mm → Prop} (hQ : ∀ z0 z1, Q z0 z1 → Q' z0 z1) (hK91 : ∀ z0, K91 z0 → K91' z0) : wp_X0_leastSum_L44 x1 x2 Q K91 x3 M → wp_X0_leastSum_L44 x1 x2 Q' K91' x3 M := LP1.mono (fun _ _ hR => mo_bc_X0_leastSum_L44 hQ hK91 hR) _ _
theorem mo_bc_X0_leastSum_L93 {x1 : Int} {x2 : Int} {Q Q' : Int → Mm → Prop} {K123 K123' : Mm → Prop} {R R' : Int → Mm → Prop} (hQ : ∀ z0 z1, Q z0 z1 → Q' z0 z1) (hK123 : ∀ z0, K123 z0 → K123' z0) (hR : ∀ z0 z1, R z0 z1 → R' z0 z1) : ∀ (x3 : Int) (M : Mm), bc_X0_leastSum_L93 x1 x2 Q K123 R x3 M → bc_X0_leastSum_L93 x1 x2 Q' K123' R' x3 M := by
  intro x3 M
  unfold bc_X0_leastSum_L93
  exact fun h0 => ⟨(fun q1 => (hK123 _ (h0.1 q1))), (fun q2 => ⟨(h0.2 q2).1, (mo_wp_X0_leastWithLatestKey (fun _ _ h3 => ⟨h3.1, h3.2.1, h3.2.2.1, h3.2.2.2.1, (hR _ _ h3.2.2.2.2)⟩) (h0.2 q2).2)⟩)⟩
theorem mo_wp_X0_leastSum_L93 {x1 : Int} {x2 : Int} {x3 : Int} {M : Mm} {Q Q' : Int → Mm → Prop} {K123 K123' : Mm → Prop} (hQ : ∀ z0 z1, Q z0 z1 → Q' z0 z1) (hK123 : ∀ z0, K123 z0 → K123' z0) : wp_X0_leastSum_L93 x1 x2 Q K123 x3 M → wp_X0_leastSum_L93 x1 x2 Q' K123' x3 M := LP1.mono (fun _ _ hR => mo_bc_X0_leastSum_L93 hQ hK123 hR) _ _
theorem mo_bc_X0_leastSum_L31 {x1 : Int} {Q Q' : Int → Mm → Prop} {R R' : Int → Mm → Prop} (hQ : ∀ z0 z1, Q z0 z1 → Q' z0 z1) (hR : ∀ z0 z1, R z0 z1 → R' z0 z1) : ∀ (x2 : Int) (M : Mm), bc_X0_leastSum_L31 x1 Q R x2 M → bc_X0_leastSum_L31 x1 Q' R' x2 M := by
  intro x2 M
  unfold bc_X0_leastSum_L31
  exact fun h0 => ⟨(fun q1 => ⟨(h0.1 q1).1, (hQ _ _ (h0.1 q1).2)⟩), (fun q2 => (mo_wp_X0_leastSum_L44 hQ (fun _ h3 => (mo_wp_X0_leastSum_L93 hQ (fun _ h4 => ⟨h4.1, (hR _ _ h4.2)⟩) h3)) (h0.2 q2)))⟩
theorem mo_wp_X0_leastSum_L31 {x1 : Int} {x2 : Int} {M : Mm} {Q Q' : Int → Mm → Prop} (hQ : ∀ z0 z1, Q z0 z1 → Q' z0 z1) : wp_X0_leastSum_L31 x1 Q x2 M → wp_X0_leastSum_L31 x1 Q' x2 M := LP1.mono (fun _ _ hR => mo_bc_X0_leastSum_L31 hQ hR) _ _
theorem mo_wp_X0_leastSum {M : Mm} {Q Q' : Int → Mm → Prop} (hQ : ∀ z0 z1, Q z0 z1 → Q' z0 z1) : wp_X0_leastSum M Q → wp_X0_leastSum M Q' := by
  unfold wp_X0_leastSum
  exact fun h0 => (mo_wp_J7_fill_d0a16_c26 (fun _ h1 => ⟨h1.1, (mo_wp_X0_leastSum_L31 hQ h1.2)⟩) h0)
theorem mo_wp_X7_bound {M : Mm} {Q Q' : Int → Mm → Prop} (hQ : ∀ z0 z1, Q z0 z1 → Q' z0 z1) : wp_X7_bound M Q → wp_X7_bound M Q' := by
  unfold wp_X7_bound
  exact fun h0 => (mo_wp_X7_tooFewKeys (fun _ _ h1 => ⟨(fun q2 => (mo_wp_X0_leastSum (fun _ _ h3 => (hQ _ _ h3)) (h1.1 q2))), (fun q4 => (hQ _ _ (h1.2 q4)))⟩) h0)
theorem mo_bc_X8_priceOf_L23 {x1 : Int} {x2 : Int} {x3 : Int} {x4 : Int} {Q Q' : Int → Mm → Prop} {K74 K74' : Int → Mm → Prop} {R R' : Int → Mm → Prop} (hQ : ∀ z0 z1, Q z0 z1 → Q' z0 z1) (hK74 : ∀ z0 z1, K74 z0 z1 → K74' z0 z1) (hR : ∀ z0 z1, R z0 z1 → R' z0 z1) : ∀ (x5 : Int) (M : Mm), bc_X8_priceOf_L23 x1 x2 x3 x4 Q K74 R x5 M → bc_X8_priceOf_L23 x1 x2 x3 x4 Q' K74' R' x5 M := by
  intro x5 M
  unfold bc_X8_priceOf_L23
  exact fun h0 => ⟨(fun q1 => (hK74 _ _ (h0.1 q1))), (fun q2 => ⟨(h0.2 q2).1, (h0.2 q2).2.1, (fun q3 => (hK74 _ _ ((h0.2 q2).2.2.1 q3))), (fun q4 => ⟨((h0.2 q2).2.2.2 q4).1, ((h0.2 q2).2.2.2 q4).2.1, ((h0.2 q2).2.2.2 q4).2.2.1, (hR _ _ ((h0.2 q2).2.2.2 q4).2.2.2)⟩)⟩)⟩
theorem mo_wp_X8_priceOf_L23 {x1 : Int} {x2 : Int} {x3 : Int} {x4 : Int} {x5 : Int} {M : Mm} {Q Q' : Int → Mm → Prop} {K74 K74' : Int → Mm → Prop} (hQ : ∀ z0 z1, Q z0 z1 → Q' z0 z1) (hK74 : ∀ z0 z1, K74 z0 z1 → K74' z0 z1) : wp_X8_priceOf_L23 x1 x2 x3 x4 Q K74 x5 M → wp_X8_priceOf_L23 x1 x2 x3 x4 Q' K74' x5 M := LP1.mono (fun _ _ hR => mo_bc_X8_priceOf_L23 hQ hK74 hR) _ _
theorem mo_bc_X8_priceOf_L5 {x1 : Int} {x2 : Int} {Q Q' : Int → Mm → Prop} {K102 K102' : Int → Mm → Prop} {R R' : Int → Int → Mm → Prop} (hQ : ∀ z0 z1, Q z0 z1 → Q' z0 z1) (hK102 : ∀ z0 z1, K102 z0 z1 → K102' z0 z1) (hR : ∀ z0 z1 z2, R z0 z1 z2 → R' z0 z1 z2) : ∀ (x3 : Int) (x4 : Int) (M : Mm), bc_X8_priceOf_L5 x1 x2 Q K102 R x3 x4 M → bc_X8_priceOf_L5 x1 x2 Q' K102' R' x3 x4 M := by
  intro x3 x4 M
  unfold bc_X8_priceOf_L5
  exact fun h0 => ⟨(fun q1 => (hK102 _ _ (h0.1 q1))), (fun q2 => ⟨(fun q3 => ⟨((h0.2 q2).1 q3).1, (hR _ _ _ ((h0.2 q2).1 q3).2)⟩), (fun q4 => (mo_wp_X8_priceOf_L23 hQ (fun _ _ h5 => ⟨h5.1, h5.2.1, h5.2.2.1, h5.2.2.2.1, (hR _ _ _ h5.2.2.2.2)⟩) ((h0.2 q2).2 q4)))⟩)⟩
theorem mo_wp_X8_priceOf_L5 {x1 : Int} {x2 : Int} {x3 : Int} {x4 : Int} {M : Mm} {Q Q' : Int → Mm → Prop} {K102 K102' : Int → Mm → Prop} (hQ : ∀ z0 z1, Q z0 z1 → Q' z0 z1) (hK102 : ∀ z0 z1, K102 z0 z1 → K102' z0 z1) : wp_X8_priceOf_L5 x1 x2 Q K102 x3 x4 M → wp_X8_priceOf_L5 x1 x2 Q' K102' x3 x4 M := LP2.mono (fun _ _ hR => mo_bc_X8_priceOf_L5 hQ hK102 hR) _ _ _
theorem mo_bc_X8_priceOf_L127 {x2 : Int} {x3 : Int} {x4 : Int} {x5 : Int} {Q Q' : Int → Mm → Prop} {K173 K173' : Int → Mm → Prop} {R R' : Int → Mm → Prop} (hQ : ∀ z0 z1, Q z0 z1 → Q' z0 z1) (hK173 : ∀ z0 z1, K173 z0 z1 → K173' z0 z1) (hR : ∀ z0 z1, R z0 z1 → R' z0 z1) : ∀ (x6 : Int) (M : Mm), bc_X8_priceOf_L127 x2 x3 x4 x5 Q K173 R x6 M → bc_X8_priceOf_L127 x2 x3 x4 x5 Q' K173' R' x6 M := by
  intro x6 M
  unfold bc_X8_priceOf_L127
  exact fun h0 => ⟨(fun q1 => (hK173 _ _ (h0.1 q1))), (fun q2 => ⟨(h0.2 q2).1, (mo_wp_X8_costOf (fun _ _ h3 => ⟨(fun q4 => (hK173 _ _ (h3.1 q4))), (fun q5 => ⟨(h3.2 q5).1, (h3.2 q5).2.1, (h3.2 q5).2.2.1, (hR _ _ (h3.2 q5).2.2.2)⟩)⟩) (h0.2 q2).2)⟩)⟩
theorem mo_wp_X8_priceOf_L127 {x2 : Int} {x3 : Int} {x4 : Int} {x5 : Int} {x6 : Int} {M : Mm} {Q Q' : Int → Mm → Prop} {K173 K173' : Int → Mm → Prop} (hQ : ∀ z0 z1, Q z0 z1 → Q' z0 z1) (hK173 : ∀ z0 z1, K173 z0 z1 → K173' z0 z1) : wp_X8_priceOf_L127 x2 x3 x4 x5 Q K173 x6 M → wp_X8_priceOf_L127 x2 x3 x4 x5 Q' K173' x6 M := LP1.mono (fun _ _ hR => mo_bc_X8_priceOf_L127 hQ hK173 hR) _ _
theorem mo_bc_X8_priceOf_L108 {x2 : Int} {x3 : Int} {Q Q' : Int → Mm → Prop} {K196 K196' : Mm → Prop} {R R' : Int → Int → Mm → Prop} (hQ : ∀ z0 z1, Q z0 z1 → Q' z0 z1) (hK196 : ∀ z0, K196 z0 → K196' z0) (hR : ∀ z0 z1 z2, R z0 z1 z2 → R' z0 z1 z2) : ∀ (x4 : Int) (x5 : Int) (M : Mm), bc_X8_priceOf_L108 x2 x3 Q K196 R x4 x5 M → bc_X8_priceOf_L108 x2 x3 Q' K196' R' x4 x5 M := by
  intro x4 x5 M
  unfold bc_X8_priceOf_L108
  exact fun h0 => ⟨(fun q1 => (hK196 _ (h0.1 q1))), (fun q2 => ⟨(fun q3 => ⟨((h0.2 q2).1 q3).1, (hR _ _ _ ((h0.2 q2).1 q3).2)⟩), (fun q4 => (mo_wp_X8_priceOf_L127 hQ (fun _ _ h5 => (mo_wp_X8_costOf (fun _ _ h6 => ⟨h6.1, h6.2.1, h6.2.2.1, (hR _ _ _ h6.2.2.2)⟩) h5)) ((h0.2 q2).2 q4)))⟩)⟩
theorem mo_wp_X8_priceOf_L108 {x2 : Int} {x3 : Int} {x4 : Int} {x5 : Int} {M : Mm} {Q Q' : Int → Mm → Prop} {K196 K196' : Mm → Prop} (hQ : ∀ z0 z1, Q z0 z1 → Q' z0 z1) (hK196 : ∀ z0, K196 z0 → K196' z0) : wp_X8_priceOf_L108 x2 x3 Q K196 x4 x5 M → wp_X8_priceOf_L108 x2 x3 Q' K196' x4 x5 M := LP2.mono (fun _ _ hR => mo_bc_X8_priceOf_L108 hQ hK196 hR) _ _ _
theorem mo_bc_X8_priceOf_L202 {x3 : Int} {Q Q' : Int → Mm → Prop} {R R' : Int → Int → Mm → Prop} (hQ : ∀ z0 z1, Q z0 z1 → Q' z0 z1) (hR : ∀ z0 z1 z2, R z0 z1 z2 → R' z0 z1 z2) : ∀ (x5 : Int) (x7 : Int) (M : Mm), bc_X8_priceOf_L202 x3 Q R x5 x7 M → bc_X8_priceOf_L202 x3 Q' R' x5 x7 M := by
  intro x5 x7 M
  unfold bc_X8_priceOf_L202
  exact fun h0 => ⟨(fun q1 => (hQ _ _ (h0.1 q1))), (fun q2 => ⟨(h0.2 q2).1, (h0.2 q2).2.1, (h0.2 q2).2.2.1, (hR _ _ _ (h0.2 q2).2.2.2)⟩)⟩
theorem mo_wp_X8_priceOf_L202 {x3 : Int} {x5 : Int} {x7 : Int} {M : Mm} {Q Q' : Int → Mm → Prop} (hQ : ∀ z0 z1, Q z0 z1 → Q' z0 z1) : wp_X8_priceOf_L202 x3 Q x5 x7 M → wp_X8_priceOf_L202 x3 Q' x5 x7 M := LP2.mono (fun _ _ hR => mo_bc_X8_priceOf_L202 hQ hR) _ _ _
theorem mo_wp_X8_priceOf {x1 : Int} {x2 : Int} {M : Mm} {Q Q' : Int → Mm → Prop} (hQ : ∀ z0 z1, Q z0 z1 → Q' z0 z1) : wp_X8_priceOf x1 x2 M Q → wp_X8_priceOf x1 x2 M Q' := by
  unfold wp_X8_priceOf
  exact fun h0 => (mo_wp_X8_priceOf_L5 hQ (fun _ _ h1 => (mo_wp_X8_priceOf_L108 hQ (fun _ h2 => (mo_wp_X8_priceOf_L202 hQ h2)) h1)) h0)
theorem mo_bc_X8_bound_L35 {x1 : Int} {Q Q' : Int → Mm → Prop} {K78 K78' : Mm → Prop} {R R' : Int → Mm → Prop} (hQ : ∀ z0 z1, Q z0 z1 → Q' z0 z1) (hK78 : ∀ z0, K78 z0 → K78' z0) (hR : ∀ z0 z1, R z0 z1 → R' z0 z1) : ∀ (x3 : Int) (M : Mm), bc_X8_bound_L35 x1 Q K78 R x3 M → bc_X8_bound_L35 x1 Q' K78' R' x3 M := by
  intro x3 M
  unfold bc_X8_bound_L35
  exact fun h0 => ⟨(fun q1 => (hK78 _ (h0.1 q1))), (fun q2 => ⟨(h0.2 q2).1, (h0.2 q2).2.1, (h0.2 q2).2.2.1, (h0.2 q2).2.2.2.1, (h0.2 q2).2.2.2.2.1, (hR _ _ (h0.2 q2).2.2.2.2.2)⟩)⟩
theorem mo_wp_X8_bound_L35 {x1 : Int} {x3 : Int} {M : Mm} {Q Q' : Int → Mm → Prop} {K78 K78' : Mm → Prop} (hQ : ∀ z0 z1, Q z0 z1 → Q' z0 z1) (hK78 : ∀ z0, K78 z0 → K78' z0) : wp_X8_bound_L35 x1 Q K78 x3 M → wp_X8_bound_L35 x1 Q' K78' x3 M := LP1.mono (fun _ _ hR => mo_bc_X8_bound_L35 hQ hK78 hR) _ _
theorem mo_bc_X8_bound_L91 {x1 : Int} {x3 : Int} {Q Q' : Int → Mm → Prop} {K125 K125' : Mm → Prop} {R R' : Int → Mm → Prop} (hQ : ∀ z0 z1, Q z0 z1 → Q' z0 z1) (hK125 : ∀ z0, K125 z0 → K125' z0) (hR : ∀ z0 z1, R z0 z1 → R' z0 z1) : ∀ (x4 : Int) (M : Mm), bc_X8_bound_L91 x1 x3 Q K125 R x4 M → bc_X8_bound_L91 x1 x3 Q' K125' R' x4 M := by
  intro x4 M
  unfold bc_X8_bound_L91
  exact fun h0 => ⟨(fun q1 => (hK125 _ (h0.1 q1))), (fun q2 => (mo_wp_X8_priceOf (fun _ _ h3 => ⟨h3.1, h3.2.1, h3.2.2.1, (hR _ _ h3.2.2.2)⟩) (h0.2 q2)))⟩
theorem mo_wp_X8_bound_L91 {x1 : Int} {x3 : Int} {x4 : Int} {M : Mm} {Q Q' : Int → Mm → Prop} {K125 K125' : Mm → Prop} (hQ : ∀ z0 z1, Q z0 z1 → Q' z0 z1) (hK125 : ∀ z0, K125 z0 → K125' z0) : wp_X8_bound_L91 x1 x3 Q K125 x4 M → wp_X8_bound_L91 x1 x3 Q' K125' x4 M := LP1.mono (fun _ _ hR => mo_bc_X8_bound_L91 hQ hK125 hR) _ _
theorem mo_bc_X8_bound_L80 {x1 : Int} {Q Q' : Int → Mm → Prop} {K131 K131' : Mm → Prop} {R R' : Int → Mm → Prop} (hQ : ∀ z0 z1, Q z0 z1 → Q' z0 z1) (hK131 : ∀ z0, K131 z0 → K131' z0) (hR : ∀ z0 z1, R z0 z1 → R' z0 z1) : ∀ (x3 : Int) (M : Mm), bc_X8_bound_L80 x1 Q K131 R x3 M → bc_X8_bound_L80 x1 Q' K131' R' x3 M := by
  intro x3 M
  unfold bc_X8_bound_L80
  exact fun h0 => ⟨(fun q1 => (hK131 _ (h0.1 q1))), (fun q2 => (mo_wp_X8_bound_L91 hQ (fun _ h3 => ⟨h3.1, (hR _ _ h3.2)⟩) (h0.2 q2)))⟩
theorem mo_wp_X8_bound_L80 {x1 : Int} {x3 : Int} {M : Mm} {Q Q' : Int → Mm → Prop} {K131 K131' : Mm → Prop} (hQ : ∀ z0 z1, Q z0 z1 → Q' z0 z1) (hK131 : ∀ z0, K131 z0 → K131' z0) : wp_X8_bound_L80 x1 Q K131 x3 M → wp_X8_bound_L80 x1 Q' K131' x3 M := LP1.mono (fun _ _ hR => mo_bc_X8_bound_L80 hQ hK131 hR) _ _
theorem mo_bc_X8_bound_L202 {x1 : Int} {x3 : Int} {x4 : Int} {Q Q' : Int → Mm → Prop} {K333 K333' : Mm → Prop} {R R' : Int → Mm → Prop} (hQ : ∀ z0 z1, Q z0 z1 → Q' z0 z1) (hK333 : ∀ z0, K333 z0 → K333' z0) (hR : ∀ z0 z1, R z0 z1 → R' z0 z1) : ∀ (x5 : Int) (M : Mm), bc_X8_bound_L202 x1 x3 x4 Q K333 R x5 M → bc_X8_bound_L202 x1 x3 x4 Q' K333' R' x5 M := by
  intro x5 M
  unfold bc_X8_bound_L202
  exact fun h0 => ⟨(fun q1 => (hK333 _ (h0.1 q1))), (fun q2 => ⟨(fun q3 => (hK333 _ ((h0.2 q2).1 q3))), (fun q4 => ⟨((h0.2 q2).2 q4).1, (fun q5 => (hK333 _ (((h0.2 q2).2 q4).2.1 q5))), (fun q6 => ⟨(fun q7 => ⟨((((h0.2 q2).2 q4).2.2 q6).1 q7).1, (hR _ _ ((((h0.2 q2).2 q4).2.2 q6).1 q7).2)⟩), (fun q8 => (mo_wp_X8_mayBear_c41 (fun _ _ h9 => ⟨(fun q10 => ⟨(h9.1 q10).1, (hR _ _ (h9.1 q10).2)⟩), (fun q11 => ⟨(h9.2 q11).1, (h9.2 q11).2.1, (h9.2 q11).2.2.1, (fun q12 => ⟨((h9.2 q11).2.2.2.1 q12).1, ((h9.2 q11).2.2.2.1 q12).2.1, ((h9.2 q11).2.2.2.1 q12).2.2.1, (hR _ _ ((h9.2 q11).2.2.2.1 q12).2.2.2)⟩), (fun q13 => ⟨((h9.2 q11).2.2.2.2 q13).1, ((h9.2 q11).2.2.2.2 q13).2.1, (fun q14 => ⟨(((h9.2 q11).2.2.2.2 q13).2.2.1 q14).1, (((h9.2 q11).2.2.2.2 q13).2.2.1 q14).2.1, (((h9.2 q11).2.2.2.2 q13).2.2.1 q14).2.2.1, (hR _ _ (((h9.2 q11).2.2.2.2 q13).2.2.1 q14).2.2.2)⟩), (fun q15 => ⟨(((h9.2 q11).2.2.2.2 q13).2.2.2 q15).1, (((h9.2 q11).2.2.2.2 q13).2.2.2 q15).2.1, (((h9.2 q11).2.2.2.2 q13).2.2.2 q15).2.2.1, (hR _ _ (((h9.2 q11).2.2.2.2 q13).2.2.2 q15).2.2.2)⟩)⟩)⟩)⟩) ((((h0.2 q2).2 q4).2.2 q6).2 q8)))⟩)⟩)⟩)⟩
theorem mo_wp_X8_bound_L202 {x1 : Int} {x3 : Int} {x4 : Int} {x5 : Int} {M : Mm} {Q Q' : Int → Mm → Prop} {K333 K333' : Mm → Prop} (hQ : ∀ z0 z1, Q z0 z1 → Q' z0 z1) (hK333 : ∀ z0, K333 z0 → K333' z0) : wp_X8_bound_L202 x1 x3 x4 Q K333 x5 M → wp_X8_bound_L202 x1 x3 x4 Q' K333' x5 M := LP1.mono (fun _ _ hR => mo_bc_X8_bound_L202 hQ hK333 hR) _ _
theorem mo_bc_X8_bound_L133 {Q Q' : Int → Mm → Prop} {R R' : Int → Int → Mm → Prop} (hQ : ∀ z0 z1, Q z0 z1 → Q' z0 z1) (hR : ∀ z0 z1 z2, R z0 z1 z2 → R' z0 z1 z2) : ∀ (x1 : Int) (x3 : Int) (M : Mm), bc_X8_bound_L133 Q R x1 x3 M → bc_X8_bound_L133 Q' R' x1 x3 M := by
  intro x1 x3 M
  unfold bc_X8_bound_L133
  exact fun h0 => ⟨(fun q1 => (hQ _ _ (h0.1 q1))), (fun q2 => ⟨(h0.2 q2).1, (h0.2 q2).2.1, (fun q3 => (mo_wp_X8_bound_L202 hQ (fun _ h4 => ⟨h4.1, (hR _ _ _ h4.2)⟩) ((h0.2 q2).2.2.1 q3))), (fun q5 => ⟨(fun q6 => (mo_wp_X8_bound_L202 hQ (fun _ h7 => ⟨h7.1, (hR _ _ _ h7.2)⟩) (((h0.2 q2).2.2.2 q5).1 q6))), (fun q8 => ⟨(((h0.2 q2).2.2.2 q5).2 q8).1, (fun q9 => ⟨((((h0.2 q2).2.2.2 q5).2 q8).2.1 q9).1, (mo_wp_X8_bound_L202 hQ (fun _ h10 => ⟨h10.1, (hR _ _ _ h10.2)⟩) ((((h0.2 q2).2.2.2 q5).2 q8).2.1 q9).2)⟩), (fun q11 => ⟨((((h0.2 q2).2.2.2 q5).2 q8).2.2 q11).1, ((((h0.2 q2).2.2.2 q5).2 q8).2.2 q11).2.1, (fun q12 => (mo_wp_X8_bound_L202 hQ (fun _ h13 => ⟨h13.1, (hR _ _ _ h13.2)⟩) (((((h0.2 q2).2.2.2 q5).2 q8).2.2 q11).2.2.1 q12))), (fun q14 => ⟨(((((h0.2 q2).2.2.2 q5).2 q8).2.2 q11).2.2.2 q14).1, (mo_wp_X8_bound_L202 hQ (fun _ h15 => ⟨h15.1, (hR _ _ _ h15.2)⟩) (((((h0.2 q2).2.2.2 q5).2 q8).2.2 q11).2.2.2 q14).2)⟩)⟩)⟩)⟩)⟩)⟩
theorem mo_wp_X8_bound_L133 {x1 : Int} {x3 : Int} {M : Mm} {Q Q' : Int → Mm → Prop} (hQ : ∀ z0 z1, Q z0 z1 → Q' z0 z1) : wp_X8_bound_L133 Q x1 x3 M → wp_X8_bound_L133 Q' x1 x3 M := LP2.mono (fun _ _ hR => mo_bc_X8_bound_L133 hQ hR) _ _ _
theorem mo_wp_X8_bound {M : Mm} {Q Q' : Int → Mm → Prop} (hQ : ∀ z0 z1, Q z0 z1 → Q' z0 z1) : wp_X8_bound M Q → wp_X8_bound M Q' := by
  unfold wp_X8_bound
  exact fun h0 => ⟨(fun q1 => (mo_wp_X8_bound_L35 hQ (fun _ h2 => (mo_wp_X8_bound_L80 hQ (fun _ h3 => (mo_wp_X8_bound_L133 hQ h3)) h2)) (h0.1 q1))), (fun q4 => (hQ _ _ (h0.2 q4)))⟩
theorem mo_wp_X7_price {x1 : Int} {x2 : Int} {M : Mm} {Q Q' : Int → Mm → Prop} (hQ : ∀ z0 z1, Q z0 z1 → Q' z0 z1) : wp_X7_price x1 x2 M Q → wp_X7_price x1 x2 M Q' := by
  unfold wp_X7_price
  exact fun h0 => (mo_wp_X3_has (fun _ _ h1 => ⟨(fun q2 => (hQ _ _ (h1.1 q2))), (fun q3 => (mo_wp_X2_has (fun _ _ h4 => ⟨(fun q5 => (mo_wp_X7_tooFewKeys (fun _ _ h6 => ⟨(fun q7 => (mo_wp_X0_priceOn (fun _ _ h8 => (hQ _ _ h8)) (h6.1 q7))), (fun q9 => (hQ _ _ (h6.2 q9)))⟩) (h4.1 q5))), (fun q10 => (hQ _ _ (h4.2 q10)))⟩) (h1.2 q3)))⟩) h0)
theorem mo_wp_X8_price {x1 : Int} {x2 : Int} {M : Mm} {Q Q' : Int → Mm → Prop} (hQ : ∀ z0 z1, Q z0 z1 → Q' z0 z1) : wp_X8_price x1 x2 M Q → wp_X8_price x1 x2 M Q' := by
  unfold wp_X8_price
  exact fun h0 => (mo_wp_X8_isLetter (fun _ _ h1 => ⟨(fun q2 => (hQ _ _ (h1.1 q2))), (fun q3 => (mo_wp_X8_isKey (fun _ _ h4 => ⟨(fun q5 => ⟨(fun q6 => (mo_wp_X8_priceOf (fun _ _ h7 => (hQ _ _ h7)) ((h4.1 q5).1 q6))), (fun q8 => (hQ _ _ ((h4.1 q5).2 q8)))⟩), (fun q9 => (hQ _ _ (h4.2 q9)))⟩) (h1.2 q3)))⟩) h0)
theorem mo_bc_J7_fill_53178_c28_L5 {x1 : Int} {x3 : Int} {Q Q' : Mm → Prop} {R R' : Int → Mm → Prop} (hQ : ∀ z0, Q z0 → Q' z0) (hR : ∀ z0 z1, R z0 z1 → R' z0 z1) : ∀ (x2 : Int) (M : Mm), bc_J7_fill_53178_c28_L5 x1 x3 Q R x2 M → bc_J7_fill_53178_c28_L5 x1 x3 Q' R' x2 M := by
  intro x2 M
  unfold bc_J7_fill_53178_c28_L5
  exact fun h0 => ⟨(fun q1 => (hQ _ (h0.1 q1))), (fun q2 => ⟨(h0.2 q2).1, (h0.2 q2).2.1, (hR _ _ (h0.2 q2).2.2)⟩)⟩
theorem mo_wp_J7_fill_53178_c28_L5 {x1 : Int} {x3 : Int} {x2 : Int} {M : Mm} {Q Q' : Mm → Prop} (hQ : ∀ z0, Q z0 → Q' z0) : wp_J7_fill_53178_c28_L5 x1 x3 Q x2 M → wp_J7_fill_53178_c28_L5 x1 x3 Q' x2 M := LP1.mono (fun _ _ hR => mo_bc_J7_fill_53178_c28_L5 hQ hR) _ _
theorem mo_wp_J7_fill_53178_c28 {x1 : Int} {M : Mm} {Q Q' : Mm → Prop} (hQ : ∀ z0, Q z0 → Q' z0) : wp_J7_fill_53178_c28 x1 M Q → wp_J7_fill_53178_c28 x1 M Q' := by
  unfold wp_J7_fill_53178_c28
  exact fun h0 => (mo_wp_J7_fill_53178_c28_L5 hQ h0)
theorem mo_wp_X6_sameGoings {x1 : Int} {x2 : Int} {x3 : Int} {x4 : Int} {M : Mm} {Q Q' : Int → Mm → Prop} (hQ : ∀ z0 z1, Q z0 z1 → Q' z0 z1) : wp_X6_sameGoings x1 x2 x3 x4 M Q → wp_X6_sameGoings x1 x2 x3 x4 M Q' := by
  unfold wp_X6_sameGoings
  exact fun h0 => ⟨h0.1, h0.2.1, h0.2.2.1, h0.2.2.2.1, (fun q1 => (hQ _ _ (h0.2.2.2.2.1 q1))), (fun q2 => ⟨(h0.2.2.2.2.2 q2).1, (h0.2.2.2.2.2 q2).2.1, (h0.2.2.2.2.2 q2).2.2.1, (h0.2.2.2.2.2 q2).2.2.2.1, (fun q3 => (hQ _ _ ((h0.2.2.2.2.2 q2).2.2.2.2.1 q3))), (fun q4 => (hQ _ _ ((h0.2.2.2.2.2 q2).2.2.2.2.2 q4)))⟩)⟩
theorem mo_bc_X6_mayGo_L104 {x1 : Int} {x2 : Int} {Q Q' : Int → Mm → Prop} {R R' : Int → Mm → Prop} (hQ : ∀ z0 z1, Q z0 z1 → Q' z0 z1) (hR : ∀ z0 z1, R z0 z1 → R' z0 z1) : ∀ (x3 : Int) (M : Mm), bc_X6_mayGo_L104 x1 x2 Q R x3 M → bc_X6_mayGo_L104 x1 x2 Q' R' x3 M := by
  intro x3 M
  unfold bc_X6_mayGo_L104
  exact fun h0 => ⟨(fun q1 => (hQ _ _ (h0.1 q1))), (fun q2 => ⟨(h0.2 q2).1, (mo_wp_X6_sameGoings (fun _ _ h3 => ⟨(fun q4 => ⟨(h3.1 q4).1, (hR _ _ (h3.1 q4).2)⟩), (fun q5 => (hQ _ _ (h3.2 q5)))⟩) (h0.2 q2).2)⟩)⟩
theorem mo_wp_X6_mayGo_L104 {x1 : Int} {x2 : Int} {x3 : Int} {M : Mm} {Q Q' : Int → Mm → Prop} (hQ : ∀ z0 z1, Q z0 z1 → Q' z0 z1) : wp_X6_mayGo_L104 x1 x2 Q x3 M → wp_X6_mayGo_L104 x1 x2 Q' x3 M := LP1.mono (fun _ _ hR => mo_bc_X6_mayGo_L104 hQ hR) _ _
theorem mo_wp_X6_mayGo {x1 : Int} {x2 : Int} {M : Mm} {Q Q' : Int → Mm → Prop} (hQ : ∀ z0 z1, Q z0 z1 → Q' z0 z1) : wp_X6_mayGo x1 x2 M Q → wp_X6_mayGo x1 x2 M Q' := by
  unfold wp_X6_mayGo
  exact fun h0 => ⟨h0.1, (fun q1 => (hQ _ _ (h0.2.1 q1))), (fun q2 => ⟨(h0.2.2 q2).1, (fun q3 => ⟨((h0.2.2 q2).2.1 q3).1, ((h0.2.2 q2).2.1 q3).2.1, (fun q4 => (hQ _ _ (((h0.2.2 q2).2.1 q3).2.2.1 q4))), (fun q5 => ⟨(((h0.2.2 q2).2.1 q3).2.2.2 q5).1, (((h0.2.2 q2).2.1 q3).2.2.2 q5).2.1, (fun q6 => ⟨((((h0.2.2 q2).2.1 q3).2.2.2 q5).2.2.1 q6).1, ((((h0.2.2 q2).2.1 q3).2.2.2 q5).2.2.1 q6).2.1, ((((h0.2.2 q2).2.1 q3).2.2.2 q5).2.2.1 q6).2.2.1, ((((h0.2.2 q2).2.1 q3).2.2.2 q5).2.2.1 q6).2.2.2.1, (fun q7 => (mo_wp_X6_mayGo_L104 hQ (((((h0.2.2 q2).2.1 q3).2.2.2 q5).2.2.1 q6).2.2.2.2.1 q7))), (fun q8 => (hQ _ _ (((((h0.2.2 q2).2.1 q3).2.2.2 q5).2.2.1 q6).2.2.2.2.2 q8)))⟩), (fun q9 => (hQ _ _ ((((h0.2.2 q2).2.1 q3).2.2.2 q5).2.2.2 q9)))⟩)⟩), (fun q10 => ⟨((h0.2.2 q2).2.2 q10).1, (fun q11 => ⟨(((h0.2.2 q2).2.2 q10).2.1 q11).1, (((h0.2.2 q2).2.2 q10).2.1 q11).2.1, (fun q12 => (hQ _ _ ((((h0.2.2 q2).2.2 q10).2.1 q11).2.2.1 q12))), (fun q13 => ⟨((((h0.2.2 q2).2.2 q10).2.1 q11).2.2.2 q13).1, ((((h0.2.2 q2).2.2 q10).2.1 q11).2.2.2 q13).2.1, (fun q14 => ⟨(((((h0.2.2 q2).2.2 q10).2.1 q11).2.2.2 q13).2.2.1 q14).1, (((((h0.2.2 q2).2.2 q10).2.1 q11).2.2.2 q13).2.2.1 q14).2.1, (((((h0.2.2 q2).2.2 q10).2.1 q11).2.2.2 q13).2.2.1 q14).2.2.1, (((((h0.2.2 q2).2.2 q10).2.1 q11).2.2.2 q13).2.2.1 q14).2.2.2.1, (fun q15 => (mo_wp_X6_mayGo_L104 hQ ((((((h0.2.2 q2).2.2 q10).2.1 q11).2.2.2 q13).2.2.1 q14).2.2.2.2.1 q15))), (fun q16 => (hQ _ _ ((((((h0.2.2 q2).2.2 q10).2.1 q11).2.2.2 q13).2.2.1 q14).2.2.2.2.2 q16)))⟩), (fun q17 => (hQ _ _ (((((h0.2.2 q2).2.2 q10).2.1 q11).2.2.2 q13).2.2.2 q17)))⟩)⟩), (fun q18 => (hQ _ _ (((h0.2.2 q2).2.2 q10).2.2 q18)))⟩)⟩)⟩
theorem mo_wp_X6_turnsWith {x1 : Int} {x2 : Int} {M : Mm} {Q Q' : Int → Mm → Prop} {PF : Int → Mm → (Int → Mm → Prop) → Prop} (hPF : ∀ (x : Int) (M : Mm) (Q Q' : Int → Mm → Prop), (∀ z M, Q z M → Q' z M) → PF x M Q → PF x M Q') (hQ : ∀ z0 z1, Q z0 z1 → Q' z0 z1) : wp_X6_turnsWith PF x1 x2 M Q → wp_X6_turnsWith PF x1 x2 M Q' := by
  unfold wp_X6_turnsWith
  exact fun h0 => ⟨h0.1, h0.2.1, h0.2.2.1, (hPF _ _ _ _ (fun _ _ h1 => ⟨h1.1, (hQ _ _ h1.2)⟩) h0.2.2.2)⟩
theorem mo_bc_X6_turnsFrom_L23 {x1 : Int} {Q Q' : Int → Mm → Prop} {R R' : Int → Int → Mm → Prop} {PF : Int → Mm → (Int → Mm → Prop) → Prop} (hPF : ∀ (x : Int) (M : Mm) (Q Q' : Int → Mm → Prop), (∀ z M, Q z M → Q' z M) → PF x M Q → PF x M Q') (hQ : ∀ z0 z1, Q z0 z1 → Q' z0 z1) (hR : ∀ z0 z1 z2, R z0 z1 z2 → R' z0 z1 z2) : ∀ (x2 : Int) (x3 : Int) (M : Mm), bc_X6_turnsFrom_L23 PF x1 Q R x2 x3 M → bc_X6_turnsFrom_L23 PF x1 Q' R' x2 x3 M := by
  intro x2 x3 M
  unfold bc_X6_turnsFrom_L23
  exact fun h0 => ⟨(fun q1 => (hQ _ _ (h0.1 q1))), (fun q2 => ⟨(fun q3 => (hQ _ _ ((h0.2 q2).1 q3))), (fun q4 => (mo_wp_X6_mayGo (fun _ _ h5 => ⟨(fun q6 => ⟨(h5.1 q6).1, (hR _ _ _ (h5.1 q6).2)⟩), (fun q7 => (mo_wp_X6_turnsWith hPF (fun _ _ h8 => ⟨h8.1, h8.2.1, (hR _ _ _ h8.2.2)⟩) (h5.2 q7)))⟩) ((h0.2 q2).2 q4)))⟩)⟩
theorem mo_wp_X6_turnsFrom_L23 {x1 : Int} {x2 : Int} {x3 : Int} {M : Mm} {Q Q' : Int → Mm → Prop} {PF : Int → Mm → (Int → Mm → Prop) → Prop} (hPF : ∀ (x : Int) (M : Mm) (Q Q' : Int → Mm → Prop), (∀ z M, Q z M → Q' z M) → PF x M Q → PF x M Q') (hQ : ∀ z0 z1, Q z0 z1 → Q' z0 z1) : wp_X6_turnsFrom_L23 PF x1 Q x2 x3 M → wp_X6_turnsFrom_L23 PF x1 Q' x2 x3 M := LP2.mono (fun _ _ hR => mo_bc_X6_turnsFrom_L23 hPF hQ hR) _ _ _
theorem mo_wb_X6_turnsFrom {x1 : Int} {M : Mm} {Q Q' : Int → Mm → Prop} {PF : Int → Mm → (Int → Mm → Prop) → Prop} (hPF : ∀ (x : Int) (M : Mm) (Q Q' : Int → Mm → Prop), (∀ z M, Q z M → Q' z M) → PF x M Q → PF x M Q') (hQ : ∀ z0 z1, Q z0 z1 → Q' z0 z1) : wb_X6_turnsFrom PF x1 M Q → wb_X6_turnsFrom PF x1 M Q' := by
  unfold wb_X6_turnsFrom
  exact fun h0 => ⟨(fun q1 => (hQ _ _ (h0.1 q1))), (fun q2 => ⟨(fun q3 => (mo_wp_X6_turnsFrom_L23 hPF hQ ((h0.2 q2).1 q3))), (fun q4 => (hQ _ _ ((h0.2 q2).2 q4)))⟩)⟩
theorem mo_wp_X6_turnsFrom (d : Nat) : ∀ (x : Int) (M : Mm) (Q Q' : Int → Mm → Prop), (∀ z M, Q z M → Q' z M) → wp_X6_turnsFrom d x M Q → wp_X6_turnsFrom d x M Q' := by
  induction d with
  | zero => intro x M Q Q' _ h; exact h
  | succ d ih => intro x M Q Q' hQ; exact mo_wb_X6_turnsFrom ih hQ
theorem mo_wp_X6_countTurns {M : Mm} {Q Q' : Int → Mm → Prop} (hQ : ∀ z0 z1, Q z0 z1 → Q' z0 z1) : wp_X6_countTurns M Q → wp_X6_countTurns M Q' := by
  unfold wp_X6_countTurns
  exact fun h0 => (mo_wp_J7_fill_53178_c28 (fun _ h1 => (mo_wp_X6_turnsFrom _ _ _ _ _ (fun _ _ h2 => (hQ _ _ h2)) h1)) h0)
theorem mo_wp_X7_turns {M : Mm} {Q Q' : Int → Mm → Prop} (hQ : ∀ z0 z1, Q z0 z1 → Q' z0 z1) : wp_X7_turns M Q → wp_X7_turns M Q' := by
  unfold wp_X7_turns
  exact fun h0 => ⟨(fun q1 => (hQ _ _ (h0.1 q1))), (fun q2 => ⟨(fun q3 => (mo_wp_X6_countTurns (fun _ _ h4 => (hQ _ _ h4)) ((h0.2 q2).1 q3))), (fun q5 => (hQ _ _ ((h0.2 q2).2 q5)))⟩)⟩
theorem mo_bc_X8_isTurned_L41 {x1 : Int} {x2 : Int} {Q Q' : Int → Mm → Prop} {R R' : Int → Mm → Prop} (hQ : ∀ z0 z1, Q z0 z1 → Q' z0 z1) (hR : ∀ z0 z1, R z0 z1 → R' z0 z1) : ∀ (x3 : Int) (M : Mm), bc_X8_isTurned_L41 x1 x2 Q R x3 M → bc_X8_isTurned_L41 x1 x2 Q' R' x3 M := by
  intro x3 M
  unfold bc_X8_isTurned_L41
  exact fun h0 => ⟨(fun q1 => (hQ _ _ (h0.1 q1))), (fun q2 => ⟨(fun q3 => ⟨((h0.2 q2).1 q3).1, ((h0.2 q2).1 q3).2.1, ((h0.2 q2).1 q3).2.2.1, (fun q4 => (hQ _ _ (((h0.2 q2).1 q3).2.2.2.1 q4))), (fun q5 => ⟨(((h0.2 q2).1 q3).2.2.2.2 q5).1, (((h0.2 q2).1 q3).2.2.2.2 q5).2.1, (((h0.2 q2).1 q3).2.2.2.2 q5).2.2.1, (fun q6 => ⟨((((h0.2 q2).1 q3).2.2.2.2 q5).2.2.2.1 q6).1, (hR _ _ ((((h0.2 q2).1 q3).2.2.2.2 q5).2.2.2.1 q6).2)⟩), (fun q7 => (hQ _ _ ((((h0.2 q2).1 q3).2.2.2.2 q5).2.2.2.2 q7)))⟩)⟩), (fun q8 => ⟨((h0.2 q2).2 q8).1, (fun q9 => (hQ _ _ (((h0.2 q2).2 q8).2.1 q9))), (fun q10 => ⟨(((h0.2 q2).2 q8).2.2 q10).1, (((h0.2 q2).2 q8).2.2 q10).2.1, (((h0.2 q2).2 q8).2.2 q10).2.2.1, (fun q11 => (hQ _ _ ((((h0.2 q2).2 q8).2.2 q10).2.2.2.1 q11))), (fun q12 => ⟨((((h0.2 q2).2 q8).2.2 q10).2.2.2.2 q12).1, ((((h0.2 q2).2 q8).2.2 q10).2.2.2.2 q12).2.1, ((((h0.2 q2).2 q8).2.2 q10).2.2.2.2 q12).2.2.1, (fun q13 => ⟨(((((h0.2 q2).2 q8).2.2 q10).2.2.2.2 q12).2.2.2.1 q13).1, (hR _ _ (((((h0.2 q2).2 q8).2.2 q10).2.2.2.2 q12).2.2.2.1 q13).2)⟩), (fun q14 => (hQ _ _ (((((h0.2 q2).2 q8).2.2 q10).2.2.2.2 q12).2.2.2.2 q14)))⟩)⟩)⟩)⟩)⟩
theorem mo_wp_X8_isTurned_L41 {x1 : Int} {x2 : Int} {x3 : Int} {M : Mm} {Q Q' : Int → Mm → Prop} (hQ : ∀ z0 z1, Q z0 z1 → Q' z0 z1) : wp_X8_isTurned_L41 x1 x2 Q x3 M → wp_X8_isTurned_L41 x1 x2 Q' x3 M := LP1.mono (fun _ _ hR => mo_bc_X8_isTurned_L41 hQ hR) _ _
theorem mo_wp_X8_isTurned {x1 : Int} {M : Mm} {Q Q' : Int → Mm → Prop} (hQ : ∀ z0 z1, Q z0 z1 → Q' z0 z1) : wp_X8_isTurned x1 M Q → wp_X8_isTurned x1 M Q' := by
  unfold wp_X8_isTurned
  exact fun h0 => ⟨h0.1, h0.2.1, h0.2.2.1, (fun q1 => (hQ _ _ (h0.2.2.2.1 q1))), (fun q2 => ⟨(h0.2.2.2.2 q2).1, (h0.2.2.2.2 q2).2.1, (fun q3 => (mo_wp_X8_isTurned_L41 hQ ((h0.2.2.2.2 q2).2.2.1 q3))), (fun q4 => (hQ _ _ ((h0.2.2.2.2 q2).2.2.2 q4)))⟩)⟩
theorem mo_bc_X8_leads_L2 {Q Q' : Int → Mm → Prop} {R R' : Int → Mm → Prop} (hQ : ∀ z0 z1, Q z0 z1 → Q' z0 z1) (hR : ∀ z0 z1, R z0 z1 → R' z0 z1) : ∀ (x1 : Int) (M : Mm), bc_X8_leads_L2 Q R x1 M → bc_X8_leads_L2 Q' R' x1 M := by
  intro x1 M
  unfold bc_X8_leads_L2
  exact fun h0 => ⟨(fun q1 => (hQ _ _ (h0.1 q1))), (fun q2 => ⟨(h0.2 q2).1, (h0.2 q2).2.1, (h0.2 q2).2.2.1, (fun q3 => ⟨((h0.2 q2).2.2.2.1 q3).1, (hR _ _ ((h0.2 q2).2.2.2.1 q3).2)⟩), (fun q4 => (hQ _ _ ((h0.2 q2).2.2.2.2 q4)))⟩)⟩
theorem mo_wp_X8_leads_L2 {x1 : Int} {M : Mm} {Q Q' : Int → Mm → Prop} (hQ : ∀ z0 z1, Q z0 z1 → Q' z0 z1) : wp_X8_leads_L2 Q x1 M → wp_X8_leads_L2 Q' x1 M := LP1.mono (fun _ _ hR => mo_bc_X8_leads_L2 hQ hR) _ _
theorem mo_wp_X8_leads {M : Mm} {Q Q' : Int → Mm → Prop} (hQ : ∀ z0 z1, Q z0 z1 → Q' z0 z1) : wp_X8_leads M Q → wp_X8_leads M Q' := by
  unfold wp_X8_leads
  exact fun h0 => (mo_wp_X8_leads_L2 hQ h0)
theorem mo_bc_X8_turned_L11 {x1 : Int} {Q Q' : Int → Mm → Prop} {R R' : Int → Int → Mm → Prop} (hQ : ∀ z0 z1, Q z0 z1 → Q' z0 z1) (hR : ∀ z0 z1 z2, R z0 z1 z2 → R' z0 z1 z2) : ∀ (x2 : Int) (x3 : Int) (M : Mm), bc_X8_turned_L11 x1 Q R x2 x3 M → bc_X8_turned_L11 x1 Q' R' x2 x3 M := by
  intro x2 x3 M
  unfold bc_X8_turned_L11
  exact fun h0 => ⟨(fun q1 => (hQ _ _ (h0.1 q1))), (fun q2 => ⟨(h0.2 q2).1, (h0.2 q2).2.1, (h0.2 q2).2.2.1, (h0.2 q2).2.2.2.1, (fun q3 => (mo_wp_X8_isTurned (fun _ _ h4 => ⟨(fun q5 => (hR _ _ _ (h4.1 q5))), (fun q6 => ⟨(h4.2 q6).1, (fun q7 => ⟨((h4.2 q6).2.1 q7).1, ((h4.2 q6).2.1 q7).2.1, (hR _ _ _ ((h4.2 q6).2.1 q7).2.2)⟩), (fun q8 => ⟨(fun q9 => ⟨(((h4.2 q6).2.2 q8).1 q9).1, (hR _ _ _ (((h4.2 q6).2.2 q8).1 q9).2)⟩), (fun q10 => (mo_wp_X8_leads (fun _ _ h11 => ⟨(fun q12 => ⟨(h11.1 q12).1, (hR _ _ _ (h11.1 q12).2)⟩), (fun q13 => ⟨(h11.2 q13).1, (hR _ _ _ (h11.2 q13).2)⟩)⟩) (((h4.2 q6).2.2 q8).2 q10)))⟩)⟩)⟩) ((h0.2 q2).2.2.2.2.1 q3))), (fun q14 => ⟨((h0.2 q2).2.2.2.2.2 q14).1, (hR _ _ _ ((h0.2 q2).2.2.2.2.2 q14).2)⟩)⟩)⟩
theorem mo_wp_X8_turned_L11 {x1 : Int} {x2 : Int} {x3 : Int} {M : Mm} {Q Q' : Int → Mm → Prop} (hQ : ∀ z0 z1, Q z0 z1 → Q' z0 z1) : wp_X8_turned_L11 x1 Q x2 x3 M → wp_X8_turned_L11 x1 Q' x2 x3 M := LP2.mono (fun _ _ hR => mo_bc_X8_turned_L11 hQ hR) _ _ _
theorem mo_wp_X8_turned {x1 : Int} {M : Mm} {Q Q' : Int → Mm → Prop} (hQ : ∀ z0 z1, Q z0 z1 → Q' z0 z1) : wp_X8_turned x1 M Q → wp_X8_turned x1 M Q' := by
  unfold wp_X8_turned
  exact fun h0 => (mo_wp_X8_turned_L11 hQ h0)
theorem mo_wp_X8_turns {M : Mm} {Q Q' : Int → Mm → Prop} (hQ : ∀ z0 z1, Q z0 z1 → Q' z0 z1) : wp_X8_turns M Q → wp_X8_turns M Q' := by
  unfold wp_X8_turns
  exact fun h0 => ⟨(fun q1 => (hQ _ _ (h0.1 q1))), (fun q2 => ⟨(fun q3 => (mo_wp_X8_turned (fun _ _ h4 => (hQ _ _ h4)) ((h0.2 q2).1 q3))), (fun q5 => (hQ _ _ ((h0.2 q2).2 q5)))⟩)⟩
theorem mo_bc_X6_leads_c19_c22_L11 {x3 : Int} {Q Q' : Int → Mm → Prop} {R R' : Int → Mm → Prop} (hQ : ∀ z0 z1, Q z0 z1 → Q' z0 z1) (hR : ∀ z0 z1, R z0 z1 → R' z0 z1) : ∀ (x4 : Int) (M : Mm), bc_X6_leads_c19_c22_L11 x3 Q R x4 M → bc_X6_leads_c19_c22_L11 x3 Q' R' x4 M := by
  intro x4 M
  unfold bc_X6_leads_c19_c22_L11
  exact fun h0 => ⟨(fun q1 => (mo_wp_X6_turnsFrom _ _ _ _ _ (fun _ _ h2 => ⟨(fun q3 => (hQ _ _ (h2.1 q3))), (fun q4 => (hQ _ _ (h2.2 q4)))⟩) (h0.1 q1))), (fun q5 => ⟨(h0.2 q5).1, (h0.2 q5).2.1, (h0.2 q5).2.2.1, (h0.2 q5).2.2.2.1, (hR _ _ (h0.2 q5).2.2.2.2)⟩)⟩
theorem mo_wp_X6_leads_c19_c22_L11 {x3 : Int} {x4 : Int} {M : Mm} {Q Q' : Int → Mm → Prop} (hQ : ∀ z0 z1, Q z0 z1 → Q' z0 z1) : wp_X6_leads_c19_c22_L11 x3 Q x4 M → wp_X6_leads_c19_c22_L11 x3 Q' x4 M := LP1.mono (fun _ _ hR => mo_bc_X6_leads_c19_c22_L11 hQ hR) _ _
theorem mo_wp_X6_leads_c19_c22 {x3 : Int} {M : Mm} {Q Q' : Int → Mm → Prop} (hQ : ∀ z0 z1, Q z0 z1 → Q' z0 z1) : wp_X6_leads_c19_c22 x3 M Q → wp_X6_leads_c19_c22 x3 M Q' := by
  unfold wp_X6_leads_c19_c22
  exact fun h0 => (mo_wp_J7_fill_53178_c28 (fun _ h1 => (mo_wp_X6_leads_c19_c22_L11 hQ h1)) h0)
theorem mo_wp_X7_alike {M : Mm} {Q Q' : Int → Mm → Prop} (hQ : ∀ z0 z1, Q z0 z1 → Q' z0 z1) : wp_X7_alike M Q → wp_X7_alike M Q' := by
  unfold wp_X7_alike
  exact fun h0 => ⟨(fun q1 => (hQ _ _ (h0.1 q1))), (fun q2 => ⟨(fun q3 => (hQ _ _ ((h0.2 q2).1 q3))), (fun q4 => ⟨(fun q5 => (mo_wp_X6_leads_c19_c22 (fun _ _ h6 => ⟨(fun q7 => (hQ _ _ (h6.1 q7))), (fun q8 => (hQ _ _ (h6.2 q8)))⟩) (((h0.2 q2).2 q4).1 q5))), (fun q9 => (hQ _ _ (((h0.2 q2).2 q4).2 q9)))⟩)⟩)⟩
theorem mo_wp_X8_alike {M : Mm} {Q Q' : Int → Mm → Prop} (hQ : ∀ z0 z1, Q z0 z1 → Q' z0 z1) : wp_X8_alike M Q → wp_X8_alike M Q' := by
  unfold wp_X8_alike
  exact fun h0 => ⟨(fun q1 => (hQ _ _ (h0.1 q1))), (fun q2 => ⟨(fun q3 => (hQ _ _ ((h0.2 q2).1 q3))), (fun q4 => ⟨(fun q5 => (mo_wp_X8_turned (fun _ _ h6 => ⟨(fun q7 => (hQ _ _ (h6.1 q7))), (fun q8 => (hQ _ _ (h6.2 q8)))⟩) (((h0.2 q2).2 q4).1 q5))), (fun q9 => (hQ _ _ (((h0.2 q2).2 q4).2 q9)))⟩)⟩)⟩
theorem mo_bc_X4_present_L13 {x3 : Int} {Q Q' : Int → Mm → Prop} {R R' : Int → Int → Mm → Prop} (hQ : ∀ z0 z1, Q z0 z1 → Q' z0 z1) (hR : ∀ z0 z1 z2, R z0 z1 z2 → R' z0 z1 z2) : ∀ (x1 : Int) (x4 : Int) (M : Mm), bc_X4_present_L13 x3 Q R x1 x4 M → bc_X4_present_L13 x3 Q' R' x1 x4 M := by
  intro x1 x4 M
  unfold bc_X4_present_L13
  exact fun h0 => ⟨(fun q1 => (hQ _ _ (h0.1 q1))), (fun q2 => ⟨(h0.2 q2).1, (fun q3 => ⟨((h0.2 q2).2.1 q3).1, (hR _ _ _ ((h0.2 q2).2.1 q3).2)⟩), (fun q4 => ⟨((h0.2 q2).2.2 q4).1, ((h0.2 q2).2.2 q4).2.1, (hR _ _ _ ((h0.2 q2).2.2 q4).2.2)⟩)⟩)⟩
theorem mo_wp_X4_present_L13 {x3 : Int} {x1 : Int} {x4 : Int} {M : Mm} {Q Q' : Int → Mm → Prop} (hQ : ∀ z0 z1, Q z0 z1 → Q' z0 z1) : wp_X4_present_L13 x3 Q x1 x4 M → wp_X4_present_L13 x3 Q' x1 x4 M := LP2.mono (fun _ _ hR => mo_bc_X4_present_L13 hQ hR) _ _ _
theorem mo_wp_X4_present {M : Mm} {Q Q' : Int → Mm → Prop} (hQ : ∀ z0 z1, Q z0 z1 → Q' z0 z1) : wp_X4_present M Q → wp_X4_present M Q' := by
  unfold wp_X4_present
  exact fun h0 => (mo_wp_X4_present_L13 hQ h0)
theorem mo_bc_X4_signsTogether_L13 {x3 : Int} {Q Q' : Int → Mm → Prop} {R R' : Int → Int → Mm → Prop} (hQ : ∀ z0 z1, Q z0 z1 → Q' z0 z1) (hR : ∀ z0 z1 z2, R z0 z1 z2 → R' z0 z1 z2) : ∀ (x1 : Int) (x4 : Int) (M : Mm), bc_X4_signsTogether_L13 x3 Q R x1 x4 M → bc_X4_signsTogether_L13 x3 Q' R' x1 x4 M := by
  intro x1 x4 M
  unfold bc_X4_signsTogether_L13
  exact fun h0 => ⟨(fun q1 => (hQ _ _ (h0.1 q1))), (fun q2 => ⟨(h0.2 q2).1, (h0.2 q2).2.1, (h0.2 q2).2.2.1, (hR _ _ _ (h0.2 q2).2.2.2)⟩)⟩
theorem mo_wp_X4_signsTogether_L13 {x3 : Int} {x1 : Int} {x4 : Int} {M : Mm} {Q Q' : Int → Mm → Prop} (hQ : ∀ z0 z1, Q z0 z1 → Q' z0 z1) : wp_X4_signsTogether_L13 x3 Q x1 x4 M → wp_X4_signsTogether_L13 x3 Q' x1 x4 M := LP2.mono (fun _ _ hR => mo_bc_X4_signsTogether_L13 hQ hR) _ _ _
theorem mo_wp_X4_signsTogether {M : Mm} {Q Q' : Int → Mm → Prop} (hQ : ∀ z0 z1, Q z0 z1 → Q' z0 z1) : wp_X4_signsTogether M Q → wp_X4_signsTogether M Q' := by
  unfold wp_X4_signsTogether
  exact fun h0 => (mo_wp_X4_signsTogether_L13 hQ h0)
theorem mo_bc_X4_pairsOf_L12 {x1 : Int} {x3 : Int} {Q Q' : Int → Mm → Prop} {K36 K36' : Int → Mm → Prop} {R R' : Int → Int → Mm → Prop} (hQ : ∀ z0 z1, Q z0 z1 → Q' z0 z1) (hK36 : ∀ z0 z1, K36 z0 z1 → K36' z0 z1) (hR : ∀ z0 z1 z2, R z0 z1 z2 → R' z0 z1 z2) : ∀ (x2 : Int) (x4 : Int) (M : Mm), bc_X4_pairsOf_L12 x1 x3 Q K36 R x2 x4 M → bc_X4_pairsOf_L12 x1 x3 Q' K36' R' x2 x4 M := by
  intro x2 x4 M
  unfold bc_X4_pairsOf_L12
  exact fun h0 => ⟨(fun q1 => (hK36 _ _ (h0.1 q1))), (fun q2 => ⟨(h0.2 q2).1, (h0.2 q2).2.1, (h0.2 q2).2.2.1, (h0.2 q2).2.2.2.1, (hR _ _ _ (h0.2 q2).2.2.2.2)⟩)⟩
theorem mo_wp_X4_pairsOf_L12 {x1 : Int} {x3 : Int} {x2 : Int} {x4 : Int} {M : Mm} {Q Q' : Int → Mm → Prop} {K36 K36' : Int → Mm → Prop} (hQ : ∀ z0 z1, Q z0 z1 → Q' z0 z1) (hK36 : ∀ z0 z1, K36 z0 z1 → K36' z0 z1) : wp_X4_pairsOf_L12 x1 x3 Q K36 x2 x4 M → wp_X4_pairsOf_L12 x1 x3 Q' K36' x2 x4 M := LP2.mono (fun _ _ hR => mo_bc_X4_pairsOf_L12 hQ hK36 hR) _ _ _
theorem mo_bc_X4_pairsOf_L4 {x1 : Int} {Q Q' : Int → Mm → Prop} {R R' : Int → Int → Mm → Prop} (hQ : ∀ z0 z1, Q z0 z1 → Q' z0 z1) (hR : ∀ z0 z1 z2, R z0 z1 z2 → R' z0 z1 z2) : ∀ (x2 : Int) (x3 : Int) (M : Mm), bc_X4_pairsOf_L4 x1 Q R x2 x3 M → bc_X4_pairsOf_L4 x1 Q' R' x2 x3 M := by
  intro x2 x3 M
  unfold bc_X4_pairsOf_L4
  exact fun h0 => ⟨(fun q1 => (hQ _ _ (h0.1 q1))), (fun q2 => (mo_wp_X4_pairsOf_L12 hQ (fun _ _ h3 => ⟨h3.1, (hR _ _ _ h3.2)⟩) (h0.2 q2)))⟩
theorem mo_wp_X4_pairsOf_L4 {x1 : Int} {x2 : Int} {x3 : Int} {M : Mm} {Q Q' : Int → Mm → Prop} (hQ : ∀ z0 z1, Q z0 z1 → Q' z0 z1) : wp_X4_pairsOf_L4 x1 Q x2 x3 M → wp_X4_pairsOf_L4 x1 Q' x2 x3 M := LP2.mono (fun _ _ hR => mo_bc_X4_pairsOf_L4 hQ hR) _ _ _
theorem mo_wp_X4_pairsOf {x1 : Int} {M : Mm} {Q Q' : Int → Mm → Prop} (hQ : ∀ z0 z1, Q z0 z1 → Q' z0 z1) : wp_X4_pairsOf x1 M Q → wp_X4_pairsOf x1 M Q' := by
  unfold wp_X4_pairsOf
  exact fun h0 => (mo_wp_X4_pairsOf_L4 hQ h0)
theorem mo_bc_X3_fixedTogether_L4 {Q Q' : Int → Mm → Prop} {R R' : Int → Int → Mm → Prop} (hQ : ∀ z0 z1, Q z0 z1 → Q' z0 z1) (hR : ∀ z0 z1 z2, R z0 z1 z2 → R' z0 z1 z2) : ∀ (x1 : Int) (x2 : Int) (M : Mm), bc_X3_fixedTogether_L4 Q R x1 x2 M → bc_X3_fixedTogether_L4 Q' R' x1 x2 M := by
  intro x1 x2 M
  unfold bc_X3_fixedTogether_L4
  exact fun h0 => ⟨(fun q1 => (hQ _ _ (h0.1 q1))), (fun q2 => (mo_wp_X3_isFixed (fun _ _ h3 => ⟨(fun q4 => ⟨(h3.1 q4).1, (hR _ _ _ (h3.1 q4).2)⟩), (fun q5 => ⟨(h3.2 q5).1, (h3.2 q5).2.1, (hR _ _ _ (h3.2 q5).2.2)⟩)⟩) (h0.2 q2)))⟩
theorem mo_wp_X3_fixedTogether_L4 {x1 : Int} {x2 : Int} {M : Mm} {Q Q' : Int → Mm → Prop} (hQ : ∀ z0 z1, Q z0 z1 → Q' z0 z1) : wp_X3_fixedTogether_L4 Q x1 x2 M → wp_X3_fixedTogether_L4 Q' x1 x2 M := LP2.mono (fun _ _ hR => mo_bc_X3_fixedTogether_L4 hQ hR) _ _ _
theorem mo_wp_X3_fixedTogether {M : Mm} {Q Q' : Int → Mm → Prop} (hQ : ∀ z0 z1, Q z0 z1 → Q' z0 z1) : wp_X3_fixedTogether M Q → wp_X3_fixedTogether M Q' := by
  unfold wp_X3_fixedTogether
  exact fun h0 => (mo_wp_X3_fixedTogether_L4 hQ h0)
theorem mo_wp_X7_count {x1 : Int} {M : Mm} {Q Q' : Int → Mm → Prop} (hQ : ∀ z0 z1, Q z0 z1 → Q' z0 z1) : wp_X7_count x1 M Q → wp_X7_count x1 M Q' := by
  unfold wp_X7_count
  exact fun h0 => ⟨(fun q1 => (hQ _ _ (h0.1 q1))), (fun q2 => (hQ _ _ (h0.2.1 q2))), (fun q3 => (mo_wp_X4_present (fun _ _ h4 => (hQ _ _ h4)) (h0.2.2.1 q3))), (fun q5 => (mo_wp_X4_signsTogether (fun _ _ h6 => (hQ _ _ h6)) (h0.2.2.2.1 q5))), (fun q7 => (mo_wp_X4_pairsOf (fun _ _ h8 => (hQ _ _ h8)) (h0.2.2.2.2.1 q7))), (fun q9 => (mo_wp_X3_fixedTogether (fun _ _ h10 => (hQ _ _ h10)) (h0.2.2.2.2.2.1 q9))), (fun q11 => ⟨(fun q12 => (hQ _ _ ((h0.2.2.2.2.2.2.1 q11).1 q12))), (fun q13 => (hQ _ _ ((h0.2.2.2.2.2.2.1 q11).2 q13)))⟩), (fun q14 => (hQ _ _ (h0.2.2.2.2.2.2.2 q14)))⟩
theorem mo_bc_X8_count_L56 {x1 : Int} {Q Q' : Int → Mm → Prop} {R R' : Int → Int → Mm → Prop} (hQ : ∀ z0 z1, Q z0 z1 → Q' z0 z1) (hR : ∀ z0 z1 z2, R z0 z1 z2 → R' z0 z1 z2) : ∀ (x2 : Int) (x3 : Int) (M : Mm), bc_X8_count_L56 x1 Q R x2 x3 M → bc_X8_count_L56 x1 Q' R' x2 x3 M := by
  intro x2 x3 M
  unfold bc_X8_count_L56
  exact fun h0 => ⟨(fun q1 => (hQ _ _ (h0.1 q1))), (fun q2 => ⟨(h0.2 q2).1, (fun q3 => ⟨(fun q4 => ⟨(((h0.2 q2).2.1 q3).1 q4).1, (((h0.2 q2).2.1 q3).1 q4).2.1, (((h0.2 q2).2.1 q3).1 q4).2.2.1, (hR _ _ _ (((h0.2 q2).2.1 q3).1 q4).2.2.2)⟩), (fun q5 => ⟨(((h0.2 q2).2.1 q3).2 q5).1, (((h0.2 q2).2.1 q3).2 q5).2.1, (hR _ _ _ (((h0.2 q2).2.1 q3).2 q5).2.2)⟩)⟩), (fun q6 => ⟨((h0.2 q2).2.2 q6).1, ((h0.2 q2).2.2 q6).2.1, (hR _ _ _ ((h0.2 q2).2.2 q6).2.2)⟩)⟩)⟩
theorem mo_wp_X8_count_L56 {x1 : Int} {x2 : Int} {x3 : Int} {M : Mm} {Q Q' : Int → Mm → Prop} (hQ : ∀ z0 z1, Q z0 z1 → Q' z0 z1) : wp_X8_count_L56 x1 Q x2 x3 M → wp_X8_count_L56 x1 Q' x2 x3 M := LP2.mono (fun _ _ hR => mo_bc_X8_count_L56 hQ hR) _ _ _
theorem mo_bc_X8_count_L103 {Q Q' : Int → Mm → Prop} {R R' : Int → Int → Mm → Prop} (hQ : ∀ z0 z1, Q z0 z1 → Q' z0 z1) (hR : ∀ z0 z1 z2, R z0 z1 z2 → R' z0 z1 z2) : ∀ (x2 : Int) (x3 : Int) (M : Mm), bc_X8_count_L103 Q R x2 x3 M → bc_X8_count_L103 Q' R' x2 x3 M := by
  intro x2 x3 M
  unfold bc_X8_count_L103
  exact fun h0 => ⟨(fun q1 => (hQ _ _ (h0.1 q1))), (fun q2 => ⟨(h0.2 q2).1, (h0.2 q2).2.1, (h0.2 q2).2.2.1, (hR _ _ _ (h0.2 q2).2.2.2)⟩)⟩
theorem mo_wp_X8_count_L103 {x2 : Int} {x3 : Int} {M : Mm} {Q Q' : Int → Mm → Prop} (hQ : ∀ z0 z1, Q z0 z1 → Q' z0 z1) : wp_X8_count_L103 Q x2 x3 M → wp_X8_count_L103 Q' x2 x3 M := LP2.mono (fun _ _ hR => mo_bc_X8_count_L103 hQ hR) _ _ _
theorem mo_bc_X8_count_L128 {Q Q' : Int → Mm → Prop} {R R' : Int → Int → Mm → Prop} (hQ : ∀ z0 z1, Q z0 z1 → Q' z0 z1) (hR : ∀ z0 z1 z2, R z0 z1 z2 → R' z0 z1 z2) : ∀ (x2 : Int) (x3 : Int) (M : Mm), bc_X8_count_L128 Q R x2 x3 M → bc_X8_count_L128 Q' R' x2 x3 M := by
  intro x2 x3 M
  unfold bc_X8_count_L128
  exact fun h0 => ⟨(fun q1 => (hQ _ _ (h0.1 q1))), (fun q2 => ⟨(h0.2 q2).1, (fun q3 => ⟨((h0.2 q2).2.1 q3).1, ((h0.2 q2).2.1 q3).2.1, (hR _ _ _ ((h0.2 q2).2.1 q3).2.2)⟩), (fun q4 => ⟨((h0.2 q2).2.2 q4).1, ((h0.2 q2).2.2 q4).2.1, (hR _ _ _ ((h0.2 q2).2.2 q4).2.2)⟩)⟩)⟩
theorem mo_wp_X8_count_L128 {x2 : Int} {x3 : Int} {M : Mm} {Q Q' : Int → Mm → Prop} (hQ : ∀ z0 z1, Q z0 z1 → Q' z0 z1) : wp_X8_count_L128 Q x2 x3 M → wp_X8_count_L128 Q' x2 x3 M := LP2.mono (fun _ _ hR => mo_bc_X8_count_L128 hQ hR) _ _ _
theorem mo_wp_X8_count {x1 : Int} {M : Mm} {Q Q' : Int → Mm → Prop} (hQ : ∀ z0 z1, Q z0 z1 → Q' z0 z1) : wp_X8_count x1 M Q → wp_X8_count x1 M Q' := by
  unfold wp_X8_count
  exact fun h0 => ⟨(fun q1 => (hQ _ _ (h0.1 q1))), (fun q2 => (hQ _ _ (h0.2.1 q2))), (fun q3 => (mo_wp_X8_count_L56 hQ (h0.2.2.1 q3))), (fun q4 => (mo_wp_X8_count_L56 hQ (h0.2.2.2.1 q4))), (fun q5 => (mo_wp_X8_count_L103 hQ (h0.2.2.2.2.1 q5))), (fun q6 => (mo_wp_X8_count_L128 hQ (h0.2.2.2.2.2.1 q6))), (fun q7 => ⟨(fun q8 => (hQ _ _ ((h0.2.2.2.2.2.2.1 q7).1 q8))), (fun q9 => (hQ _ _ ((h0.2.2.2.2.2.2.1 q7).2 q9)))⟩), (fun q10 => (hQ _ _ (h0.2.2.2.2.2.2.2 q10)))⟩
theorem mo_bc_X7_mixSquare_c13_L15 {x3 : Int} {x6 : Int} {Q Q' : Int → Mm → Prop} {K44 K44' : Int → Mm → Prop} {R R' : Int → Int → Mm → Prop} (hQ : ∀ z0 z1, Q z0 z1 → Q' z0 z1) (hK44 : ∀ z0 z1, K44 z0 z1 → K44' z0 z1) (hR : ∀ z0 z1 z2, R z0 z1 z2 → R' z0 z1 z2) : ∀ (x4 : Int) (x7 : Int) (M : Mm), bc_X7_mixSquare_c13_L15 x3 x6 Q K44 R x4 x7 M → bc_X7_mixSquare_c13_L15 x3 x6 Q' K44' R' x4 x7 M := by
  intro x4 x7 M
  unfold bc_X7_mixSquare_c13_L15
  exact fun h0 => ⟨(fun q1 => (hK44 _ _ (h0.1 q1))), (fun q2 => ⟨(h0.2 q2).1, (h0.2 q2).2.1, (h0.2 q2).2.2.1, (hR _ _ _ (h0.2 q2).2.2.2)⟩)⟩
theorem mo_wp_X7_mixSquare_c13_L15 {x3 : Int} {x6 : Int} {x4 : Int} {x7 : Int} {M : Mm} {Q Q' : Int → Mm → Prop} {K44 K44' : Int → Mm → Prop} (hQ : ∀ z0 z1, Q z0 z1 → Q' z0 z1) (hK44 : ∀ z0 z1, K44 z0 z1 → K44' z0 z1) : wp_X7_mixSquare_c13_L15 x3 x6 Q K44 x4 x7 M → wp_X7_mixSquare_c13_L15 x3 x6 Q' K44' x4 x7 M := LP2.mono (fun _ _ hR => mo_bc_X7_mixSquare_c13_L15 hQ hK44 hR) _ _ _
theorem mo_bc_X7_mixSquare_c13_L6 {x3 : Int} {Q Q' : Int → Mm → Prop} {R R' : Int → Int → Mm → Prop} (hQ : ∀ z0 z1, Q z0 z1 → Q' z0 z1) (hR : ∀ z0 z1 z2, R z0 z1 z2 → R' z0 z1 z2) : ∀ (x4 : Int) (x6 : Int) (M : Mm), bc_X7_mixSquare_c13_L6 x3 Q R x4 x6 M → bc_X7_mixSquare_c13_L6 x3 Q' R' x4 x6 M := by
  intro x4 x6 M
  unfold bc_X7_mixSquare_c13_L6
  exact fun h0 => ⟨(fun q1 => (hQ _ _ (h0.1 q1))), (fun q2 => (mo_wp_X7_mixSquare_c13_L15 hQ (fun _ _ h3 => ⟨h3.1, (hR _ _ _ h3.2)⟩) (h0.2 q2)))⟩
theorem mo_wp_X7_mixSquare_c13_L6 {x3 : Int} {x4 : Int} {x6 : Int} {M : Mm} {Q Q' : Int → Mm → Prop} (hQ : ∀ z0 z1, Q z0 z1 → Q' z0 z1) : wp_X7_mixSquare_c13_L6 x3 Q x4 x6 M → wp_X7_mixSquare_c13_L6 x3 Q' x4 x6 M := LP2.mono (fun _ _ hR => mo_bc_X7_mixSquare_c13_L6 hQ hR) _ _ _
theorem mo_wp_X7_mixSquare_c13 {x0 : Int} {x3 : Int} {M : Mm} {Q Q' : Int → Mm → Prop} (hQ : ∀ z0 z1, Q z0 z1 → Q' z0 z1) : wp_X7_mixSquare_c13 x0 x3 M Q → wp_X7_mixSquare_c13 x0 x3 M Q' := by
  unfold wp_X7_mixSquare_c13
  exact fun h0 => (mo_wp_X7_mixSquare_c13_L6 hQ h0)
theorem mo_bc_X7_mixSquare_c17_L15 {x3 : Int} {x6 : Int} {Q Q' : Int → Mm → Prop} {K44 K44' : Int → Mm → Prop} {R R' : Int → Int → Mm → Prop} (hQ : ∀ z0 z1, Q z0 z1 → Q' z0 z1) (hK44 : ∀ z0 z1, K44 z0 z1 → K44' z0 z1) (hR : ∀ z0 z1 z2, R z0 z1 z2 → R' z0 z1 z2) : ∀ (x4 : Int) (x7 : Int) (M : Mm), bc_X7_mixSquare_c17_L15 x3 x6 Q K44 R x4 x7 M → bc_X7_mixSquare_c17_L15 x3 x6 Q' K44' R' x4 x7 M := by
  intro x4 x7 M
  unfold bc_X7_mixSquare_c17_L15
  exact fun h0 => ⟨(fun q1 => (hK44 _ _ (h0.1 q1))), (fun q2 => ⟨(h0.2 q2).1, (h0.2 q2).2.1, (h0.2 q2).2.2.1, (hR _ _ _ (h0.2 q2).2.2.2)⟩)⟩
theorem mo_wp_X7_mixSquare_c17_L15 {x3 : Int} {x6 : Int} {x4 : Int} {x7 : Int} {M : Mm} {Q Q' : Int → Mm → Prop} {K44 K44' : Int → Mm → Prop} (hQ : ∀ z0 z1, Q z0 z1 → Q' z0 z1) (hK44 : ∀ z0 z1, K44 z0 z1 → K44' z0 z1) : wp_X7_mixSquare_c17_L15 x3 x6 Q K44 x4 x7 M → wp_X7_mixSquare_c17_L15 x3 x6 Q' K44' x4 x7 M := LP2.mono (fun _ _ hR => mo_bc_X7_mixSquare_c17_L15 hQ hK44 hR) _ _ _
theorem mo_bc_X7_mixSquare_c17_L6 {x3 : Int} {Q Q' : Int → Mm → Prop} {R R' : Int → Int → Mm → Prop} (hQ : ∀ z0 z1, Q z0 z1 → Q' z0 z1) (hR : ∀ z0 z1 z2, R z0 z1 z2 → R' z0 z1 z2) : ∀ (x4 : Int) (x6 : Int) (M : Mm), bc_X7_mixSquare_c17_L6 x3 Q R x4 x6 M → bc_X7_mixSquare_c17_L6 x3 Q' R' x4 x6 M := by
  intro x4 x6 M
  unfold bc_X7_mixSquare_c17_L6
  exact fun h0 => ⟨(fun q1 => (hQ _ _ (h0.1 q1))), (fun q2 => (mo_wp_X7_mixSquare_c17_L15 hQ (fun _ _ h3 => ⟨h3.1, (hR _ _ _ h3.2)⟩) (h0.2 q2)))⟩
theorem mo_wp_X7_mixSquare_c17_L6 {x3 : Int} {x4 : Int} {x6 : Int} {M : Mm} {Q Q' : Int → Mm → Prop} (hQ : ∀ z0 z1, Q z0 z1 → Q' z0 z1) : wp_X7_mixSquare_c17_L6 x3 Q x4 x6 M → wp_X7_mixSquare_c17_L6 x3 Q' x4 x6 M := LP2.mono (fun _ _ hR => mo_bc_X7_mixSquare_c17_L6 hQ hR) _ _ _
theorem mo_wp_X7_mixSquare_c17 {x0 : Int} {x3 : Int} {M : Mm} {Q Q' : Int → Mm → Prop} (hQ : ∀ z0 z1, Q z0 z1 → Q' z0 z1) : wp_X7_mixSquare_c17 x0 x3 M Q → wp_X7_mixSquare_c17 x0 x3 M Q' := by
  unfold wp_X7_mixSquare_c17
  exact fun h0 => (mo_wp_X7_mixSquare_c17_L6 hQ h0)
theorem mo_bc_X7_digest_L6 {Q Q' : Int → Mm → Prop} {K31 K31' : Int → Mm → Prop} {R R' : Int → Int → Mm → Prop} (hQ : ∀ z0 z1, Q z0 z1 → Q' z0 z1) (hK31 : ∀ z0 z1, K31 z0 z1 → K31' z0 z1) (hR : ∀ z0 z1 z2, R z0 z1 z2 → R' z0 z1 z2) : ∀ (x1 : Int) (x3 : Int) (M : Mm), bc_X7_digest_L6 Q K31 R x1 x3 M → bc_X7_digest_L6 Q' K31' R' x1 x3 M := by
  intro x1 x3 M
  unfold bc_X7_digest_L6
  exact fun h0 => ⟨(fun q1 => (hK31 _ _ (h0.1 q1))), (fun q2 => (mo_wp_X7_count (fun _ _ h3 => ⟨h3.1, (hR _ _ _ h3.2)⟩) (h0.2 q2)))⟩
theorem mo_wp_X7_digest_L6 {x1 : Int} {x3 : Int} {M : Mm} {Q Q' : Int → Mm → Prop} {K31 K31' : Int → Mm → Prop} (hQ : ∀ z0 z1, Q z0 z1 → Q' z0 z1) (hK31 : ∀ z0 z1, K31 z0 z1 → K31' z0 z1) : wp_X7_digest_L6 Q K31 x1 x3 M → wp_X7_digest_L6 Q' K31' x1 x3 M := LP2.mono (fun _ _ hR => mo_bc_X7_digest_L6 hQ hK31 hR) _ _ _
theorem mo_bc_X7_digest_L81 {Q Q' : Int → Mm → Prop} {R R' : Int → Int → Mm → Prop} (hQ : ∀ z0 z1, Q z0 z1 → Q' z0 z1) (hR : ∀ z0 z1 z2, R z0 z1 z2 → R' z0 z1 z2) : ∀ (x1 : Int) (x3 : Int) (M : Mm), bc_X7_digest_L81 Q R x1 x3 M → bc_X7_digest_L81 Q' R' x1 x3 M := by
  intro x1 x3 M
  unfold bc_X7_digest_L81
  exact fun h0 => ⟨(fun q1 => (mo_wp_X7_least (fun _ _ h2 => (hQ _ _ h2)) (h0.1 q1))), (fun q3 => ⟨(h0.2 q3).1, (h0.2 q3).2.1, (hR _ _ _ (h0.2 q3).2.2)⟩)⟩
theorem mo_wp_X7_digest_L81 {x1 : Int} {x3 : Int} {M : Mm} {Q Q' : Int → Mm → Prop} (hQ : ∀ z0 z1, Q z0 z1 → Q' z0 z1) : wp_X7_digest_L81 Q x1 x3 M → wp_X7_digest_L81 Q' x1 x3 M := LP2.mono (fun _ _ hR => mo_bc_X7_digest_L81 hQ hR) _ _ _
theorem mo_wp_X7_digest {M : Mm} {Q Q' : Int → Mm → Prop} (hQ : ∀ z0 z1, Q z0 z1 → Q' z0 z1) : wp_X7_digest M Q → wp_X7_digest M Q' := by
  unfold wp_X7_digest
  exact fun h0 => (mo_wp_X7_digest_L6 hQ (fun _ _ h1 => (mo_wp_X7_mixSquare_c13 (fun _ _ h2 => (mo_wp_X7_mixSquare_c17 (fun _ _ h3 => ⟨(fun q4 => (mo_wp_X7_least (fun _ _ h5 => (hQ _ _ h5)) (h3.1 q4))), (fun q6 => (mo_wp_X7_digest_L81 hQ (h3.2 q6)))⟩) h2)) h1)) h0)
theorem mo_bc_X8_digest_L6 {Q Q' : Int → Mm → Prop} {K31 K31' : Int → Mm → Prop} {R R' : Int → Int → Mm → Prop} (hQ : ∀ z0 z1, Q z0 z1 → Q' z0 z1) (hK31 : ∀ z0 z1, K31 z0 z1 → K31' z0 z1) (hR : ∀ z0 z1 z2, R z0 z1 z2 → R' z0 z1 z2) : ∀ (x1 : Int) (x3 : Int) (M : Mm), bc_X8_digest_L6 Q K31 R x1 x3 M → bc_X8_digest_L6 Q' K31' R' x1 x3 M := by
  intro x1 x3 M
  unfold bc_X8_digest_L6
  exact fun h0 => ⟨(fun q1 => (hK31 _ _ (h0.1 q1))), (fun q2 => (mo_wp_X8_count (fun _ _ h3 => ⟨h3.1, (hR _ _ _ h3.2)⟩) (h0.2 q2)))⟩
theorem mo_wp_X8_digest_L6 {x1 : Int} {x3 : Int} {M : Mm} {Q Q' : Int → Mm → Prop} {K31 K31' : Int → Mm → Prop} (hQ : ∀ z0 z1, Q z0 z1 → Q' z0 z1) (hK31 : ∀ z0 z1, K31 z0 z1 → K31' z0 z1) : wp_X8_digest_L6 Q K31 x1 x3 M → wp_X8_digest_L6 Q' K31' x1 x3 M := LP2.mono (fun _ _ hR => mo_bc_X8_digest_L6 hQ hK31 hR) _ _ _
theorem mo_bc_X8_digest_L44 {x3 : Int} {Q Q' : Int → Mm → Prop} {K79 K79' : Int → Mm → Prop} {R R' : Int → Int → Mm → Prop} (hQ : ∀ z0 z1, Q z0 z1 → Q' z0 z1) (hK79 : ∀ z0 z1, K79 z0 z1 → K79' z0 z1) (hR : ∀ z0 z1 z2, R z0 z1 z2 → R' z0 z1 z2) : ∀ (x1 : Int) (x4 : Int) (M : Mm), bc_X8_digest_L44 x3 Q K79 R x1 x4 M → bc_X8_digest_L44 x3 Q' K79' R' x1 x4 M := by
  intro x1 x4 M
  unfold bc_X8_digest_L44
  exact fun h0 => ⟨(fun q1 => (hK79 _ _ (h0.1 q1))), (fun q2 => ⟨(h0.2 q2).1, (h0.2 q2).2.1, (hR _ _ _ (h0.2 q2).2.2)⟩)⟩
theorem mo_wp_X8_digest_L44 {x3 : Int} {x1 : Int} {x4 : Int} {M : Mm} {Q Q' : Int → Mm → Prop} {K79 K79' : Int → Mm → Prop} (hQ : ∀ z0 z1, Q z0 z1 → Q' z0 z1) (hK79 : ∀ z0 z1, K79 z0 z1 → K79' z0 z1) : wp_X8_digest_L44 x3 Q K79 x1 x4 M → wp_X8_digest_L44 x3 Q' K79' x1 x4 M := LP2.mono (fun _ _ hR => mo_bc_X8_digest_L44 hQ hK79 hR) _ _ _
theorem mo_bc_X8_digest_L33 {Q Q' : Int → Mm → Prop} {K85 K85' : Int → Mm → Prop} {R R' : Int → Int → Mm → Prop} (hQ : ∀ z0 z1, Q z0 z1 → Q' z0 z1) (hK85 : ∀ z0 z1, K85 z0 z1 → K85' z0 z1) (hR : ∀ z0 z1 z2, R z0 z1 z2 → R' z0 z1 z2) : ∀ (x1 : Int) (x3 : Int) (M : Mm), bc_X8_digest_L33 Q K85 R x1 x3 M → bc_X8_digest_L33 Q' K85' R' x1 x3 M := by
  intro x1 x3 M
  unfold bc_X8_digest_L33
  exact fun h0 => ⟨(fun q1 => (hK85 _ _ (h0.1 q1))), (fun q2 => (mo_wp_X8_digest_L44 hQ (fun _ _ h3 => ⟨h3.1, (hR _ _ _ h3.2)⟩) (h0.2 q2)))⟩
theorem mo_wp_X8_digest_L33 {x1 : Int} {x3 : Int} {M : Mm} {Q Q' : Int → Mm → Prop} {K85 K85' : Int → Mm → Prop} (hQ : ∀ z0 z1, Q z0 z1 → Q' z0 z1) (hK85 : ∀ z0 z1, K85 z0 z1 → K85' z0 z1) : wp_X8_digest_L33 Q K85 x1 x3 M → wp_X8_digest_L33 Q' K85' x1 x3 M := LP2.mono (fun _ _ hR => mo_bc_X8_digest_L33 hQ hK85 hR) _ _ _
theorem mo_bc_X8_digest_L98 {x3 : Int} {Q Q' : Int → Mm → Prop} {K128 K128' : Int → Mm → Prop} {R R' : Int → Int → Mm → Prop} (hQ : ∀ z0 z1, Q z0 z1 → Q' z0 z1) (hK128 : ∀ z0 z1, K128 z0 z1 → K128' z0 z1) (hR : ∀ z0 z1 z2, R z0 z1 z2 → R' z0 z1 z2) : ∀ (x1 : Int) (x4 : Int) (M : Mm), bc_X8_digest_L98 x3 Q K128 R x1 x4 M → bc_X8_digest_L98 x3 Q' K128' R' x1 x4 M := by
  intro x1 x4 M
  unfold bc_X8_digest_L98
  exact fun h0 => ⟨(fun q1 => (hK128 _ _ (h0.1 q1))), (fun q2 => (mo_wp_X8_costOf (fun _ _ h3 => ⟨h3.1, (hR _ _ _ h3.2)⟩) (h0.2 q2)))⟩
theorem mo_wp_X8_digest_L98 {x3 : Int} {x1 : Int} {x4 : Int} {M : Mm} {Q Q' : Int → Mm → Prop} {K128 K128' : Int → Mm → Prop} (hQ : ∀ z0 z1, Q z0 z1 → Q' z0 z1) (hK128 : ∀ z0 z1, K128 z0 z1 → K128' z0 z1) : wp_X8_digest_L98 x3 Q K128 x1 x4 M → wp_X8_digest_L98 x3 Q' K128' x1 x4 M := LP2.mono (fun _ _ hR => mo_bc_X8_digest_L98 hQ hK128 hR) _ _ _
theorem mo_bc_X8_digest_L87 {Q Q' : Int → Mm → Prop} {K134 K134' : Int → Mm → Prop} {R R' : Int → Int → Mm → Prop} (hQ : ∀ z0 z1, Q z0 z1 → Q' z0 z1) (hK134 : ∀ z0 z1, K134 z0 z1 → K134' z0 z1) (hR : ∀ z0 z1 z2, R z0 z1 z2 → R' z0 z1 z2) : ∀ (x1 : Int) (x3 : Int) (M : Mm), bc_X8_digest_L87 Q K134 R x1 x3 M → bc_X8_digest_L87 Q' K134' R' x1 x3 M := by
  intro x1 x3 M
  unfold bc_X8_digest_L87
  exact fun h0 => ⟨(fun q1 => (hK134 _ _ (h0.1 q1))), (fun q2 => (mo_wp_X8_digest_L98 hQ (fun _ _ h3 => ⟨h3.1, (hR _ _ _ h3.2)⟩) (h0.2 q2)))⟩
theorem mo_wp_X8_digest_L87 {x1 : Int} {x3 : Int} {M : Mm} {Q Q' : Int → Mm → Prop} {K134 K134' : Int → Mm → Prop} (hQ : ∀ z0 z1, Q z0 z1 → Q' z0 z1) (hK134 : ∀ z0 z1, K134 z0 z1 → K134' z0 z1) : wp_X8_digest_L87 Q K134 x1 x3 M → wp_X8_digest_L87 Q' K134' x1 x3 M := LP2.mono (fun _ _ hR => mo_bc_X8_digest_L87 hQ hK134 hR) _ _ _
theorem mo_bc_X8_digest_L136 {Q Q' : Int → Mm → Prop} {R R' : Int → Int → Mm → Prop} (hQ : ∀ z0 z1, Q z0 z1 → Q' z0 z1) (hR : ∀ z0 z1 z2, R z0 z1 z2 → R' z0 z1 z2) : ∀ (x1 : Int) (x3 : Int) (M : Mm), bc_X8_digest_L136 Q R x1 x3 M → bc_X8_digest_L136 Q' R' x1 x3 M := by
  intro x1 x3 M
  unfold bc_X8_digest_L136
  exact fun h0 => ⟨(fun q1 => (mo_wp_X8_least (fun _ _ h2 => (hQ _ _ h2)) (h0.1 q1))), (fun q3 => ⟨(fun q4 => (mo_wp_X8_least (fun _ _ h5 => (hQ _ _ h5)) ((h0.2 q3).1 q4))), (fun q6 => ⟨((h0.2 q3).2 q6).1, ((h0.2 q3).2 q6).2.1, (hR _ _ _ ((h0.2 q3).2 q6).2.2)⟩)⟩)⟩
theorem mo_wp_X8_digest_L136 {x1 : Int} {x3 : Int} {M : Mm} {Q Q' : Int → Mm → Prop} (hQ : ∀ z0 z1, Q z0 z1 → Q' z0 z1) : wp_X8_digest_L136 Q x1 x3 M → wp_X8_digest_L136 Q' x1 x3 M := LP2.mono (fun _ _ hR => mo_bc_X8_digest_L136 hQ hR) _ _ _
theorem mo_wp_X8_digest {M : Mm} {Q Q' : Int → Mm → Prop} (hQ : ∀ z0 z1, Q z0 z1 → Q' z0 z1) : wp_X8_digest M Q → wp_X8_digest M Q' := by
  unfold wp_X8_digest
  exact fun h0 => (mo_wp_X8_digest_L6 hQ (fun _ _ h1 => (mo_wp_X8_digest_L33 hQ (fun _ _ h2 => (mo_wp_X8_digest_L87 hQ (fun _ _ h3 => (mo_wp_X8_digest_L136 hQ h3)) h2)) h1)) h0)
