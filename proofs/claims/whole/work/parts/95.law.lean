theorem Inv_M0 : Inv M0 := by
  refine ⟨⟨by decide, by decide, by decide, by decide, rfl, rfl⟩, fun j j0 j1 => ?_, fun j _ _ => ⟨by show (0 : Int) ≤ 0; decide, by show (0 : Int) ≤ 1000; decide, rfl⟩, fun i j i0 i1 => ?_, ⟨fun a _ _ => ⟨rfl, Or.inl rfl⟩, fun j _ _ => Or.inl rfl⟩, Js_0, Jd_0, ⟨rfl, by decide, by decide⟩, ⟨fun _ _ _ => rfl, fun _ _ _ => rfl⟩, ⟨rfl, by decide, by decide, fun j j0 j1 => rfl⟩, fun p _ _ => ⟨by show (0 : Int) ≤ 0; decide, by show (0 : Int) ≤ 300; decide, Or.inl ⟨rfl, rfl⟩⟩, fun p i p0 p1 i0 i1 => ?_, fun a b a0 a1 b0 b1 => ?_⟩
  · have e : M0 3 0 = 0 := rfl
    omega
  · have e : M0 3 0 = 0 := rfl
    omega
  · have e : M0 12 p = 0 := rfl
    omega
  · have e : cnt (M0 12) (M0 11) a b = 0 := by
      unfold cnt cnp
      exact sm_z (fun p _ _ => rfl)
    rw [e]
    refine ⟨rfl, ?_⟩
    show (0 : Int) = _
    split <;> rfl
set_option maxHeartbeats 4000000 in
set_option maxRecDepth 100000 in
theorem law_pure : LawPure := by
  intro sx Ln h0 h1 hs
  refine LP1.of (b := bc_L_law_L18 sx Ln (fun r _ => r = 1)) (fun i M => 0 ≤ i ∧ Inv M) (fun i _ => (Ln - i).toNat) ?_ 0 M0 ⟨by omega, Inv_M0⟩
  rintro R i M ⟨i0, hI⟩ ih
  unfold bc_L_law_L18
  refine ⟨by omega, fun _ => rfl, fun q => ⟨by omega, ?_⟩⟩
  refine ⟨?_, ?_, ?_, ?_, ?_, ?_, ?_, ?_, ?_, ?_, ?_, ?_, ?_, ?_, ?_, ?_, ?_, ?_, ?_, ?_, ?_, ?_, ?_, ?_, ?_, ?_, ?_⟩
  · exact fun _ => ⟨by omega, mo_wp_X7_letters (fun _ _ h => ⟨by omega, mo_wp_X8_letters (fun _ _ h2 => ⟨fun _ => ⟨by omega, ih _ _ ⟨by omega, h2.2⟩ (by omega)⟩, fun z => absurd h2.1 z⟩) h⟩) (e_letters _ M hI)⟩
  · exact fun _ => ⟨by omega, by omega, by omega, by omega, mo_wp_X7_feed (fun _ _ h => ⟨by omega, by omega, by omega, by omega, mo_wp_X8_feed (fun _ _ h2 => ⟨fun _ => ⟨by omega, ih _ _ ⟨by omega, h2.2⟩ (by omega)⟩, fun z => absurd h2.1 z⟩) h⟩) (e_feed _ _ _ M hI)⟩
  · exact fun _ => ⟨by omega, mo_wp_X7_tear (fun _ _ h => ⟨by omega, mo_wp_X8_tear (fun _ _ h2 => ⟨fun _ => ⟨by omega, ih _ _ ⟨by omega, h2.2⟩ (by omega)⟩, fun z => absurd h2.1 z⟩) h⟩) (e_tear _ M hI)⟩
  · exact fun _ => ⟨by omega, by omega, mo_wp_X7_often (fun _ _ h => ⟨by omega, by omega, mo_wp_X8_often (fun _ _ h2 => ⟨fun _ => ⟨by omega, ih _ _ ⟨by omega, h2.2⟩ (by omega)⟩, fun z => absurd h2.1 z⟩) h⟩) (e_often _ _ M hI)⟩
  · exact fun _ => ⟨by omega, by omega, mo_wp_X7_key (fun _ _ h => ⟨by omega, by omega, mo_wp_X8_key (fun _ _ h2 => ⟨fun _ => ⟨by omega, ih _ _ ⟨by omega, h2.2⟩ (by omega)⟩, fun z => absurd h2.1 z⟩) h⟩) (e_key _ _ M hI)⟩
  · exact fun _ => ⟨by omega, by omega, by omega, mo_wp_X7_go (fun _ _ h => ⟨by omega, by omega, by omega, mo_wp_X8_go (fun _ _ h2 => ⟨fun _ => ⟨by omega, ih _ _ ⟨by omega, h2.2⟩ (by omega)⟩, fun z => absurd h2.1 z⟩) h⟩) (e_go _ _ _ M hI)⟩
  · exact fun _ => ⟨by omega, by omega, mo_wp_X7_cost (fun _ _ h => ⟨by omega, by omega, mo_wp_X8_cost (fun _ _ h2 => ⟨fun _ => ⟨by omega, ih _ _ ⟨by omega, h2.2⟩ (by omega)⟩, fun z => absurd h2.1 z⟩) h⟩) (e_cost _ _ M hI)⟩
  · exact fun _ => ⟨by omega, mo_wp_X7_body (fun _ _ h => ⟨by omega, mo_wp_X8_body (fun _ _ h2 => ⟨fun _ => ⟨by omega, ih _ _ ⟨by omega, h2.2⟩ (by omega)⟩, fun z => absurd h2.1 z⟩) h⟩) (e_body _ M hI)⟩
  · exact fun _ => ⟨by omega, by omega, mo_wp_X7_fix (fun _ _ h => ⟨by omega, by omega, mo_wp_X8_fix (fun _ _ h2 => ⟨fun _ => ⟨by omega, ih _ _ ⟨by omega, h2.2⟩ (by omega)⟩, fun z => absurd h2.1 z⟩) h⟩) (e_fix _ _ M hI)⟩
  · exact fun _ => mo_wp_X7_first (fun _ _ h => mo_wp_X8_first (fun _ _ h2 => ⟨fun _ => ⟨by omega, ih _ _ ⟨by omega, h2.2⟩ (by omega)⟩, fun z => absurd h2.1 z⟩) h) (e_first M hI)
  · exact fun _ => ⟨by omega, by omega, mo_wp_X7_put (fun _ _ h => ⟨by omega, by omega, mo_wp_X8_put (fun _ _ h2 => ⟨fun _ => ⟨by omega, ih _ _ ⟨by omega, h2.2⟩ (by omega)⟩, fun z => absurd h2.1 z⟩) h⟩) (e_put _ _ M hI)⟩
  · exact fun _ => ⟨by omega, mo_wp_X7_at (fun _ _ h => ⟨by omega, mo_wp_X8_at (fun _ _ h2 => ⟨fun _ => ⟨by omega, ih _ _ ⟨by omega, h2.2⟩ (by omega)⟩, fun z => absurd h2.1 z⟩) h⟩) (e_at _ M hI)⟩
  · exact fun _ => mo_wp_X7_all (fun _ _ h => mo_wp_X8_all (fun _ _ h2 => ⟨Or.inr h2.1, fun _ => ⟨by omega, ih _ _ ⟨by omega, h2.2⟩ (by omega)⟩, fun z => absurd h2.1 z⟩) h) (e_all M hI)
  · exact fun _ => ⟨by omega, mo_wp_X7_share (fun _ _ h => ⟨by omega, mo_wp_X8_share (fun _ _ h2 => ⟨Or.inr h2.1, fun _ => ⟨by omega, ih _ _ ⟨by omega, h2.2⟩ (by omega)⟩, fun z => absurd h2.1 z⟩) h⟩) (e_share _ M hI)⟩
  · exact fun _ => mo_wp_X7_better (fun _ _ h => mo_wp_X8_better (fun _ _ h2 => ⟨fun _ => ⟨by omega, ih _ _ ⟨by omega, h2.2⟩ (by omega)⟩, fun z => absurd h2.1 z⟩) h) (e_better M hI)
  · exact fun _ => ⟨by omega, by omega, mo_wp_X7_change (fun _ _ h => ⟨by omega, by omega, mo_wp_X8_change (fun _ _ h2 => ⟨Or.inr h2.1, fun _ => ⟨by omega, ih _ _ ⟨by omega, h2.2⟩ (by omega)⟩, fun z => absurd h2.1 z⟩) h⟩) (e_change _ _ M hI)⟩
  · exact fun _ => mo_wp_X7_search (fun _ _ h => mo_wp_X8_search (fun _ _ h2 => ⟨fun _ => ⟨by omega, ih _ _ ⟨by omega, h2.2⟩ (by omega)⟩, fun z => absurd h2.1 z⟩) h) (e_search M hI)
  · exact fun _ => mo_wp_X7_least (fun _ _ h => mo_wp_X8_least (fun _ _ h2 => ⟨Or.inr h2.1, fun _ => ⟨by omega, ih _ _ ⟨by omega, h2.2⟩ (by omega)⟩, fun z => absurd h2.1 z⟩) h) (e_least M hI)
  · exact fun _ => mo_wp_X7_take (fun _ _ h => mo_wp_X8_take (fun _ _ h2 => ⟨fun _ => ⟨by omega, ih _ _ ⟨by omega, h2.2⟩ (by omega)⟩, fun z => absurd h2.1 z⟩) h) (e_take M hI)
  · exact fun _ => mo_wp_X7_tries (fun _ _ h => mo_wp_X8_tries (fun _ _ h2 => ⟨fun _ => ⟨by omega, ih _ _ ⟨by omega, h2.2⟩ (by omega)⟩, fun z => absurd h2.1 z⟩) h) (e_tries M hI)
  · exact fun _ => mo_wp_X7_bound (fun _ _ h => mo_wp_X8_bound (fun _ _ h2 => ⟨Or.inr h2.1, fun _ => ⟨by omega, ih _ _ ⟨by omega, h2.2⟩ (by omega)⟩, fun z => absurd h2.1 z⟩) h) (e_bound M hI)
  · exact fun _ => ⟨by omega, by omega, mo_wp_X7_price (fun _ _ h => ⟨by omega, by omega, mo_wp_X8_price (fun _ _ h2 => ⟨Or.inr h2.1, fun _ => ⟨by omega, ih _ _ ⟨by omega, h2.2⟩ (by omega)⟩, fun z => absurd h2.1 z⟩) h⟩) (e_price _ _ M hI)⟩
  · exact fun _ => mo_wp_X7_turns (fun _ _ h => mo_wp_X8_turns (fun _ _ h2 => ⟨fun _ => ⟨by omega, ih _ _ ⟨by omega, h2.2⟩ (by omega)⟩, fun z => absurd h2.1 z⟩) h) (e_turns M hI)
  · exact fun _ => mo_wp_X7_alike (fun _ _ h => mo_wp_X8_alike (fun _ _ h2 => ⟨fun _ => ⟨by omega, ih _ _ ⟨by omega, h2.2⟩ (by omega)⟩, fun z => absurd h2.1 z⟩) h) (e_alike M hI)
  · exact fun _ => ⟨by omega, mo_wp_X7_count (fun _ _ h => ⟨by omega, mo_wp_X8_count (fun _ _ h2 => ⟨fun _ => ⟨by omega, ih _ _ ⟨by omega, h2.2⟩ (by omega)⟩, fun z => absurd h2.1 z⟩) h⟩) (e_count _ M hI)⟩
  · exact fun _ => mo_wp_X7_digest (fun _ _ h => mo_wp_X8_digest (fun _ _ h2 => ⟨Or.inr h2.1, fun _ => ⟨by omega, ih _ _ ⟨by omega, h2.2⟩ (by omega)⟩, fun z => absurd h2.1 z⟩) h) (e_digest M hI)
  · exact fun _ => ⟨by omega, ih _ _ ⟨by omega, hI⟩ (by omega)⟩
