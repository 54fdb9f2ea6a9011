/-! the law's loop: every answer alike -/
theorem mp_turn {n L : Nat} {x : Int} {σ : am_Mem} {kh : Int → am_Mem → Option (Int × am_Mem)} (hn : 10000000000 ≤ n) (hL : L ≤ 512) (R : mr_R σ) (x0 : 0 ≤ x) (x1 : x + 8 ≤ L) : ∃ σ', fb_L_law_18 n 0 L kh x σ = kh (x + 8) σ' ∧ mr_R σ' := by
  have ok : ∀ i : Int, am_ok (σ 0 i) := by
    obtain ⟨v, _, _, _, _, _, _, _, _, hc⟩ := R
    exact hc.1
  unfold fb_L_law_18
  rw [am_w_id (z := (L : Int) - 8) (by omega), if_pos (show x ≤ (L : Int) - 8 by omega), if_pos (show (0 : Int) ≤ x ∧ x < (L : Int) by omega)]
  simp only [am_w_id (z := x + 1) (by omega), am_w_id (z := x + 2) (by omega), am_w_id (z := x + 3) (by omega), am_w_id (z := x + 4) (by omega), am_w_id (z := x + 5) (by omega), am_w_id (z := x + 6) (by omega), am_w_id (z := x + 7) (by omega), am_w_id (z := x + 8) (by omega)]
  by_cases h0 : am_and (σ 0 x) 63 = 0
  · rw [if_pos h0]
    obtain ⟨r, σ1, σ2, e6, e7, R2, E0, _⟩ := mo_row (n := n) (σ := σ) (p1 := σ 0 (x + 1)) (p2 := σ 0 (x + 2)) (p3 := σ 0 (x + 3)) hn R
    rw [if_pos (show (0 : Int) ≤ x + 1 ∧ x + 1 < (L : Int) by omega), if_pos (show (0 : Int) ≤ x + 2 ∧ x + 2 < (L : Int) by omega), if_pos (show (0 : Int) ≤ x + 3 ∧ x + 3 < (L : Int) by omega), e6, am_b2_some, E0, e7, am_b2_some, if_pos rfl]
    exact ⟨σ2, rfl, R2⟩
  rw [if_neg h0]
  by_cases h1 : am_and (σ 0 x) 63 = 1
  · rw [if_pos h1]
    obtain ⟨r, σ1, σ2, e6, e7, R2, E0, _⟩ := mo_set (n := n) (σ := σ) (p1 := σ 0 (x + 1)) (p2 := σ 0 (x + 2)) (p3 := σ 0 (x + 3)) hn R
    rw [if_pos (show (0 : Int) ≤ x + 1 ∧ x + 1 < (L : Int) by omega), if_pos (show (0 : Int) ≤ x + 2 ∧ x + 2 < (L : Int) by omega), if_pos (show (0 : Int) ≤ x + 3 ∧ x + 3 < (L : Int) by omega), e6, am_b2_some, E0, e7, am_b2_some, if_pos rfl]
    exact ⟨σ2, rfl, R2⟩
  rw [if_neg h1]
  by_cases h2 : am_and (σ 0 x) 63 = 2
  · rw [if_pos h2]
    obtain ⟨r, σ1, σ2, e6, e7, R2, E0, _⟩ := mo_copy (n := n) (σ := σ) (p1 := σ 0 (x + 1)) (p2 := σ 0 (x + 2)) (p3 := σ 0 (x + 3)) (p4 := σ 0 (x + 4)) (p5 := σ 0 (x + 5)) hn R (ok _)
    rw [if_pos (show (0 : Int) ≤ x + 1 ∧ x + 1 < (L : Int) by omega), if_pos (show (0 : Int) ≤ x + 2 ∧ x + 2 < (L : Int) by omega), if_pos (show (0 : Int) ≤ x + 3 ∧ x + 3 < (L : Int) by omega), if_pos (show (0 : Int) ≤ x + 4 ∧ x + 4 < (L : Int) by omega), if_pos (show (0 : Int) ≤ x + 5 ∧ x + 5 < (L : Int) by omega), e6, am_b2_some, E0, e7, am_b2_some, if_pos rfl]
    exact ⟨σ2, rfl, R2⟩
  rw [if_neg h2]
  by_cases h3 : am_and (σ 0 x) 63 = 3
  · rw [if_pos h3]
    obtain ⟨r, σ1, σ2, e6, e7, R2, E0, _⟩ := mo_drop (n := n) (σ := σ) (p1 := σ 0 (x + 1)) hn R
    rw [if_pos (show (0 : Int) ≤ x + 1 ∧ x + 1 < (L : Int) by omega), e6, am_b2_some, E0, e7, am_b2_some, if_pos rfl]
    exact ⟨σ2, rfl, R2⟩
  rw [if_neg h3]
  by_cases h4 : am_and (σ 0 x) 63 = 4
  · rw [if_pos h4]
    obtain ⟨r, σ1, σ2, e6, e7, R2, E0, _⟩ := mo_feed (n := n) (σ := σ) (p1 := σ 0 (x + 1)) hn R
    rw [if_pos (show (0 : Int) ≤ x + 1 ∧ x + 1 < (L : Int) by omega), e6, am_b2_some, E0, e7, am_b2_some, if_pos rfl]
    exact ⟨σ2, rfl, R2⟩
  rw [if_neg h4]
  by_cases h5 : am_and (σ 0 x) 63 = 5
  · rw [if_pos h5]
    obtain ⟨r, σ1, σ2, e6, e7, R2, E0, _⟩ := mo_town (n := n) (σ := σ) hn R
    rw [e6, am_b2_some, e7, am_b2_some, if_pos rfl]
    exact ⟨σ2, rfl, R2⟩
  rw [if_neg h5]
  by_cases h6 : am_and (σ 0 x) 63 = 6
  · rw [if_pos h6]
    obtain ⟨r, σ1, σ2, e6, e7, R2, E0, _⟩ := mo_fault (n := n) (σ := σ) hn R
    rw [e6, am_b2_some, e7, am_b2_some, if_pos rfl]
    exact ⟨σ2, rfl, R2⟩
  rw [if_neg h6]
  by_cases h7 : am_and (σ 0 x) 63 = 7
  · rw [if_pos h7]
    obtain ⟨r, σ1, σ2, e6, e7, R2, E0, _⟩ := mo_ride (n := n) (σ := σ) (p1 := σ 0 (x + 1)) hn R
    rw [if_pos (show (0 : Int) ≤ x + 1 ∧ x + 1 < (L : Int) by omega), e6, am_b2_some, E0, e7, am_b2_some, if_pos rfl]
    exact ⟨σ2, rfl, R2⟩
  rw [if_neg h7]
  by_cases h8 : am_and (σ 0 x) 63 = 8
  · rw [if_pos h8]
    obtain ⟨r, σ1, σ2, e6, e7, R2, E0, _⟩ := mo_lesson (n := n) (σ := σ) (p1 := σ 0 (x + 1)) (p2 := σ 0 (x + 2)) hn R
    rw [if_pos (show (0 : Int) ≤ x + 1 ∧ x + 1 < (L : Int) by omega), if_pos (show (0 : Int) ≤ x + 2 ∧ x + 2 < (L : Int) by omega), e6, am_b2_some, E0, e7, am_b2_some, if_pos rfl]
    exact ⟨σ2, rfl, R2⟩
  rw [if_neg h8]
  by_cases h9 : am_and (σ 0 x) 63 = 9
  · rw [if_pos h9]
    obtain ⟨r, σ1, σ2, e6, e7, R2, E0, _⟩ := mo_reset (n := n) (σ := σ) hn R
    rw [e6, am_b2_some, e7, am_b2_some, if_pos rfl]
    exact ⟨σ2, rfl, R2⟩
  rw [if_neg h9]
  by_cases h10 : am_and (σ 0 x) 63 = 10
  · rw [if_pos h10]
    obtain ⟨r, σ1, σ2, e6, e7, R2, E0, _⟩ := mo_street (n := n) (σ := σ) (p1 := σ 0 (x + 1)) (p2 := σ 0 (x + 2)) hn R
    rw [if_pos (show (0 : Int) ≤ x + 1 ∧ x + 1 < (L : Int) by omega), if_pos (show (0 : Int) ≤ x + 2 ∧ x + 2 < (L : Int) by omega), e6, am_b2_some, E0, e7, am_b2_some, if_pos rfl]
    exact ⟨σ2, rfl, R2⟩
  rw [if_neg h10]
  by_cases h11 : am_and (σ 0 x) 63 = 11
  · rw [if_pos h11]
    obtain ⟨r, σ1, σ2, e6, e7, R2, E0, _⟩ := mo_undo (n := n) (σ := σ) hn R
    rw [e6, am_b2_some, e7, am_b2_some, if_pos rfl]
    exact ⟨σ2, rfl, R2⟩
  rw [if_neg h11]
  by_cases h12 : am_and (σ 0 x) 63 = 12
  · rw [if_pos h12]
    obtain ⟨r, σ1, σ2, e6, e7, R2, E0, _⟩ := mo_corner (n := n) (σ := σ) (p1 := σ 0 (x + 1)) (p2 := σ 0 (x + 2)) hn R
    rw [if_pos (show (0 : Int) ≤ x + 1 ∧ x + 1 < (L : Int) by omega), if_pos (show (0 : Int) ≤ x + 2 ∧ x + 2 < (L : Int) by omega), e6, am_b2_some, E0, e7, am_b2_some, if_pos rfl]
    exact ⟨σ2, rfl, R2⟩
  rw [if_neg h12]
  by_cases h13 : am_and (σ 0 x) 63 = 13
  · rw [if_pos h13]
    obtain ⟨r, σ1, σ2, e6, e7, R2, E0, _⟩ := mo_way (n := n) (σ := σ) (p1 := σ 0 (x + 1)) (p2 := σ 0 (x + 2)) hn R
    rw [if_pos (show (0 : Int) ≤ x + 1 ∧ x + 1 < (L : Int) by omega), if_pos (show (0 : Int) ≤ x + 2 ∧ x + 2 < (L : Int) by omega), e6, am_b2_some, E0, e7, am_b2_some, if_pos rfl]
    exact ⟨σ2, rfl, R2⟩
  rw [if_neg h13]
  by_cases h14 : am_and (σ 0 x) 63 = 14
  · rw [if_pos h14]
    obtain ⟨r, σ1, σ2, e6, e7, R2, E0, _⟩ := mo_would (n := n) (σ := σ) (p1 := σ 0 (x + 1)) (p2 := σ 0 (x + 2)) hn R
    rw [if_pos (show (0 : Int) ≤ x + 1 ∧ x + 1 < (L : Int) by omega), if_pos (show (0 : Int) ≤ x + 2 ∧ x + 2 < (L : Int) by omega), e6, am_b2_some, E0, e7, am_b2_some, if_pos rfl]
    exact ⟨σ2, rfl, R2⟩
  rw [if_neg h14]
  by_cases h15 : am_and (σ 0 x) 63 = 15
  · rw [if_pos h15]
    obtain ⟨r, σ1, σ2, e6, e7, R2, E0, _⟩ := mo_reach (n := n) (σ := σ) hn R
    rw [e6, am_b2_some, e7, am_b2_some, if_pos rfl]
    exact ⟨σ2, rfl, R2⟩
  rw [if_neg h15]
  by_cases h16 : am_and (σ 0 x) 63 = 16
  · rw [if_pos h16]
    obtain ⟨r, σ1, σ2, e6, e7, R2, E0, _⟩ := mo_cheapest (n := n) (σ := σ) (p1 := σ 0 (x + 1)) (p2 := σ 0 (x + 2)) hn R
    rw [if_pos (show (0 : Int) ≤ x + 1 ∧ x + 1 < (L : Int) by omega), if_pos (show (0 : Int) ≤ x + 2 ∧ x + 2 < (L : Int) by omega), e6, am_b2_some, E0, e7, am_b2_some, if_pos rfl]
    exact ⟨σ2, rfl, R2⟩
  rw [if_neg h16]
  by_cases h17 : am_and (σ 0 x) 63 = 17
  · rw [if_pos h17]
    obtain ⟨r, σ1, σ2, e6, e7, R2, E0, _⟩ := mo_dearest (n := n) (σ := σ) (p1 := σ 0 (x + 1)) (p2 := σ 0 (x + 2)) hn R
    rw [if_pos (show (0 : Int) ≤ x + 1 ∧ x + 1 < (L : Int) by omega), if_pos (show (0 : Int) ≤ x + 2 ∧ x + 2 < (L : Int) by omega), e6, am_b2_some, E0, e7, am_b2_some, if_pos rfl]
    exact ⟨σ2, rfl, R2⟩
  rw [if_neg h17]
  by_cases h18 : am_and (σ 0 x) 63 = 18
  · rw [if_pos h18]
    obtain ⟨r, σ1, σ2, e6, e7, R2, E0, _⟩ := mo_moods (n := n) (σ := σ) (p1 := σ 0 (x + 1)) (p2 := σ 0 (x + 2)) hn R
    rw [if_pos (show (0 : Int) ≤ x + 1 ∧ x + 1 < (L : Int) by omega), if_pos (show (0 : Int) ≤ x + 2 ∧ x + 2 < (L : Int) by omega), e6, am_b2_some, E0, e7, am_b2_some, if_pos rfl]
    exact ⟨σ2, rfl, R2⟩
  rw [if_neg h18]
  by_cases h19 : am_and (σ 0 x) 63 = 19
  · rw [if_pos h19]
    obtain ⟨r, σ1, σ2, e6, e7, R2, E0, _⟩ := mo_gets (n := n) (σ := σ) (p1 := σ 0 (x + 1)) (p2 := σ 0 (x + 2)) hn R
    rw [if_pos (show (0 : Int) ≤ x + 1 ∧ x + 1 < (L : Int) by omega), if_pos (show (0 : Int) ≤ x + 2 ∧ x + 2 < (L : Int) by omega), e6, am_b2_some, E0, e7, am_b2_some, if_pos rfl]
    exact ⟨σ2, rfl, R2⟩
  rw [if_neg h19]
  by_cases h20 : am_and (σ 0 x) 63 = 20
  · rw [if_pos h20]
    obtain ⟨r, σ1, σ2, e6, e7, R2, E0, _⟩ := mo_fits (n := n) (σ := σ) (p1 := σ 0 (x + 1)) (p2 := σ 0 (x + 2)) (p3 := σ 0 (x + 3)) (p4 := σ 0 (x + 4)) (p5 := σ 0 (x + 5)) (p6 := σ 0 (x + 6)) hn R
    rw [if_pos (show (0 : Int) ≤ x + 1 ∧ x + 1 < (L : Int) by omega), if_pos (show (0 : Int) ≤ x + 2 ∧ x + 2 < (L : Int) by omega), if_pos (show (0 : Int) ≤ x + 3 ∧ x + 3 < (L : Int) by omega), if_pos (show (0 : Int) ≤ x + 4 ∧ x + 4 < (L : Int) by omega), if_pos (show (0 : Int) ≤ x + 5 ∧ x + 5 < (L : Int) by omega), if_pos (show (0 : Int) ≤ x + 6 ∧ x + 6 < (L : Int) by omega), e6, am_b2_some, E0, e7, am_b2_some, if_pos rfl]
    exact ⟨σ2, rfl, R2⟩
  rw [if_neg h20]
  by_cases h21 : am_and (σ 0 x) 63 = 21
  · rw [if_pos h21]
    obtain ⟨r, σ1, σ2, e6, e7, R2, E0, _⟩ := mo_fitsOf (n := n) (σ := σ) (p1 := σ 0 (x + 1)) (p2 := σ 0 (x + 2)) (p3 := σ 0 (x + 3)) (p4 := σ 0 (x + 4)) (p5 := σ 0 (x + 5)) (p6 := σ 0 (x + 6)) (p7 := σ 0 (x + 7)) hn R
    rw [if_pos (show (0 : Int) ≤ x + 1 ∧ x + 1 < (L : Int) by omega), if_pos (show (0 : Int) ≤ x + 2 ∧ x + 2 < (L : Int) by omega), if_pos (show (0 : Int) ≤ x + 3 ∧ x + 3 < (L : Int) by omega), if_pos (show (0 : Int) ≤ x + 4 ∧ x + 4 < (L : Int) by omega), if_pos (show (0 : Int) ≤ x + 5 ∧ x + 5 < (L : Int) by omega), if_pos (show (0 : Int) ≤ x + 6 ∧ x + 6 < (L : Int) by omega), if_pos (show (0 : Int) ≤ x + 7 ∧ x + 7 < (L : Int) by omega), e6, am_b2_some, E0, e7, am_b2_some, if_pos rfl]
    exact ⟨σ2, rfl, R2⟩
  rw [if_neg h21]
  by_cases h22 : am_and (σ 0 x) 63 = 22
  · rw [if_pos h22]
    obtain ⟨r, σ1, σ2, e6, e7, R2, E0, _⟩ := mo_share (n := n) (σ := σ) (p1 := σ 0 (x + 1)) (p2 := σ 0 (x + 2)) (p3 := σ 0 (x + 3)) (p4 := σ 0 (x + 4)) hn R (ok _)
    rw [if_pos (show (0 : Int) ≤ x + 1 ∧ x + 1 < (L : Int) by omega), if_pos (show (0 : Int) ≤ x + 2 ∧ x + 2 < (L : Int) by omega), if_pos (show (0 : Int) ≤ x + 3 ∧ x + 3 < (L : Int) by omega), if_pos (show (0 : Int) ≤ x + 4 ∧ x + 4 < (L : Int) by omega), e6, am_b2_some, E0, e7, am_b2_some, if_pos rfl]
    exact ⟨σ2, rfl, R2⟩
  rw [if_neg h22]
  by_cases h23 : am_and (σ 0 x) 63 = 23
  · rw [if_pos h23]
    obtain ⟨r, σ1, σ2, e6, e7, R2, E0, _⟩ := mo_shut (n := n) (σ := σ) (p1 := σ 0 (x + 1)) (p2 := σ 0 (x + 2)) (p3 := σ 0 (x + 3)) (p4 := σ 0 (x + 4)) hn R
    rw [if_pos (show (0 : Int) ≤ x + 1 ∧ x + 1 < (L : Int) by omega), if_pos (show (0 : Int) ≤ x + 2 ∧ x + 2 < (L : Int) by omega), if_pos (show (0 : Int) ≤ x + 3 ∧ x + 3 < (L : Int) by omega), if_pos (show (0 : Int) ≤ x + 4 ∧ x + 4 < (L : Int) by omega), e6, am_b2_some, E0, e7, am_b2_some, if_pos rfl]
    exact ⟨σ2, rfl, R2⟩
  rw [if_neg h23]
  by_cases h24 : am_and (σ 0 x) 63 = 24
  · rw [if_pos h24]
    obtain ⟨r, σ1, σ2, e6, e7, R2, E0, _⟩ := mo_drawn (n := n) (σ := σ) (p1 := σ 0 (x + 1)) (p2 := σ 0 (x + 2)) (p3 := σ 0 (x + 3)) hn R
    rw [if_pos (show (0 : Int) ≤ x + 1 ∧ x + 1 < (L : Int) by omega), if_pos (show (0 : Int) ≤ x + 2 ∧ x + 2 < (L : Int) by omega), if_pos (show (0 : Int) ≤ x + 3 ∧ x + 3 < (L : Int) by omega), e6, am_b2_some, E0, e7, am_b2_some, if_pos rfl]
    exact ⟨σ2, rfl, R2⟩
  rw [if_neg h24]
  by_cases h25 : am_and (σ 0 x) 63 = 25
  · rw [if_pos h25]
    obtain ⟨r, σ1, σ2, e6, e7, R2, E0, _⟩ := mo_image (n := n) (σ := σ) (p1 := σ 0 (x + 1)) hn R
    rw [if_pos (show (0 : Int) ≤ x + 1 ∧ x + 1 < (L : Int) by omega), e6, am_b2_some, E0, e7, am_b2_some, if_pos rfl]
    exact ⟨σ2, rfl, R2⟩
  rw [if_neg h25]
  by_cases h26 : am_and (σ 0 x) 63 = 26
  · rw [if_pos h26]
    obtain ⟨r, σ1, σ2, e6, e7, R2, E0, _⟩ := mo_restore (n := n) (σ := σ) (p1 := σ 0 (x + 1)) hn R
    rw [if_pos (show (0 : Int) ≤ x + 1 ∧ x + 1 < (L : Int) by omega), e6, am_b2_some, E0, e7, am_b2_some, if_pos rfl]
    exact ⟨σ2, rfl, R2⟩
  rw [if_neg h26]
  by_cases h27 : am_and (σ 0 x) 63 = 27
  · rw [if_pos h27]
    obtain ⟨r, σ1, σ2, e6, e7, R2, E0, _⟩ := mo_kind (n := n) (σ := σ) (p1 := σ 0 (x + 1)) hn R
    rw [if_pos (show (0 : Int) ≤ x + 1 ∧ x + 1 < (L : Int) by omega), e6, am_b2_some, E0, e7, am_b2_some, if_pos rfl]
    exact ⟨σ2, rfl, R2⟩
  rw [if_neg h27]
  by_cases h28 : am_and (σ 0 x) 63 = 28
  · rw [if_pos h28]
    obtain ⟨r, σ1, σ2, e6, e7, R2, E0, _⟩ := mo_as (n := n) (σ := σ) (p1 := σ 0 (x + 1)) (p2 := σ 0 (x + 2)) hn R
    rw [if_pos (show (0 : Int) ≤ x + 1 ∧ x + 1 < (L : Int) by omega), if_pos (show (0 : Int) ≤ x + 2 ∧ x + 2 < (L : Int) by omega), e6, am_b2_some, E0, e7, am_b2_some, if_pos rfl]
    exact ⟨σ2, rfl, R2⟩
  rw [if_neg h28]
  by_cases h29 : am_and (σ 0 x) 63 = 29
  · rw [if_pos h29]
    obtain ⟨r, σ1, σ2, e6, e7, R2, E0, _⟩ := mo_ask (n := n) (σ := σ) (p1 := σ 0 (x + 1)) (p2 := σ 0 (x + 2)) hn R
    rw [if_pos (show (0 : Int) ≤ x + 1 ∧ x + 1 < (L : Int) by omega), if_pos (show (0 : Int) ≤ x + 2 ∧ x + 2 < (L : Int) by omega), e6, am_b2_some, E0, e7, am_b2_some, if_pos rfl]
    exact ⟨σ2, rfl, R2⟩
  rw [if_neg h29]
  by_cases h30 : am_and (σ 0 x) 63 = 30
  · rw [if_pos h30]
    obtain ⟨r, σ1, σ2, e6, e7, R2, E0, _⟩ := mo_trace (n := n) (σ := σ) (p1 := σ 0 (x + 1)) hn R
    rw [if_pos (show (0 : Int) ≤ x + 1 ∧ x + 1 < (L : Int) by omega), e6, am_b2_some, E0, e7, am_b2_some, if_pos rfl]
    exact ⟨σ2, rfl, R2⟩
  rw [if_neg h30]
  by_cases h31 : am_and (σ 0 x) 63 = 31
  · rw [if_pos h31]
    obtain ⟨r, σ1, σ2, e6, e7, R2, E0, _⟩ := mo_count (n := n) (σ := σ) (p1 := σ 0 (x + 1)) hn R
    rw [if_pos (show (0 : Int) ≤ x + 1 ∧ x + 1 < (L : Int) by omega), e6, am_b2_some, E0, e7, am_b2_some, if_pos rfl]
    exact ⟨σ2, rfl, R2⟩
  rw [if_neg h31]
  by_cases h32 : am_and (σ 0 x) 63 = 32
  · rw [if_pos h32]
    obtain ⟨r, σ1, σ2, e6, e7, R2, E0, _⟩ := mo_status (n := n) (σ := σ) hn R
    rw [e6, am_b2_some, e7, am_b2_some, if_pos rfl]
    exact ⟨σ2, rfl, R2⟩
  rw [if_neg h32]
  exact ⟨σ, rfl, R⟩
theorem mp_law {n L : Nat} (hn : 10000000000 ≤ n) (hL : L ≤ 512) : ∀ (m fu : Nat) (x : Int) (σ : am_Mem), mr_R σ → 0 ≤ x → (L : Int) ≤ x + 8 * m → x ≤ L + 8 → m < fu → ∃ σ', fl_L_law_18 n 0 L fu x σ = some (1, σ') := by
  intro m
  induction m with
  | zero =>
    intro fu x σ R x0 hx hx2 hf
    obtain ⟨fu, rfl⟩ : ∃ q, fu = q + 1 := ⟨fu - 1, by omega⟩
    refine ⟨σ, ?_⟩
    show fb_L_law_18 n 0 L _ x σ = _
    unfold fb_L_law_18
    rw [am_w_id (z := (L : Int) - 8) (by omega), if_neg (show ¬ x ≤ (L : Int) - 8 by omega)]
  | succ m ih =>
    intro fu x σ R x0 hx hx2 hf
    obtain ⟨fu, rfl⟩ : ∃ q, fu = q + 1 := ⟨fu - 1, by omega⟩
    by_cases g : x + 8 ≤ (L : Int)
    · obtain ⟨σ1, e1, R1⟩ := mp_turn (n := n) (L := L) (x := x) (kh := fun y3 σ => fl_L_law_18 n 0 L fu y3 σ) hn hL R x0 g
      obtain ⟨σ2, e2⟩ := ih fu (x + 8) σ1 R1 (by omega) (by omega) (by omega) (by omega)
      exact ⟨σ2, e1.trans e2⟩
    · refine ⟨σ, ?_⟩
      show fb_L_law_18 n 0 L _ x σ = _
      unfold fb_L_law_18
      rw [am_w_id (z := (L : Int) - 8) (by omega), if_neg (show ¬ x ≤ (L : Int) - 8 by omega)]
