/-! the class reads corners and streets -/
theorem mt_ccorners {n : Nat} {T : Int → Int} {N : Int} (hn : 10000000000 ≤ n) (hT : mt_TN T N) : ∀ (m fu : Nat) (v : Int → Int) (i : Int) (σ : am_Mem), 0 ≤ v 6 → v 6 + m = 7 → m < fu → 0 ≤ i → i ≤ N → mt_CS T N σ i → mt_TC σ v → mt_CR (mt_corners T N m v i) (fl_X4_readCorners_2 n 24 fu (v 6) σ) (fun q σ' => mt_CS T N σ' q.2 ∧ mt_TC σ' q.1 ∧ 0 ≤ q.2 ∧ q.2 ≤ N) := by
  have hN := hT.2.1
  intro m
  induction m with
  | zero =>
    intro fu v i σ c0 hm hf i0 iN h rt
    obtain ⟨fu, rfl⟩ : ∃ q, fu = q + 1 := ⟨fu - 1, by omega⟩
    refine ⟨σ, ?_, h, rt, i0, iN⟩
    show fb_X4_readCorners_2 n 24 _ (v 6) σ = _
    unfold fb_X4_readCorners_2
    rw [if_neg (show ¬ v 6 ≤ 6 by omega)]
  | succ m ih =>
    intro fu v i σ c0 hm hf i0 iN h rt
    obtain ⟨fu, rfl⟩ : ∃ q, fu = q + 1 := ⟨fu - 1, by omega⟩
    show mt_CR (mt_corners T N (m + 1) v i) (fb_X4_readCorners_2 n 24 (fun y2 σ => fl_X4_readCorners_2 n 24 fu y2 σ) (v 6) σ) _
    unfold fb_X4_readCorners_2 mt_corners
    rw [if_pos (show v 6 ≤ 6 by omega), mt_here hT h i0, am_b2_some, mt_ckind, am_b2_some]
    by_cases hk : mt_kind (mt_ch T N i) = 0
    · rw [if_pos hk, if_pos hk]
      by_cases hc : v 6 ≤ 0
      · obtain ⟨σ', e1, b1⟩ := mt_fails (n := n) (σ := σ) (p := i) (k := 1)
        rw [if_pos hc, if_pos hc, h.1, e1, am_b2_some, if_pos rfl]
        exact ⟨σ', rfl, b1⟩
      · rw [if_neg hc, if_neg hc]
        exact ⟨σ, rfl, h, rt, i0, iN⟩
    · rw [if_neg hk, if_neg hk]
      by_cases h6 : v 6 = 6
      · obtain ⟨σ', e1, b1⟩ := mt_fails (n := n) (σ := σ) (p := i) (k := 3)
        rw [if_pos h6, if_pos h6, h.1, e1, am_b2_some, if_pos (Or.inl rfl)]
        exact ⟨σ', rfl, b1⟩
      · have hiN : i < N := by
          refine mt_ch_lt (T := T) ?_
          by_cases q : 0 ≤ mt_ch T N i
          · exact q
          · exact absurd (by unfold mt_kind; rw [if_neg (by omega), if_neg (by omega), if_neg (by omega), if_neg (by omega), if_neg (by omega)]) hk
        have h1 := mt_CS_ne (a := 24 + 1) (j := v 6) (z := mt_kind (mt_ch T N i)) (mt_CS_up (j := i + 1) h) (by decide) (by decide)
        rw [if_neg h6, if_neg h6, h.1, am_w_id (z := i + 1) (by omega), am_b1_some, if_pos (show (0 : Int) ≤ v 6 ∧ v 6 < 6 by omega), am_b1_some]
        unfold mt_corner
        cases a2 : mt_fig T N 0 9 (i + 1) with
        | inl e =>
          obtain ⟨σ', e2, b2⟩ := (mt_cnum (n := n) hn hT h1 (by omega) (by omega)).1 e a2
          rw [e2, am_b2_some, am_b1_some, mv_up_eq, if_pos (show (-1 : Int) < 0 by decide)]
          exact ⟨_, rfl, mt_bad_ne b2 (by decide)⟩
        | inr q =>
          have e2 := (mt_cnum (n := n) hn hT h1 (by omega) (by omega)).2 q a2
          obtain ⟨q1, q2, q3, q4, q5, _, _⟩ := mt_fig_inr a2
          have h2 := mt_CS_ne (a := 24 + 2) (j := v 6) (z := q.1) (mt_CS_up (j := q.2) h1) (by decide) (by decide)
          rw [e2, am_b2_some, am_b1_some, mv_up_eq, if_neg (show ¬ q.1 < 0 by omega)]
          show mt_CR (mt_bd (mt_bd (mt_take T N 44 q.2) _) _) _ _
          cases a3 : mt_take T N 44 q.2 with
          | inl e =>
            obtain ⟨σ', e3, b3⟩ := (mt_ctake (n := n) hT h2 (by omega) (by omega)).1 e a3
            rw [e3, am_b2_some, if_pos rfl]
            exact ⟨σ', rfl, b3⟩
          | inr j2 =>
            have e3 := (mt_ctake (n := n) hT h2 (by omega) (by omega)).2 j2 a3
            obtain ⟨rfl, l3, _⟩ := mt_take_inr (by decide) a3
            have h3 := mt_CS_up (j := q.2 + 1) h2
            rw [e3, am_b2_some, if_neg (show ¬ (1 : Int) = 0 by decide)]
            show mt_CR (mt_bd (mt_bd (mt_fig T N 0 9 (q.2 + 1)) _) _) _ _
            cases a4 : mt_fig T N 0 9 (q.2 + 1) with
            | inl e =>
              obtain ⟨σ', e4, b4⟩ := (mt_cnum (n := n) hn hT h3 (by omega) (by omega)).1 e a4
              rw [e4, am_b2_some, am_b1_some, mv_up_eq, if_pos (show (-1 : Int) < 0 by decide)]
              exact ⟨_, rfl, mt_bad_ne b4 (by decide)⟩
            | inr q' =>
              have e4 := (mt_cnum (n := n) hn hT h3 (by omega) (by omega)).2 q' a4
              obtain ⟨r1, r2, r3, r4, r5, _, _⟩ := mt_fig_inr a4
              have h4 := mt_CS_ne (a := 24 + 3) (j := v 6) (z := q'.1) (mt_CS_up (j := q'.2) h3) (by decide) (by decide)
              rw [e4, am_b2_some, am_b1_some, mv_up_eq, if_neg (show ¬ q'.1 < 0 by omega)]
              show mt_CR (mt_bd (mt_bd (mt_take T N 59 q'.2) _) _) _ _
              cases a5 : mt_take T N 59 q'.2 with
              | inl e =>
                obtain ⟨σ', e5, b5⟩ := (mt_ctake (n := n) hT h4 (by omega) (by omega)).1 e a5
                rw [e5, am_b2_some, if_pos rfl]
                exact ⟨σ', rfl, b5⟩
              | inr j3 =>
                have e5 := (mt_ctake (n := n) hT h4 (by omega) (by omega)).2 j3 a5
                obtain ⟨rfl, l5, _⟩ := mt_take_inr (by decide) a5
                have h5 := mt_CS_ne (a := 24) (j := 5) (z := v 6 + 1) (mt_CS_up (j := q'.2 + 1) h4) (by decide) (by decide)
                rw [e5, am_b2_some, if_neg (show ¬ (1 : Int) = 0 by decide), am_b1_some]
                have x5 : ∀ τ : am_Mem, τ 24 = σ 24 → am_w (τ 24 5 + 1) = v 6 + 1 := by
                  intro τ ht
                  rw [ht, rt.1.1, am_w_id (z := v 6 + 1) (by omega)]
                rw [x5 _ (by simp (disch := decide) only [ah_up_ne]), am_w_id (z := v 6 + 1) (by omega)]
                show mt_CR (mt_corners T N m (mt_addc v (mt_kind (mt_ch T N i)) q.1 q'.1) (q'.2 + 1)) _ _
                have a6 : mt_addc v (mt_kind (mt_ch T N i)) q.1 q'.1 6 = v 6 + 1 := mv_set_eq
                have := ih fu (mt_addc v (mt_kind (mt_ch T N i)) q.1 q'.1) (q'.2 + 1) _ (by omega) (by omega) (by omega) (by omega) (by omega) h5 (by
                  refine mt_TC_c rt c0 (by omega) (fun j hj => ?_) mv_up_eq (fun j hj => ?_) ?_ (fun j hj => ?_) ?_ (fun j hj => ?_) ?_ ?_ ?_
                  · rw [mv_up_j hj]
                    simp (disch := decide) only [ah_up_ne]
                  · rw [ah_up_ne _ _ _ (by decide), ah_up_ne _ _ _ (by decide), ah_up_ne _ _ _ (by decide), ah_up_ne _ _ _ (by decide), ah_up_ne _ _ _ (by decide), ah_up_ne _ _ _ (by decide), ah_up_ne _ _ _ (by decide), mv_up_j hj, ah_up_ne _ _ _ (by decide)]
                  · rw [ah_up_ne _ _ _ (by decide), ah_up_ne _ _ _ (by decide), ah_up_ne _ _ _ (by decide), ah_up_ne _ _ _ (by decide), ah_up_ne _ _ _ (by decide), ah_up_ne _ _ _ (by decide), ah_up_ne _ _ _ (by decide), mv_up_eq]
                  · rw [ah_up_ne _ _ _ (by decide), ah_up_ne _ _ _ (by decide), ah_up_ne _ _ _ (by decide), ah_up_ne _ _ _ (by decide), ah_up_ne _ _ _ (by decide), mv_up_j hj, ah_up_ne _ _ _ (by decide), ah_up_ne _ _ _ (by decide), ah_up_ne _ _ _ (by decide)]
                  · rw [ah_up_ne _ _ _ (by decide), ah_up_ne _ _ _ (by decide), ah_up_ne _ _ _ (by decide), ah_up_ne _ _ _ (by decide), ah_up_ne _ _ _ (by decide), mv_up_eq]
                  · rw [ah_up_ne _ _ _ (by decide), ah_up_ne _ _ _ (by decide), mv_up_j hj, ah_up_ne _ _ _ (by decide), ah_up_ne _ _ _ (by decide), ah_up_ne _ _ _ (by decide), ah_up_ne _ _ _ (by decide), ah_up_ne _ _ _ (by decide), ah_up_ne _ _ _ (by decide)]
                  · rw [ah_up_ne _ _ _ (by decide), ah_up_ne _ _ _ (by decide), mv_up_eq]
                  · simp (disch := decide) only [ah_up_ne]
                  · simp (disch := decide) only [ah_up_ne])
                rw [a6] at this
                exact this
theorem mt_told01 (v : Int → Int) (f t : Int) : ∀ (m : Nat) (x : Int), mt_told v f t m x = 0 ∨ mt_told v f t m x = 1 := by
  intro m
  induction m with
  | zero => intro x; exact Or.inl rfl
  | succ m ih =>
    intro x
    unfold mt_told
    split
    · exact Or.inr rfl
    · exact ih (x + 1)
theorem mt_ctold {n : Nat} {σ : am_Mem} {v : Int → Int} {f t : Int} (rt : mt_TC σ v) (x8 : v 25 ≤ 8) : ∀ (m fu : Nat) (x : Int), 0 ≤ x → x + m = v 25 → m < fu → fl_X4_isTold_2 n 24 fu f t x σ = some (mt_told v f t m x, σ) := by
  intro m
  induction m with
  | zero =>
    intro fu x x0 hx hf
    obtain ⟨fu, rfl⟩ : ∃ q, fu = q + 1 := ⟨fu - 1, by omega⟩
    show fb_X4_isTold_2 n 24 _ f t x σ = _
    unfold fb_X4_isTold_2
    rw [rt.1.2.1, if_neg (show ¬ x < v 25 by omega)]
    rfl
  | succ m ih =>
    intro fu x x0 hx hf
    obtain ⟨fu, rfl⟩ : ∃ q, fu = q + 1 := ⟨fu - 1, by omega⟩
    have q := rt.2.2 x x0 (by omega)
    show fb_X4_isTold_2 n 24 (fun y1 y2 y3 σ => fl_X4_isTold_2 n 24 fu y1 y2 y3 σ) f t x σ = _
    unfold fb_X4_isTold_2 mt_told
    rw [rt.1.2.1, if_pos (show x < v 25 by omega), if_pos (show (0 : Int) ≤ x ∧ x < 8 by omega), q.1, q.2, am_w_id (z := x + 1) (by omega)]
    by_cases h1 : v (26 + 2 * x) = f
    · rw [if_pos h1]
      by_cases h2 : v (27 + 2 * x) = t
      · rw [if_pos h2, if_pos ⟨h1, h2⟩]
      · rw [if_neg h2, if_neg (fun z => h2 z.2)]
        exact ih fu (x + 1) (by omega) (by omega) (by omega)
    · rw [if_neg h1, if_neg (fun z => h1 z.1)]
      exact ih fu (x + 1) (by omega) (by omega) (by omega)
theorem mt_cends {n : Nat} {T : Int → Int} {N i : Int} {v : Int → Int} {σ : am_Mem} (hn : 10000000000 ≤ n) (hT : mt_TN T N) (c0 : 0 ≤ v 6) (c6 : v 6 ≤ 6) (x0 : 0 ≤ v 25) (x7 : v 25 ≤ 7) (i0 : 0 ≤ i) (iN : i ≤ N) (h : mt_CS T N σ i) (rt : mt_TC σ v) : mt_CR (mt_ends T N v i) (f_X4_readEnds n 24 (v 25) σ) (fun q σ' => mt_CS T N σ' q.2.2 ∧ 0 ≤ q.2.2 ∧ q.2.2 ≤ N ∧ σ' 24 = σ 24 ∧ σ' (24 + 1) = σ (24 + 1) ∧ σ' (24 + 2) = σ (24 + 2) ∧ σ' (24 + 3) = σ (24 + 3) ∧ (∀ j : Int, j ≠ v 25 → σ' (24 + 4) j = σ (24 + 4) j) ∧ σ' (24 + 4) (v 25) = q.1 ∧ (∀ j : Int, j ≠ v 25 → σ' (24 + 5) j = σ (24 + 5) j) ∧ σ' (24 + 5) (v 25) = q.2.1) := by
  unfold mt_ends f_X4_readEnds
  rw [rt.1.1, am_w_id (z := v 6 - 1) (by omega)]
  cases a1 : mt_fig T N 0 (v 6 - 1) i with
  | inl e =>
    obtain ⟨σ', e1, b1⟩ := (mt_cnum (n := n) hn hT h i0 iN).1 e a1
    rw [e1, am_b2_some, if_pos (show (-1 : Int) < 0 by decide)]
    exact ⟨σ', rfl, b1⟩
  | inr q =>
    have e1 := (mt_cnum (n := n) hn hT h i0 iN).2 q a1
    obtain ⟨q1, q2, q3, q4, q5, _, _⟩ := mt_fig_inr a1
    have h1 := mt_CS_up (j := q.2) h
    rw [e1, am_b2_some, if_neg (show ¬ q.1 < 0 by omega)]
    show mt_CR (mt_bd (mt_take T N 44 q.2) _) _ _
    cases a2 : mt_take T N 44 q.2 with
    | inl e =>
      obtain ⟨σ', e2, b2⟩ := (mt_ctake (n := n) hT h1 (by omega) (by omega)).1 e a2
      rw [e2, am_b2_some, if_pos rfl]
      exact ⟨σ', rfl, b2⟩
    | inr j2 =>
      have e2 := (mt_ctake (n := n) hT h1 (by omega) (by omega)).2 j2 a2
      obtain ⟨rfl, l2, _⟩ := mt_take_inr (by decide) a2
      have h2 := mt_CS_up (j := q.2 + 1) h1
      rw [e2, am_b2_some, if_neg (show ¬ (1 : Int) = 0 by decide)]
      rw [show (am_up (am_up σ 16 4 q.2) 16 4 (q.2 + 1)) 24 5 = v 6 by rw [ah_up_ne _ _ _ (by decide), ah_up_ne _ _ _ (by decide)]; exact rt.1.1, am_w_id (z := v 6 - 1) (by omega), h2.1]
      show mt_CR (mt_bd (mt_fig T N 0 (v 6 - 1) (q.2 + 1)) _) _ _
      cases a3 : mt_fig T N 0 (v 6 - 1) (q.2 + 1) with
      | inl e =>
        obtain ⟨σ', e3, b3⟩ := (mt_cnum (n := n) hn hT h2 (by omega) (by omega)).1 e a3
        rw [e3, am_b2_some, if_pos (show (-1 : Int) < 0 by decide)]
        exact ⟨σ', rfl, b3⟩
      | inr q' =>
        have e3 := (mt_cnum (n := n) hn hT h2 (by omega) (by omega)).2 q' a3
        obtain ⟨r1, r2, r3, r4, r5, _, _⟩ := mt_fig_inr a3
        have h3 := mt_CS_up (j := q'.2) h2
        have rt3 : mt_TC (am_up (am_up (am_up σ 16 4 q.2) 16 4 (q.2 + 1)) 16 4 q'.2) v := mt_TC_16 (mt_TC_16 (mt_TC_16 rt))
        have et : f_X4_isTold n 24 q.1 q'.1 (am_up (am_up (am_up σ 16 4 q.2) 16 4 (q.2 + 1)) 16 4 q'.2) = some (mt_told v q.1 q'.1 (v 25).toNat 0, am_up (am_up (am_up σ 16 4 q.2) 16 4 (q.2 + 1)) 16 4 q'.2) := mt_ctold rt3 (by omega) (v 25).toNat n 0 (by omega) (by omega) (by omega)
        rw [e3, am_b2_some, if_neg (show ¬ q'.1 < 0 by omega), et]
        obtain ⟨σ', e4, b4⟩ := mt_fails (n := n) (σ := am_up (am_up (am_up σ 16 4 q.2) 16 4 (q.2 + 1)) 16 4 q'.2) (p := q.2 + 1) (k := 2)
        show mt_CR (if q.1 = q'.1 ∨ mt_told v q.1 q'.1 (v 25).toNat 0 = 1 then .inl (q.2 + 1, 2) else mt_bd (mt_take T N 59 q'.2) fun j3 => .inr (q.1, q'.1, j3)) _ _
        by_cases g1 : q.1 = q'.1
        · rw [if_pos g1, if_pos (Or.inl g1), e4, am_b2_some, if_pos (Or.inl rfl)]
          exact ⟨σ', rfl, b4⟩
        · rw [if_neg g1, am_b2_some]
          rcases mt_told01 v q.1 q'.1 (v 25).toNat 0 with g2 | g2
          · rw [g2, if_pos rfl, if_neg (show ¬ (q.1 = q'.1 ∨ (0 : Int) = 1) from fun z => z.elim g1 (by decide)), if_pos (show (0 : Int) ≤ v 25 ∧ v 25 < 8 by omega), am_b1_some, am_b1_some]
            have h5 := mt_CS_ne (a := 24 + 5) (j := v 25) (z := q'.1) (mt_CS_ne (a := 24 + 4) (j := v 25) (z := q.1) h3 (by decide) (by decide)) (by decide) (by decide)
            cases a5 : mt_take T N 59 q'.2 with
            | inl e =>
              obtain ⟨σ', e5, b5⟩ := (mt_ctake (n := n) hT h5 (by omega) (by omega)).1 e a5
              rw [e5, am_b2_some, if_pos (Or.inl rfl)]
              exact ⟨σ', rfl, b5⟩
            | inr j3 =>
              have e5 := (mt_ctake (n := n) hT h5 (by omega) (by omega)).2 j3 a5
              obtain ⟨rfl, l5, _⟩ := mt_take_inr (by decide) a5
              rw [e5, am_b2_some, if_pos (Or.inr rfl)]
              refine ⟨_, rfl, mt_CS_up h5, by show 0 ≤ q'.2 + 1; omega, by show q'.2 + 1 ≤ N; omega, ?_, ?_, ?_, ?_, fun j hj => ?_, ?_, fun j hj => ?_, ?_⟩
              · simp (disch := decide) only [ah_up_ne]
              · simp (disch := decide) only [ah_up_ne]
              · simp (disch := decide) only [ah_up_ne]
              · simp (disch := decide) only [ah_up_ne]
              · rw [ah_up_ne _ _ _ (by decide), ah_up_ne _ _ _ (by decide), mv_up_j hj]
                simp (disch := decide) only [ah_up_ne]
              · rw [ah_up_ne _ _ _ (by decide), ah_up_ne _ _ _ (by decide), mv_up_eq]
              · rw [ah_up_ne _ _ _ (by decide), mv_up_j hj]
                simp (disch := decide) only [ah_up_ne]
              · rw [ah_up_ne _ _ _ (by decide), mv_up_eq]
          · rw [g2, if_neg (show ¬ (1 : Int) = 0 by decide), if_pos (show q.1 = q'.1 ∨ (1 : Int) = 1 from Or.inr rfl), e4, am_b2_some, if_pos (Or.inl rfl)]
            exact ⟨σ', rfl, b4⟩
theorem mt_cstreets {n : Nat} {T : Int → Int} {N : Int} (hn : 10000000000 ≤ n) (hT : mt_TN T N) : ∀ (m fu : Nat) (v : Int → Int) (i : Int) (σ : am_Mem), 0 ≤ v 6 → v 6 ≤ 6 → 0 ≤ v 25 → v 25 + m = 9 → m < fu → 0 ≤ i → i ≤ N → mt_CS T N σ i → mt_TC σ v → mt_CR (mt_streets T N m v i) (fl_X4_readStreets_2 n 24 fu (v 25) σ) (fun q σ' => mt_TC σ' q.1) := by
  have hN := hT.2.1
  intro m
  induction m with
  | zero =>
    intro fu v i σ c0 c6 x0 hm hf i0 iN h rt
    obtain ⟨fu, rfl⟩ : ∃ q, fu = q + 1 := ⟨fu - 1, by omega⟩
    refine ⟨σ, ?_, rt⟩
    show fb_X4_readStreets_2 n 24 _ (v 25) σ = _
    unfold fb_X4_readStreets_2
    rw [if_neg (show ¬ v 25 ≤ 8 by omega)]
  | succ m ih =>
    intro fu v i σ c0 c6 x0 hm hf i0 iN h rt
    obtain ⟨fu, rfl⟩ : ∃ q, fu = q + 1 := ⟨fu - 1, by omega⟩
    show mt_CR (mt_streets T N (m + 1) v i) (fb_X4_readStreets_2 n 24 (fun y2 σ => fl_X4_readStreets_2 n 24 fu y2 σ) (v 25) σ) _
    unfold fb_X4_readStreets_2 mt_streets
    rw [if_pos (show v 25 ≤ 8 by omega), h.1, h.2.1]
    by_cases hi : i < N
    · rw [if_pos hi, if_pos hi, mt_here hT h i0, am_b2_some]
      by_cases hx : mt_ch T N i = 120
      · rw [if_pos hx, if_pos hx]
        by_cases h8 : v 25 = 8
        · obtain ⟨σ', e1, b1⟩ := mt_fails (n := n) (σ := σ) (p := i) (k := 3)
          rw [if_pos h8, if_pos h8, h.1, e1, am_b2_some, if_pos (Or.inl rfl)]
          exact ⟨σ', rfl, b1⟩
        · rw [if_neg h8, if_neg h8, h.1, am_w_id (z := i + 1) (by omega), am_b1_some]
          have E := mt_cends (n := n) hn hT c0 c6 x0 (by omega) (by omega) (by omega) (mt_CS_up (j := i + 1) h) (mt_TC_16 (j := 4) (z := i + 1) rt)
          cases a1 : mt_ends T N v (i + 1) with
          | inl e =>
            rw [a1] at E
            obtain ⟨σ', e1, b1⟩ := E
            rw [e1, am_b2_some, if_pos rfl]
            exact ⟨σ', rfl, b1⟩
          | inr q =>
            rw [a1] at E
            obtain ⟨σ', e1, k1, k2, k3, k4, k5, k6, k7, k8, k9, k10, k11⟩ := E
            rw [e1, am_b2_some, if_neg (show ¬ (1 : Int) = 0 by decide), am_b1_some]
            have e24 : σ' 24 = σ 24 := by rw [k4, ah_up_ne _ _ _ (by decide)]
            rw [e24, rt.1.2.1, am_w_id (z := v 25 + 1) (by omega)]
            show mt_CR (mt_streets T N m (mt_adds v q.1 q.2.1) q.2.2) _ _
            have a25 : mt_adds v q.1 q.2.1 25 = v 25 + 1 := mv_set_eq
            have a6 : mt_adds v q.1 q.2.1 6 = v 6 := by
              unfold mt_adds
              rw [mv_set_ne (by decide), mv_set_ne (by decide), mv_set_ne (by omega), mv_set_ne (by omega)]
            have := ih fu (mt_adds v q.1 q.2.1) q.2.2 (am_up σ' 24 6 (v 25 + 1)) (by omega) (by omega) (by omega) (by omega) (by omega) k2 k3 (mt_CS_ne k1 (by decide) (by decide)) (by
              refine mt_TC_s rt c6 x0 (by omega) (fun j hj => ?_) mv_up_eq ?_ ?_ ?_ (fun j hj => ?_) ?_ (fun j hj => ?_) ?_
              · rw [mv_up_j hj, e24]
              · rw [ah_up_ne _ _ _ (by decide), k5, ah_up_ne _ _ _ (by decide)]
              · rw [ah_up_ne _ _ _ (by decide), k6, ah_up_ne _ _ _ (by decide)]
              · rw [ah_up_ne _ _ _ (by decide), k7, ah_up_ne _ _ _ (by decide)]
              · rw [ah_up_ne _ _ _ (by decide), k8 j hj, ah_up_ne _ _ _ (by decide)]
              · rw [ah_up_ne _ _ _ (by decide), k9]
              · rw [ah_up_ne _ _ _ (by decide), k10 j hj, ah_up_ne _ _ _ (by decide)]
              · rw [ah_up_ne _ _ _ (by decide), k11])
            rw [a25] at this
            exact this
      · rw [if_neg hx, if_neg hx]
        obtain ⟨σ', e1, b1⟩ := mt_fails (n := n) (σ := σ) (p := i) (k := 1)
        rw [h.1, e1, am_b2_some, if_pos (Or.inl rfl)]
        exact ⟨σ', rfl, b1⟩
    · rw [if_neg hi, if_neg hi]
      exact ⟨σ, rfl, rt⟩
