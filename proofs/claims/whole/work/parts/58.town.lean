/-! town: answers alike -/
theorem mt_mzero {n : Nat} : ∀ (m fu : Nat) (x : Int) (σ : am_Mem), 0 ≤ x → x + m = 42 → m < fu → (∀ k : Int, 0 ≤ k → k < x → σ 82 k = 0) → ∃ σ', fl_X7_town_2 n fu x σ = (am_b1 (some (am_up σ' 75 9 0)) fun σ5 => am_b1 (some (am_up σ5 75 8 (-1))) fun σ7 => am_b1 (f_X7_advances n σ7) fun σ11 => if σ11 75 11 = 1 then (if σ11 75 12 = 116 then (fb_X7_town_58 n 1 σ11) else (fb_X7_town_58 n 0 σ11)) else (fb_X7_town_58 n 0 σ11)) ∧ (∀ k : Int, 0 ≤ k → k < 42 → σ' 82 k = 0) ∧ ∀ a : Nat, a ≠ 82 → σ' a = σ a := by
  intro m
  induction m with
  | zero =>
    intro fu x σ x0 hx hf h
    obtain ⟨fu, rfl⟩ : ∃ q, fu = q + 1 := ⟨fu - 1, by omega⟩
    refine ⟨σ, ?_, fun k k0 k1 => h k k0 (by omega), fun _ _ => rfl⟩
    show fb_X7_town_2 n _ x σ = _
    unfold fb_X7_town_2
    rw [if_neg (show ¬ x < 42 by omega)]
  | succ m ih =>
    intro fu x σ x0 hx hf h
    obtain ⟨fu, rfl⟩ : ∃ q, fu = q + 1 := ⟨fu - 1, by omega⟩
    obtain ⟨σ', e, h1, h2⟩ := ih fu (x + 1) (am_up σ 82 x 0) (by omega) (by omega) (by omega) (fun k k0 k1 => by
      by_cases e : k = x
      · rw [e, mv_up_eq]
      · rw [mv_up_j e]
        exact h k k0 (by omega))
    refine ⟨σ', ?_, h1, fun a ha => by rw [h2 a ha, ah_up_ne _ _ _ ha]⟩
    show fb_X7_town_2 n (fun y1 σ => fl_X7_town_2 n fu y1 σ) x σ = _
    unfold fb_X7_town_2
    rw [if_pos (show x < 42 by omega), if_pos (show (0 : Int) ≤ x ∧ x < 42 by omega), am_b1_some, am_w_id (z := x + 1) (by omega)]
    exact e
theorem mt_mread {n : Nat} {T : Int → Int} {N : Int} {σ : am_Mem} (hn : 10000000000 ≤ n) (hT : mt_TN T N) (h : mt_MT T N σ) : mt_MV T N n σ (mt_text T N) (f_X7_town n σ) := by
  obtain ⟨σ1, e1, z1, F1⟩ := mt_mzero (n := n) 42 n 0 σ (by omega) (by omega) (by omega) (fun k k0 k1 => by omega)
  have e1 : f_X7_town n σ = _ := e1
  have m1 : mt_MT T N σ1 := by
    unfold mt_MT
    rw [F1 75 (by decide), F1 80 (by decide)]
    exact h
  have m2 : mt_MT T N (am_up (am_up σ1 75 9 0) 75 8 (-1)) := mt_MT_75 (mt_MT_75 m1 (by decide)) (by decide)
  obtain ⟨σ2, e2, t2⟩ := mt_madv (n := n) (i := 0) hn hT m2 (by rw [mv_up_j (by decide), mv_up_eq]) (by decide) hT.1
  have F := w_X7_advances e2
  have G := v75_X7_advances e2
  rw [e1, am_b1_some, am_b1_some, e2, am_b1_some]
  refine mt_m58 hn hT ⟨?_, ⟨?_, ?_, ?_⟩, ⟨?_, ?_⟩, t2, ?_, by decide, hT.1⟩
  · rw [G 8 (by unfold nf75_X7_advances; decide), mv_up_eq]; decide
  · rw [G 7 (by unfold nf75_X7_advances; decide), mv_up_j (by decide), mv_up_j (by decide), F1 75 (by decide)]
  · rw [F 81 (by unfold nw_X7_advances; decide), ah_up_ne _ _ _ (by decide), ah_up_ne _ _ _ (by decide), F1 81 (by decide)]
  · rw [G 17 (by unfold nf75_X7_advances; decide), mv_up_j (by decide), mv_up_j (by decide), F1 75 (by decide)]
  · rw [G 6 (by unfold nf75_X7_advances; decide)]; exact m2.1
  · rw [F 80 (by unfold nw_X7_advances; decide)]; exact m2.2
  · intro k k0 k1
    rw [F 82 (by unfold nw_X7_advances; decide), ah_up_ne _ _ _ (by decide), ah_up_ne _ _ _ (by decide)]
    exact z1 k k0 k1
theorem ma_town {n : Nat} {σ : am_Mem} {v : Int → Int} (hn : 10000000000 ≤ n) (R1 : mr_town σ v) (R2 : mr_acts σ v) (R3 : mr_tape σ) (R4 : mr_ft σ) : ∃ r σ1 σ2 v', f_X6_town n σ = some (r, σ1) ∧ f_X7_town n σ1 = some (r, σ2) ∧ mr_town σ2 v' ∧ mr_acts σ2 v' ∧ mr_tape σ2 ∧ mr_ft σ2 := by
  have hT : mt_TN (σ 80) (σ 75 6) := ⟨R3.2.1, R3.2.2.1, fun k k0 k1 => (R3.2.2.2 k k0 k1).2⟩
  have C := mt_cread (n := n) hn hT R3.1 (fun k k0 k1 => (R3.2.2.2 k k0 k1).1)
  cases hx : mt_text (σ 80) (σ 75 6) with
  | inl e =>
    rw [hx] at C
    obtain ⟨σ3, e3, b3⟩ := C
    have F3 := w_X4_readInto e3
    have A6 : f_X6_town n σ = some (am_w ((-1000100) - e.1), am_up (am_up σ3 16 1 0) 3 9 e.2) := by
      unfold f_X6_town
      rw [e3, am_b2_some, am_b1_some, if_pos rfl, mv_up_j (show (2 : Int) ≠ 1 by decide), b3.2, am_b1_some, ah_up_ne _ _ _ (show (16 : Nat) ≠ 3 by decide), mv_up_j (show (3 : Int) ≠ 1 by decide), b3.1]
    have N1 : ∀ a : Nat, a ≠ 16 → a ≠ 3 → (a < 24 ∨ 29 < a) → (am_up (am_up σ3 16 1 0) 3 9 e.2) a = σ a := by
      intro a a1 a2 a3
      rw [ah_up_ne _ _ _ a2, ah_up_ne _ _ _ a1]
      exact F3 a (by unfold nw_X4_readInto; omega)
    generalize hσ1 : am_up (am_up σ3 16 1 0) 3 9 e.2 = σ1 at A6 N1
    have M := mt_mread (n := n) (T := σ 80) (N := σ 75 6) (σ := σ1) hn hT ⟨by rw [N1 75 (by decide) (by decide) (by decide)], fun k _ _ => by rw [N1 80 (by decide) (by decide) (by decide)]⟩
    rw [hx] at M
    obtain ⟨σ', e', m'⟩ := M
    have A7 : f_X7_town n σ1 = some (am_w ((-1000100) - e.1), am_up σ' 75 6 0) := by
      rw [e']
      unfold fb_X7_town_224
      have m0 : mt_MF σ1 (am_up σ' 75 6 0) e := by
        obtain ⟨q1, q2, q3, q4, q5, q6, q7⟩ := m'
        refine ⟨?_, q2, ?_, ?_, ?_, ?_, ?_⟩
        · rw [mv_up_j (by decide)]; exact q1
        · rw [mv_up_j (by decide)]; exact q3
        · rw [ah_up_ne _ _ _ (by decide)]; exact q4
        · rw [ah_up_ne _ _ _ (by decide)]; exact q5
        · rw [ah_up_ne _ _ _ (by decide)]; exact q6
        · rw [mv_up_j (by decide)]; exact q7
      rw [am_b1_some, mt_fwell m0, am_b2_some, if_pos rfl, m0.1]
    have F7 := w_X7_town A7
    have N2 : ∀ a : Nat, a ≠ 16 → a ≠ 3 → (a < 24 ∨ 29 < a) → a ≠ 75 → a ≠ 82 → (am_up σ' 75 6 0) a = σ a := by
      intro a a1 a2 a3 a4 a5
      by_cases h81 : a = 81
      · subst h81
        rw [ah_up_ne _ _ _ (by decide), m'.2.2.2.2.2.1]
        exact N1 81 (by decide) (by decide) (by decide)
      · rw [F7 a (by unfold nw_X7_town; omega)]
        exact N1 a a1 a2 a3
    have s16 : (am_up σ' 75 6 0) 16 1 = 0 := by
      rw [F7 16 (by unfold nw_X7_town; decide), ← hσ1, ah_up_ne _ _ _ (by decide), mv_up_eq]
    have s3 : (am_up σ' 75 6 0) 3 9 = e.2 := by
      rw [F7 3 (by unfold nw_X7_town; decide), ← hσ1, mv_up_eq]
    refine ⟨_, σ1, _, v, A6, A7, mr_town_fr R1 (fun a ha => N2 a (by omega) (by omega) (by omega) (by omega) (by omega)), mr_acts_fr R2 (fun a ha => N2 a (by omega) (by omega) (by omega) (by omega) (by omega)) ?_, ?_, ?_⟩
    · rw [mv_up_j (by decide), m'.2.2.2.2.2.2, N1 75 (by decide) (by decide) (by decide)]
    · refine ⟨?_, ?_, ?_, fun i i0 i1 => ?_⟩
      · rw [s16, mv_up_eq]
      · rw [mv_up_eq]; decide
      · rw [mv_up_eq]; decide
      · rw [mv_up_eq] at i1
        omega
    · unfold mr_ft
      rw [s3, mv_up_j (by decide), m'.2.2.1]
  | inr v' =>
    rw [hx] at C
    obtain ⟨σ3, e3, r3⟩ := C
    obtain ⟨W', h6⟩ := mt_text_W hx
    have w' := mt_W_WF W' h6
    have F3 := w_X4_readInto e3
    have r4 : mv_TR (am_up σ3 16 1 0) 24 v' := mv_TR_fr r3 (ah_up_ne _ _ _ (by decide)) (ah_up_ne _ _ _ (by decide)) (ah_up_ne _ _ _ (by decide)) (ah_up_ne _ _ _ (by decide)) (ah_up_ne _ _ _ (by decide)) (ah_up_ne _ _ _ (by decide))
    obtain ⟨σ5, e5, r5⟩ := mv_become (n := n) (t := 18) (u := 24) (Or.inr (by decide)) r4 w'
    have F5 := w_X5_become e5
    have A6 : f_X6_town n σ = some (v' 25, am_up (am_up σ5 43 1 0) 43 2 0) := by
      unfold f_X6_town f_X0_forget
      rw [e3, am_b2_some, am_b1_some, if_neg (show ¬ (1 : Int) = 0 by decide), e5]
      simp only [am_b1_some]
      rw [ah_up_ne _ _ _ (show (18 : Nat) ≠ 43 by decide), ah_up_ne _ _ _ (show (18 : Nat) ≠ 43 by decide), r5.1.2.1]
    have N1 : ∀ a : Nat, a ≠ 16 → a ≠ 43 → (a < 18 ∨ 29 < a) → (am_up (am_up σ5 43 1 0) 43 2 0) a = σ a := by
      intro a a1 a2 a3
      rw [ah_up_ne _ _ _ a2, ah_up_ne _ _ _ a2, F5 a (by unfold nw_X5_become; omega), ah_up_ne _ _ _ a1]
      exact F3 a (by unfold nw_X4_readInto; omega)
    have r6 : mv_TR (am_up (am_up σ5 43 1 0) 43 2 0) 18 v' := mv_TR_fr r5 (by rw [ah_up_ne _ _ _ (by decide), ah_up_ne _ _ _ (by decide)]) (by rw [ah_up_ne _ _ _ (by decide), ah_up_ne _ _ _ (by decide)]) (by rw [ah_up_ne _ _ _ (by decide), ah_up_ne _ _ _ (by decide)]) (by rw [ah_up_ne _ _ _ (by decide), ah_up_ne _ _ _ (by decide)]) (by rw [ah_up_ne _ _ _ (by decide), ah_up_ne _ _ _ (by decide)]) (by rw [ah_up_ne _ _ _ (by decide), ah_up_ne _ _ _ (by decide)])
    have t16 : (am_up (am_up σ5 43 1 0) 43 2 0) 16 1 = 0 := by
      rw [ah_up_ne _ _ _ (by decide), ah_up_ne _ _ _ (by decide), F5 16 (by unfold nw_X5_become; decide), mv_up_eq]
    have t43 : (am_up (am_up σ5 43 1 0) 43 2 0) 43 1 = 0 ∧ (am_up (am_up σ5 43 1 0) 43 2 0) 43 2 = 0 := ⟨by rw [mv_up_j (by decide), mv_up_eq], mv_up_eq⟩
    generalize am_up (am_up σ5 43 1 0) 43 2 0 = σ1 at A6 N1 r6 t16 t43
    have M := mt_mread (n := n) (T := σ 80) (N := σ 75 6) (σ := σ1) hn hT ⟨by rw [N1 75 (by decide) (by decide) (by decide)], fun k _ _ => by rw [N1 80 (by decide) (by decide) (by decide)]⟩
    rw [hx] at M
    obtain ⟨σ', j, e', m'⟩ := M
    obtain ⟨q1, q2, q3, q4, q5, q6, q7⟩ := m'
    obtain ⟨σ8, e8, c8, _⟩ := mv_copies (n := n) (p := 82) (q := 81) (pn := 42) (qn := 42) (σ := am_up σ' 75 6 0) (a := 0) (b := 0) (by omega) (by decide) (by decide) (by decide) (by decide) (by decide) (by decide) (by decide)
    have F8 := w_X7_copies e8
    have G8 : ∀ a : Nat, a ≠ 81 → σ8 a = (am_up σ' 75 6 0) a := fun a ha => F8 a (by unfold nw_X7_copies; exact ha)
    have v8 : mv_V0 (am_up σ8 75 17 0) 81 v' := by
      intro k k0 k1
      have c := c8 k k0 k1
      rw [show (0 : Int) + k = k by omega, ah_up_ne _ _ _ (show (82 : Nat) ≠ 75 by decide), q5 k k0 k1] at c
      rw [ah_up_ne _ _ _ (by decide)]
      exact c
    have A7 : f_X7_town n σ1 = some (v' 25, am_up σ8 75 17 0) := by
      rw [e']
      unfold fb_X7_town_224 f_X7_isWell
      rw [am_b1_some, mv_up_j (show (8 : Int) ≠ 6 by decide), if_pos q1, am_b2_some, if_neg (show ¬ (1 : Int) = 0 by decide), e8, am_b1_some, am_b1_some, v8 25 (by decide) (by decide)]
    have F7 := w_X7_town A7
    have N2 : ∀ a : Nat, a ≠ 75 → a ≠ 81 → a ≠ 82 → (am_up σ8 75 17 0) a = σ1 a := fun a a1 a2 a3 => F7 a (by unfold nw_X7_town; omega)
    refine ⟨v' 25, σ1, am_up σ8 75 17 0, v', A6, A7, ⟨w', by have := W'.1.2.2.2.2.2.2.2.2.2.1; omega, mv_TR_fr r6 (N2 _ (by decide) (by decide) (by decide)) (N2 _ (by decide) (by decide) (by decide)) (N2 _ (by decide) (by decide) (by decide)) (N2 _ (by decide) (by decide) (by decide)) (N2 _ (by decide) (by decide) (by decide)) (N2 _ (by decide) (by decide) (by decide)), v8⟩, ?_, ?_, ?_⟩
    · unfold mr_acts
      rw [mv_up_eq, N2 43 (by decide) (by decide) (by decide), t43.1, t43.2]
      exact ⟨rfl, by decide, by decide, by decide, by decide, fun _ => v', fun k _ _ => rfl, fun i i0 i1 => by omega⟩
    · have z : (am_up σ8 75 17 0) 75 6 = 0 := by
        rw [mv_up_j (by decide), G8 75 (by decide), mv_up_eq]
      refine ⟨?_, ?_, ?_, fun i i0 i1 => ?_⟩
      · rw [z, N2 16 (by decide) (by decide) (by decide), t16]
      · rw [z]; decide
      · rw [z]; decide
      · rw [z] at i1
        omega
    · unfold mr_ft
      rw [N2 3 (by decide) (by decide) (by decide), N1 3 (by decide) (by decide) (by decide), mv_up_j (by decide), G8 75 (by decide), mv_up_j (by decide), q2.1, N1 75 (by decide) (by decide) (by decide)]
      exact R4
