/-! acts -/
theorem mv_tm {z : Int} (h : 0 ≤ z) : Int.tmod z 24 = z % 24 := Int.tmod_eq_emod_of_nonneg h
theorem mv_keep32 {n : Nat} {σ : am_Mem} {w a b c : Int} (hk : 0 ≤ σ 43 2 ∧ σ 43 2 < 24) (ho : 0 ≤ σ 43 1 ∧ σ 43 1 < 24) : ∃ σ', fb_X0_keep_32 n w a b c σ = some σ' ∧ σ' 43 1 = σ 43 1 ∧ σ' 43 2 = σ 43 2 + 1 ∧ (σ' (45 + (Int.tmod (σ 43 1 + σ 43 2) 24).toNat) 0 = w ∧ σ' (45 + (Int.tmod (σ 43 1 + σ 43 2) 24).toNat) 1 = a ∧ σ' (45 + (Int.tmod (σ 43 1 + σ 43 2) 24).toNat) 2 = b ∧ σ' (45 + (Int.tmod (σ 43 1 + σ 43 2) 24).toNat) 3 = c) ∧ ∀ e : Nat, e ≠ 43 → e ≠ 45 + (Int.tmod (σ 43 1 + σ 43 2) 24).toNat → σ' e = σ e := by
  have ht := mv_tm (z := σ 43 1 + σ 43 2) (by omega)
  unfold fb_X0_keep_32
  rw [am_w_id (z := σ 43 1 + σ 43 2) (by omega), if_pos (by omega)]
  have hq : 45 ≤ 45 + (Int.tmod (σ 43 1 + σ 43 2) 24).toNat := by omega
  generalize 45 + (Int.tmod (σ 43 1 + σ 43 2) 24).toNat = q at hq
  simp only [am_b1_some]
  refine ⟨_, rfl, ?_, ?_, ⟨?_, ?_, ?_, ?_⟩, ?_⟩
  · simp (disch := omega) only [am_b2_some, am_b1_some, am_w_id, or_true, true_or, reduceIte, if_pos, if_neg, ah_up_ne, mv_up_j, mv_up_eq]
  · simp (disch := omega) only [am_b2_some, am_b1_some, am_w_id, or_true, true_or, reduceIte, if_pos, if_neg, ah_up_ne, mv_up_j, mv_up_eq]
  · simp (disch := omega) only [am_b2_some, am_b1_some, am_w_id, or_true, true_or, reduceIte, if_pos, if_neg, ah_up_ne, mv_up_j, mv_up_eq]
  · simp (disch := omega) only [am_b2_some, am_b1_some, am_w_id, or_true, true_or, reduceIte, if_pos, if_neg, ah_up_ne, mv_up_j, mv_up_eq]
  · simp (disch := omega) only [am_b2_some, am_b1_some, am_w_id, or_true, true_or, reduceIte, if_pos, if_neg, ah_up_ne, mv_up_j, mv_up_eq]
  · simp (disch := omega) only [am_b2_some, am_b1_some, am_w_id, or_true, true_or, reduceIte, if_pos, if_neg, ah_up_ne, mv_up_j, mv_up_eq]
  · intro e h1 h2
    simp (disch := omega) only [am_b2_some, am_b1_some, am_w_id, or_true, true_or, reduceIte, if_pos, if_neg, ah_up_ne, mv_up_j, mv_up_eq]
theorem mv_keep {n : Nat} {σ : am_Mem} {w a b c : Int} (hk : 0 ≤ σ 43 2 ∧ σ 43 2 ≤ 24) (ho : 0 ≤ σ 43 1 ∧ σ 43 1 < 24) : ∃ σ' o k, f_X0_keep n w a b c σ = some σ' ∧ ((σ 43 2 = 24 ∧ k = 23 ∧ o = (σ 43 1 + 1) % 24) ∨ (σ 43 2 < 24 ∧ k = σ 43 2 ∧ o = σ 43 1)) ∧ σ' 43 1 = o ∧ σ' 43 2 = k + 1 ∧ (σ' (45 + (Int.tmod (o + k) 24).toNat) 0 = w ∧ σ' (45 + (Int.tmod (o + k) 24).toNat) 1 = a ∧ σ' (45 + (Int.tmod (o + k) 24).toNat) 2 = b ∧ σ' (45 + (Int.tmod (o + k) 24).toNat) 3 = c) ∧ ∀ e : Nat, e ≠ 43 → e ≠ 45 + (Int.tmod (o + k) 24).toNat → σ' e = σ e := by
  unfold f_X0_keep
  by_cases h : σ 43 2 = 24
  · have ht := mv_tm (z := σ 43 1 + 1) (by omega)
    have e1 : (am_up (am_up σ 43 1 (Int.tmod (σ 43 1 + 1) 24)) 43 2 (σ 43 2 - 1)) 43 1 = (σ 43 1 + 1) % 24 := by
      rw [mv_up_j (by decide), mv_up_eq, ht]
    have e2 : (am_up (am_up σ 43 1 (Int.tmod (σ 43 1 + 1) 24)) 43 2 (σ 43 2 - 1)) 43 2 = 23 := by
      rw [mv_up_eq]; omega
    obtain ⟨σ', f, g1, g2, g3, g4⟩ := mv_keep32 (n := n) (w := w) (a := a) (b := b) (c := c) (σ := am_up (am_up σ 43 1 (Int.tmod (σ 43 1 + 1) 24)) 43 2 (σ 43 2 - 1)) (by rw [e2]; omega) (by rw [e1]; omega)
    rw [e1, e2] at g3 g4
    rw [e1] at g1
    rw [e2] at g2
    rw [if_pos h, am_b1_some, am_b1_some, am_w_id (z := σ 43 1 + 1) (by omega), mv_up_j (by decide), am_w_id (z := σ 43 2 - 1) (by omega)]
    refine ⟨σ', (σ 43 1 + 1) % 24, 23, f, Or.inl ⟨h, rfl, rfl⟩, g1, g2, g3, ?_⟩
    intro e h1 h2
    rw [g4 e h1 h2, ah_up_ne _ _ _ h1, ah_up_ne _ _ _ h1]
  · obtain ⟨σ', f, g1, g2, g3, g4⟩ := mv_keep32 (n := n) (w := w) (a := a) (b := b) (c := c) (σ := σ) (by omega) ho
    rw [if_neg h]
    exact ⟨σ', σ 43 1, σ 43 2, f, Or.inr ⟨by omega, rfl, rfl⟩, g1, g2, g3, g4⟩
theorem mv_notes49 {n : Nat} {σ : am_Mem} (hn : 10000000000 ≤ n) (hk : 0 ≤ σ 75 17 ∧ σ 75 17 < 24) : ∃ σ', fb_X7_notes_49 n σ = some σ' ∧ σ' 75 17 = σ 75 17 + 1 ∧ (∀ j : Int, 0 ≤ j → j < 42 → σ' 84 (42 * σ 75 17 + j) = σ 81 j) ∧ (∀ j : Int, j < 42 * σ 75 17 → σ' 84 j = σ 84 j) := by
  unfold fb_X7_notes_49
  obtain ⟨σ', e, q1, q2⟩ := mv_copies (n := n) (p := 81) (q := 84) (pn := 42) (qn := 1008) (σ := σ) (a := 0) (b := 42 * σ 75 17) (by omega) (by decide) (by omega) (by omega) (by omega) (by omega) (by omega) (by omega)
  have f := w_X7_copies e
  rw [am_w_id (by omega), e, am_b1_some, am_b1_some, f 75 (by unfold nw_X7_copies; decide), am_w_id (by omega)]
  refine ⟨_, rfl, mv_up_eq, ?_, ?_⟩
  · intro j j0 j1
    rw [ah_up_ne _ _ _ (by decide), q1 j j0 j1, Int.zero_add]
  · intro j hj
    rw [ah_up_ne _ _ _ (by decide), q2 j (by omega)]
theorem mv_notes11 {n : Nat} {σ0 : am_Mem} (hA : σ0 75 17 = 24) : ∀ (m : Nat) (x : Int) (σ : am_Mem), 0 ≤ x → x ≤ 966 → 966 - x < m → (∀ j : Int, 0 ≤ j → j < x → σ 84 j = σ0 84 (j + 42)) → (∀ j : Int, x ≤ j → σ 84 j = σ0 84 j) → (∀ a : Nat, a ≠ 84 → σ a = σ0 a) → ∃ σ', fl_X7_notes_11 n m x σ = fb_X7_notes_49 n (am_up σ' 75 17 23) ∧ (∀ j : Int, 0 ≤ j → j < 966 → σ' 84 j = σ0 84 (j + 42)) ∧ ∀ a : Nat, a ≠ 84 → σ' a = σ0 a := by
  intro m
  induction m with
  | zero => intro x σ _ _ h; omega
  | succ m ih =>
    intro x σ x0 x1 hm h1 h2 h3
    unfold fl_X7_notes_11 fb_X7_notes_11
    by_cases hx : x < 966
    · rw [if_pos hx, am_w_id (z := x + 42) (by omega), if_pos (by omega), if_pos (by omega), am_b1_some, am_w_id (by omega)]
      refine ih (x + 1) _ (by omega) (by omega) (by omega) ?_ ?_ ?_
      · intro j j0 j1
        by_cases hj : j = x
        · subst hj
          rw [mv_up_eq, h2 _ (by omega)]
        · rw [mv_up_j hj, h1 j j0 (by omega)]
      · intro j hj
        rw [mv_up_j (by omega), h2 j (by omega)]
      · intro a ha
        rw [ah_up_ne _ _ _ ha, h3 a ha]
    · rw [if_neg hx, am_b1_some, h3 75 (by decide), hA, am_w_id (by decide)]
      exact ⟨σ, rfl, fun j j0 j1 => h1 j j0 (by omega), h3⟩
theorem mv_notes {n : Nat} {σ : am_Mem} (hn : 10000000000 ≤ n) (hk : 0 ≤ σ 75 17 ∧ σ 75 17 ≤ 24) : ∃ σ' k s, f_X7_notes n σ = some σ' ∧ ((σ 75 17 = 24 ∧ k = 23 ∧ s = 1) ∨ (σ 75 17 < 24 ∧ k = σ 75 17 ∧ s = 0)) ∧ σ' 75 17 = k + 1 ∧ (∀ j : Int, 0 ≤ j → j < 42 → σ' 84 (42 * k + j) = σ 81 j) ∧ (∀ j : Int, 0 ≤ j → j < 42 * k → σ' 84 j = σ 84 (j + 42 * s)) := by
  unfold f_X7_notes
  by_cases h : σ 75 17 = 24
  · rw [if_pos h]
    obtain ⟨τ, e, q1, q2⟩ := mv_notes11 (n := n) (σ0 := σ) h n 0 σ (by omega) (by omega) (by omega) (fun j j0 j1 => by omega) (fun _ _ => rfl) (fun _ _ => rfl)
    have e75 : (am_up τ 75 17 23) 75 17 = 23 := mv_up_eq
    obtain ⟨σ', f, g1, g2, g3⟩ := mv_notes49 (n := n) (σ := am_up τ 75 17 23) hn (by rw [e75]; omega)
    rw [e75] at g1 g2 g3
    rw [e]
    refine ⟨σ', 23, 1, f, Or.inl ⟨h, rfl, rfl⟩, g1, ?_, ?_⟩
    · intro j j0 j1
      rw [g2 j j0 j1, ah_up_ne _ _ _ (by decide), q2 81 (by decide)]
    · intro j j0 j1
      rw [g3 j j1, ah_up_ne _ _ _ (by decide), q1 j j0 (by omega), Int.mul_one]
  · rw [if_neg h]
    obtain ⟨σ', f, g1, g2, g3⟩ := mv_notes49 (n := n) (σ := σ) hn (by omega)
    refine ⟨σ', σ 75 17, 0, f, Or.inr ⟨by omega, rfl, rfl⟩, g1, g2, ?_⟩
    intro j j0 j1
    rw [g3 j j1, Int.mul_zero, Int.add_zero]
theorem mr_push {σ τ : am_Mem} {v v' : Int → Int} {o k s : Int} (R : mr_acts σ v) (w : mv_WF v) (w3 : v 3 ≤ 999) (r2 : mv_V0 σ 81 v)
    (hc : (σ 43 2 = 24 ∧ k = 23 ∧ o = (σ 43 1 + 1) % 24) ∨ (σ 43 2 < 24 ∧ k = σ 43 2 ∧ o = σ 43 1)) (hs : (σ 75 17 = 24 ∧ k = 23 ∧ s = 1) ∨ (σ 75 17 < 24 ∧ k = σ 75 17 ∧ s = 0))
    (t1 : τ 43 1 = o) (t2 : τ 43 2 = k + 1) (t3 : τ 75 17 = k + 1) (t4 : ∀ e : Nat, 45 ≤ e → e ≤ 68 → e ≠ 45 + (Int.tmod (o + k) 24).toNat → τ e = σ e)
    (t5 : ∀ j : Int, 0 ≤ j → j < 42 → τ 84 (42 * k + j) = σ 81 j) (t6 : ∀ j : Int, 0 ≤ j → j < 42 * k → τ 84 j = σ 84 (j + 42 * s)) (t7 : mr_un τ (45 + (Int.tmod (o + k) 24).toNat) v' v) : mr_acts τ v' := by
  obtain ⟨h1, h2, h3, h4, h5, P, h6, h7⟩ := R
  have ho : 0 ≤ o ∧ o < 24 := by omega
  have hk : 0 ≤ k ∧ k ≤ 23 := by omega
  have hks : k + s = σ 75 17 := by omega
  have hs0 : 0 ≤ s := by omega
  have hos : ∀ i : Int, 0 ≤ i → (o + i) % 24 = (σ 43 1 + (i + s)) % 24 := by intro i i0; omega
  refine ⟨by omega, by omega, by omega, by omega, by omega, fun i => if i ≤ k then P (i + s) else v', ?_, ?_⟩
  · intro j j0 j1
    show (if τ 75 17 ≤ k then P (τ 75 17 + s) else v') j = v' j
    rw [if_neg (by omega)]
  · intro i i0 i1
    rw [t3] at i1
    rw [t1]
    show mv_VR τ 84 (42 * i) (if i ≤ k then P (i + s) else v') ∧ mr_un τ (45 + (Int.tmod (o + i) 24).toNat) (if i + 1 ≤ k then P (i + 1 + s) else v') (if i ≤ k then P (i + s) else v') ∧ mv_WF (if i ≤ k then P (i + s) else v') ∧ (if i ≤ k then P (i + s) else v') 3 ≤ 999
    rw [if_pos (show i ≤ k by omega)]
    by_cases hi : i = k
    · subst hi
      rw [if_neg (by omega)]
      have e : P (i + s) = P (σ 75 17) := by rw [hks]
      rw [e]
      refine ⟨?_, ?_, ?_, ?_⟩
      · intro j j0 j1
        rw [t5 j j0 j1, r2 j j0 j1, h6 j j0 j1]
      · rcases t7 with ⟨a1, a2⟩ | ⟨a1, a2, a3, a4⟩ | ⟨a1, a2⟩ | ⟨a1, a2⟩
        · exact Or.inl ⟨a1, fun j j0 j1 => by rw [h6 j j0 j1]; exact a2 j j0 j1⟩
        · exact Or.inr (Or.inl ⟨a1, a2, a3, fun j j0 j1 => by rw [h6 j j0 j1]; exact a4 j j0 j1⟩)
        · exact Or.inr (Or.inr (Or.inl ⟨a1, fun j j0 j1 => by rw [h6 j j0 j1]; exact a2 j j0 j1⟩))
        · exact Or.inr (Or.inr (Or.inr ⟨a1, fun j j0 j1 => by rw [h6 j j0 j1]; exact a2 j j0 j1⟩))
      · exact mv_WF_v w h6
      · rw [h6 3 (by decide) (by decide)]; exact w3
    · rw [if_pos (show i + 1 ≤ k by omega)]
      obtain ⟨b1, b2, b3, b4⟩ := h7 (i + s) (by omega) (by omega)
      have m1 := mv_tm (z := o + i) (by omega)
      have m2 := mv_tm (z := o + k) (by omega)
      have m3 := mv_tm (z := σ 43 1 + (i + s)) (by omega)
      have m4 := hos i i0
      have m5 := hos k hk.1
      have eq : 45 + (Int.tmod (o + i) 24).toNat = 45 + (Int.tmod (σ 43 1 + (i + s)) 24).toNat := by rw [m1, m3, m4]
      refine ⟨?_, ?_, b3, b4⟩
      · intro j j0 j1
        rw [t6 _ (by omega) (by omega)]
        have := b1 j j0 j1
        rw [← this]
        congr 1
        omega
      · have e2 : P (i + 1 + s) = P (i + s + 1) := by
          congr 1
          omega
        rw [e2, eq]
        refine mr_un_fr b2 (t4 _ (by omega) (by omega) (by omega))
