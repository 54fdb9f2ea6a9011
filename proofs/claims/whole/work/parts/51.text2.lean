/-! the class reads a town -/
def mt_CR {α : Type} (x : mt_S α) (o : Option (Int × am_Mem)) (ok : α → am_Mem → Prop) : Prop := match x with
  | .inl e => ∃ σ', o = some (0, σ') ∧ mt_bad σ' e
  | .inr a => ∃ σ', o = some (1, σ') ∧ ok a σ'
/-- the class's town that is being read -/
def mt_TC (σ : am_Mem) (v : Int → Int) : Prop :=
  (σ 24 5 = v 6 ∧ σ 24 6 = v 25 ∧ σ 24 7 = v 0 ∧ σ 24 8 = 0 ∧ σ 24 9 = v 4 ∧ σ 24 10 = v 1 ∧ σ 24 11 = v 2 ∧ σ 24 12 = v 3)
  ∧ (∀ c : Int, 0 ≤ c → c < v 6 → σ (24 + 1) c = v (7 + 3 * c) ∧ σ (24 + 2) c = v (8 + 3 * c) ∧ σ (24 + 3) c = v (9 + 3 * c))
  ∧ (∀ x : Int, 0 ≤ x → x < v 25 → σ (24 + 4) x = v (26 + 2 * x) ∧ σ (24 + 5) x = v (27 + 2 * x))
theorem mt_TC_fr {σ σ' : am_Mem} {v : Int → Int} (h : mt_TC σ v) (e : ∀ a : Nat, 24 ≤ a → a ≤ 29 → σ' a = σ a) : mt_TC σ' v := by
  unfold mt_TC
  rw [e 24 (by decide) (by decide), e (24 + 1) (by decide) (by decide), e (24 + 2) (by decide) (by decide), e (24 + 3) (by decide) (by decide), e (24 + 4) (by decide) (by decide), e (24 + 5) (by decide) (by decide)]
  exact h
theorem mt_TC_16 {σ : am_Mem} {v : Int → Int} {j z : Int} (h : mt_TC σ v) : mt_TC (am_up σ 16 j z) v := mt_TC_fr h (fun a a1 a2 => ah_up_ne _ _ _ (by omega))
theorem mt_TC_c {σ σ' : am_Mem} {v : Int → Int} {kd mu fe : Int} (h : mt_TC σ v) (c0 : 0 ≤ v 6) (c5 : v 6 ≤ 5) (e0 : ∀ j : Int, j ≠ 5 → σ' 24 j = σ 24 j) (e5 : σ' 24 5 = v 6 + 1)
    (e1 : ∀ j : Int, j ≠ v 6 → σ' (24 + 1) j = σ (24 + 1) j) (g1 : σ' (24 + 1) (v 6) = kd) (e2 : ∀ j : Int, j ≠ v 6 → σ' (24 + 2) j = σ (24 + 2) j) (g2 : σ' (24 + 2) (v 6) = mu) (e3 : ∀ j : Int, j ≠ v 6 → σ' (24 + 3) j = σ (24 + 3) j) (g3 : σ' (24 + 3) (v 6) = fe)
    (e4 : σ' (24 + 4) = σ (24 + 4)) (e6 : σ' (24 + 5) = σ (24 + 5)) : mt_TC σ' (mt_addc v kd mu fe) := by
  obtain ⟨⟨h1, h2, h3, h4, h5, h6, h7, h8⟩, k1, k2⟩ := h
  have ne : ∀ k : Int, k ≠ 6 → k ≠ 7 + 3 * v 6 → k ≠ 8 + 3 * v 6 → k ≠ 9 + 3 * v 6 → mt_addc v kd mu fe k = v k := by
    intro k a b c d
    unfold mt_addc
    rw [mv_set_ne a, mv_set_ne d, mv_set_ne c, mv_set_ne b]
  have at6 : mt_addc v kd mu fe 6 = v 6 + 1 := mv_set_eq
  unfold mt_TC
  rw [at6, ne 25 (by decide) (by omega) (by omega) (by omega), ne 0 (by decide) (by omega) (by omega) (by omega), ne 4 (by decide) (by omega) (by omega) (by omega), ne 1 (by decide) (by omega) (by omega) (by omega), ne 2 (by decide) (by omega) (by omega) (by omega), ne 3 (by decide) (by omega) (by omega) (by omega), e5, e0 6 (by decide), e0 7 (by decide), e0 8 (by decide), e0 9 (by decide), e0 10 (by decide), e0 11 (by decide), e0 12 (by decide), e4, e6]
  refine ⟨⟨rfl, h2, h3, h4, h5, h6, h7, h8⟩, fun c c0' c1 => ?_, fun x x0 x1 => ?_⟩
  · by_cases e : c = v 6
    · subst e
      rw [g1, g2, g3]
      refine ⟨?_, ?_, ?_⟩
      · unfold mt_addc
        rw [mv_set_ne (by omega), mv_set_ne (by omega), mv_set_ne (by omega), mv_set_eq]
      · unfold mt_addc
        rw [mv_set_ne (by omega), mv_set_ne (by omega), mv_set_eq]
      · unfold mt_addc
        rw [mv_set_ne (by omega), mv_set_eq]
    · rw [e1 c e, e2 c e, e3 c e, ne _ (by omega) (by omega) (by omega) (by omega), ne _ (by omega) (by omega) (by omega) (by omega), ne _ (by omega) (by omega) (by omega) (by omega)]
      exact k1 c c0' (by omega)
  · rw [ne _ (by omega) (by omega) (by omega) (by omega), ne _ (by omega) (by omega) (by omega) (by omega)]
    exact k2 x x0 x1
theorem mt_TC_s {σ σ' : am_Mem} {v : Int → Int} {f t : Int} (h : mt_TC σ v) (c6 : v 6 ≤ 6) (x0 : 0 ≤ v 25) (x7 : v 25 ≤ 7) (e0 : ∀ j : Int, j ≠ 6 → σ' 24 j = σ 24 j) (e5 : σ' 24 6 = v 25 + 1)
    (e1 : σ' (24 + 1) = σ (24 + 1)) (e2 : σ' (24 + 2) = σ (24 + 2)) (e3 : σ' (24 + 3) = σ (24 + 3)) (e4 : ∀ j : Int, j ≠ v 25 → σ' (24 + 4) j = σ (24 + 4) j) (g4 : σ' (24 + 4) (v 25) = f) (e6 : ∀ j : Int, j ≠ v 25 → σ' (24 + 5) j = σ (24 + 5) j) (g5 : σ' (24 + 5) (v 25) = t) : mt_TC σ' (mt_adds v f t) := by
  obtain ⟨⟨h1, h2, h3, h4, h5, h6, h7, h8⟩, k1, k2⟩ := h
  have ne : ∀ k : Int, k ≠ 5 → k ≠ 25 → k ≠ 26 + 2 * v 25 → k ≠ 27 + 2 * v 25 → mt_adds v f t k = v k := by
    intro k a b c d
    unfold mt_adds
    rw [mv_set_ne b, mv_set_ne a, mv_set_ne d, mv_set_ne c]
  have at25 : mt_adds v f t 25 = v 25 + 1 := mv_set_eq
  unfold mt_TC
  rw [at25, ne 6 (by decide) (by decide) (by omega) (by omega), ne 0 (by decide) (by decide) (by omega) (by omega), ne 4 (by decide) (by decide) (by omega) (by omega), ne 1 (by decide) (by decide) (by omega) (by omega), ne 2 (by decide) (by decide) (by omega) (by omega), ne 3 (by decide) (by decide) (by omega) (by omega), e5, e0 5 (by decide), e0 7 (by decide), e0 8 (by decide), e0 9 (by decide), e0 10 (by decide), e0 11 (by decide), e0 12 (by decide), e1, e2, e3]
  refine ⟨⟨h1, rfl, h3, h4, h5, h6, h7, h8⟩, fun c c0 c1 => ?_, fun x x0' x1 => ?_⟩
  · rw [ne _ (by omega) (by omega) (by omega) (by omega), ne _ (by omega) (by omega) (by omega) (by omega), ne _ (by omega) (by omega) (by omega) (by omega)]
    exact k1 c c0 c1
  · by_cases e : x = v 25
    · subst e
      rw [g4, g5]
      refine ⟨?_, ?_⟩
      · unfold mt_adds
        rw [mv_set_ne (by omega), mv_set_ne (by omega), mv_set_ne (by omega), mv_set_eq]
      · unfold mt_adds
        rw [mv_set_ne (by omega), mv_set_ne (by omega), mv_set_eq]
    · rw [e4 x e, e6 x e, ne _ (by omega) (by omega) (by omega) (by omega), ne _ (by omega) (by omega) (by omega) (by omega)]
      exact k2 x x0' (by omega)
theorem mt_ckind {n : Nat} {c : Int} {σ : am_Mem} : f_X4_kindOf n c σ = some (mt_kind c, σ) := by
  unfold f_X4_kindOf
  by_cases h1 : c = 103
  · subst h1; rfl
  by_cases h2 : c = 104
  · subst h2; rfl
  by_cases h3 : c = 106
  · subst h3; rfl
  by_cases h4 : c = 108
  · subst h4; rfl
  by_cases h5 : c = 114
  · subst h5; rfl
  have e : mt_kind c = 0 := by
    unfold mt_kind
    rw [if_neg h3, if_neg h4, if_neg h2, if_neg h1, if_neg h5]
  rw [e, if_neg h1, if_neg h2, if_neg h3, if_neg h4, if_neg h5]
  repeat' split
  all_goals rfl
theorem mt_bad_ne {σ : am_Mem} {e : Int × Int} {a : Nat} {j z : Int} (h : mt_bad σ e) (ha : a ≠ 16) : mt_bad (am_up σ a j z) e := by
  unfold mt_bad
  rw [ah_up_ne _ _ _ (Ne.symm ha)]
  exact h
theorem mt_claw {n : Nat} {T : Int → Int} {N : Int} {σ : am_Mem} {v : Int → Int} (hn : 10000000000 ≤ n) (hT : mt_TN T N) (h : mt_CS T N σ 0) (rt : mt_TC σ v) : mt_CR (mt_law T N) (f_X4_readLaw n 24 σ) (fun q σ' => mt_CS T N σ' q.2.2 ∧ mt_TC σ' (mv_set (mv_set v 0 q.1) 1 q.2.1) ∧ 0 ≤ q.2.2 ∧ q.2.2 ≤ N) := by
  have hN := hT.1
  unfold mt_law f_X4_readLaw
  cases a1 : mt_take T N 116 0 with
  | inl e =>
    obtain ⟨σ', e1, b1⟩ := (mt_ctake (n := n) hT h (by omega) hN).1 e a1
    rw [e1, am_b2_some, if_pos rfl]
    exact ⟨σ', rfl, b1⟩
  | inr j1 =>
    have e1 := (mt_ctake (n := n) hT h (by omega) hN).2 j1 a1
    obtain ⟨rfl, l1, _⟩ := mt_take_inr (by decide) a1
    have h1 : mt_CS T N (am_up σ 16 4 (0 + 1)) (0 + 1) := mt_CS_up h
    rw [e1, am_b2_some, if_neg (show ¬ (1 : Int) = 0 by decide)]
    show mt_CR (mt_bd (mt_fig T N 1 9 (0 + 1)) _) _ _
    cases a2 : mt_fig T N 1 9 (0 + 1) with
    | inl e =>
      obtain ⟨σ', e2, b2⟩ := (mt_cnum (n := n) hn hT h1 (by omega) (by omega)).1 e a2
      rw [e2, am_b2_some, am_b1_some, mv_up_eq, if_pos (show (-1 : Int) < 0 by decide)]
      exact ⟨_, rfl, mt_bad_ne b2 (by decide)⟩
    | inr q =>
      have e2 := (mt_cnum (n := n) hn hT h1 (by omega) (by omega)).2 q a2
      obtain ⟨q1, q2, q3, q4, q5, _, _⟩ := mt_fig_inr a2
      have h2 : mt_CS T N (am_up (am_up (am_up σ 16 4 (0 + 1)) 16 4 q.2) 24 7 q.1) q.2 := mt_CS_ne (mt_CS_up h1) (by decide) (by decide)
      rw [e2, am_b2_some, am_b1_some, mv_up_eq, if_neg (show ¬ q.1 < 0 by omega)]
      show mt_CR (mt_bd (mt_take T N 44 q.2) _) _ _
      cases a3 : mt_take T N 44 q.2 with
      | inl e =>
        obtain ⟨σ', e3, b3⟩ := (mt_ctake (n := n) hT h2 (by omega) (by omega)).1 e a3
        rw [e3, am_b2_some, if_pos rfl]
        exact ⟨σ', rfl, b3⟩
      | inr j2 =>
        have e3 := (mt_ctake (n := n) hT h2 (by omega) (by omega)).2 j2 a3
        obtain ⟨rfl, l3, _⟩ := mt_take_inr (by decide) a3
        have h3 := mt_CS_up (j := q.2 + 1) h2
        rw [e3, am_b2_some, if_neg (show ¬ (1 : Int) = 0 by decide)]
        show mt_CR (mt_bd (mt_fig T N 0 9 (q.2 + 1)) _) _ _
        cases a4 : mt_fig T N 0 9 (q.2 + 1) with
        | inl e =>
          obtain ⟨σ', e4, b4⟩ := (mt_cnum (n := n) hn hT h3 (by omega) (by omega)).1 e a4
          rw [e4, am_b2_some, am_b1_some, mv_up_eq, if_pos (show (-1 : Int) < 0 by decide)]
          exact ⟨_, rfl, mt_bad_ne b4 (by decide)⟩
        | inr q' =>
          have e4 := (mt_cnum (n := n) hn hT h3 (by omega) (by omega)).2 q' a4
          obtain ⟨r1, r2, r3, r4, r5, _, _⟩ := mt_fig_inr a4
          have h4 := mt_CS_ne (a := 24) (j := 10) (z := q'.1) (mt_CS_up (j := q'.2) h3) (by decide) (by decide)
          rw [e4, am_b2_some, am_b1_some, mv_up_eq, if_neg (show ¬ q'.1 < 0 by omega)]
          show mt_CR (mt_bd (mt_take T N 59 q'.2) _) _ _
          cases a5 : mt_take T N 59 q'.2 with
          | inl e =>
            obtain ⟨σ', e5, b5⟩ := (mt_ctake (n := n) hT h4 (by omega) (by omega)).1 e a5
            rw [e5, am_b2_some, if_pos rfl]
            exact ⟨σ', rfl, b5⟩
          | inr j3 =>
            have e5 := (mt_ctake (n := n) hT h4 (by omega) (by omega)).2 j3 a5
            obtain ⟨rfl, l5, _⟩ := mt_take_inr (by decide) a5
            rw [e5, am_b2_some, if_neg (show ¬ (1 : Int) = 0 by decide)]
            refine ⟨_, rfl, mt_CS_up h4, ?_, by show 0 ≤ q'.2 + 1; omega, by show q'.2 + 1 ≤ N; omega⟩
            obtain ⟨⟨k1, k2, k3, k4, k5, k6, k7, k8⟩, m1, m2⟩ := rt
            have s6 : mv_set (mv_set v 0 q.1) 1 q'.1 6 = v 6 := by rw [mv_set_ne (by decide), mv_set_ne (by decide)]
            have s25 : mv_set (mv_set v 0 q.1) 1 q'.1 25 = v 25 := by rw [mv_set_ne (by decide), mv_set_ne (by decide)]
            show mt_TC _ (mv_set (mv_set v 0 q.1) 1 q'.1)
            unfold mt_TC
            rw [s6, s25]
            refine ⟨⟨?_, ?_, ?_, ?_, ?_, ?_, ?_, ?_⟩, fun c c0 c1 => ?_, fun x x0 x1 => ?_⟩
            · simp (disch := decide) only [ah_up_ne, mv_up_j, mv_up_eq]; exact k1
            · simp (disch := decide) only [ah_up_ne, mv_up_j, mv_up_eq]; exact k2
            · simp (disch := decide) only [ah_up_ne, mv_up_j, mv_up_eq, mv_set_ne, mv_set_eq]
            · simp (disch := decide) only [ah_up_ne, mv_up_j, mv_up_eq]; exact k4
            · simp (disch := decide) only [ah_up_ne, mv_up_j, mv_up_eq, mv_set_ne]; exact k5
            · simp (disch := decide) only [ah_up_ne, mv_up_j, mv_up_eq, mv_set_ne, mv_set_eq]
            · simp (disch := decide) only [ah_up_ne, mv_up_j, mv_up_eq, mv_set_ne]; exact k7
            · simp (disch := decide) only [ah_up_ne, mv_up_j, mv_up_eq, mv_set_ne]; exact k8
            · rw [mv_set_ne (by omega), mv_set_ne (by omega), mv_set_ne (by omega), mv_set_ne (by omega), mv_set_ne (by omega), mv_set_ne (by omega)]
              simp (disch := decide) only [ah_up_ne]
              exact m1 c c0 c1
            · rw [mv_set_ne (by omega), mv_set_ne (by omega), mv_set_ne (by omega), mv_set_ne (by omega)]
              simp (disch := decide) only [ah_up_ne]
              exact m2 x x0 x1
