/-! cheapest, dearest, moods, gets -/
theorem mg_begins {n : Nat} {σ : am_Mem} {v : Int → Int} (pa : Int → Int) (hn : 10000000000 ≤ n) (r : mv_V0 σ 81 v) : ∃ σ', f_X7_begins n σ = some σ' ∧ mg_M σ' v 0 (v 4) (v 1) 0 pa := by
  obtain ⟨σ3, e, h1, _⟩ := mv_copies (n := n) (p := 81) (q := 83) (pn := 42) (qn := 42) (σ := σ) (a := 0) (b := 0) (by omega) (by decide) (by decide) (by decide) (by decide) (by decide) (by decide) (by decide)
  have F := w_X7_copies e
  have F81 : σ3 81 = σ 81 := F 81 (by unfold nw_X7_copies; decide)
  refine ⟨am_up (am_up (am_up (am_up (am_up σ3 75 20 0) 88 0 0) 89 0 (v 4)) 90 0 (v 1)) 91 0 0, ?_, ?_, ?_, ?_, ?_, ?_, ?_⟩
  · unfold f_X7_begins
    rw [e]
    simp only [am_b1_some]
    have n81 : ∀ (τ : am_Mem) (a : Nat) (j z : Int), a ≠ 81 → am_up τ a j z 81 = τ 81 := fun τ a j z ha => ah_up_ne τ j z (Ne.symm ha)
    simp only [n81 _ 75 _ _ (by decide), n81 _ 88 _ _ (by decide), n81 _ 89 _ _ (by decide), F81, r 4 (by decide) (by decide), r 1 (by decide) (by decide)]
  · rw [ah_up_ne _ _ _ (by decide), ah_up_ne _ _ _ (by decide), ah_up_ne _ _ _ (by decide), ah_up_ne _ _ _ (by decide), mv_up_eq]
  · intro k k0 k1
    rw [ah_up_ne _ _ _ (by decide), ah_up_ne _ _ _ (by decide), ah_up_ne _ _ _ (by decide), ah_up_ne _ _ _ (by decide), ah_up_ne _ _ _ (by decide)]
    have q := h1 k k0 k1
    rw [show (0 : Int) + k = k by omega] at q
    rw [q]
    exact r k k0 k1
  · rw [ah_up_ne _ _ _ (by decide), ah_up_ne _ _ _ (by decide), mv_up_eq]
  · rw [ah_up_ne _ _ _ (by decide), mv_up_eq]
  · rw [mv_up_eq]
  · intro i i0 i1
    omega
theorem mg_M_75 {σ : am_Mem} {v : Int → Int} {d p mo gr j z : Int} {pa : Int → Int} (h : mg_M σ v d p mo gr pa) (hj : j ≠ 20) : mg_M (am_up σ 75 j z) v d p mo gr pa := by
  unfold mg_M mv_V0
  rw [mv_up_j (Ne.symm hj), ah_up_ne _ _ _ (show (83 : Nat) ≠ 75 by decide), ah_up_ne _ _ _ (show (89 : Nat) ≠ 75 by decide), ah_up_ne _ _ _ (show (90 : Nat) ≠ 75 by decide), ah_up_ne _ _ _ (show (91 : Nat) ≠ 75 by decide), ah_up_ne _ _ _ (show (87 : Nat) ≠ 75 by decide)]
  exact h
theorem mg_root {v : Int → Int} (w : mv_WF v) (h6 : 0 < v 6) : mg_N v 0 (v 4) (v 1) 0 0 := by
  have w1 := w.1
  have h4 := w.2.2.1 h6
  exact ⟨by omega, by omega, by omega, h4, by omega, by omega, by omega, by omega, by omega, by omega⟩
def mg_a0 : mg_A := (-1, 0, 0, fun _ => 0)
theorem mg_finds {n : Nat} {σ : am_Mem} {v : Int → Int} {c set : Int} (hn : 10000000000 ≤ n) (r : mv_V0 σ 81 v) (w : mv_WF (mv_set v 5 set)) (h6 : 0 < v 6) (w3 : v 3 ≤ 999) : ∃ σ', f_X7_finds n c set σ = some σ' ∧ mg_SM σ' (mg_tree (mv_set v 5 set) (mg_fc c) 8 mg_a0 0 (v 4) (v 1) 0 0 (fun _ => 0)) := by
  obtain ⟨σ3, e, M⟩ := mg_begins (fun _ => 0) hn r
  have M4 : mg_M (am_up σ3 83 5 set) (mv_set v 5 set) 0 (v 4) (v 1) 0 (fun _ => 0) := by
    refine ⟨?_, mv_V0_up M.2.1, ?_, ?_, ?_, ?_⟩
    · rw [ah_up_ne _ _ _ (by decide)]; exact M.1
    · rw [ah_up_ne _ _ _ (by decide)]; exact M.2.2.1
    · rw [ah_up_ne _ _ _ (by decide)]; exact M.2.2.2.1
    · rw [ah_up_ne _ _ _ (by decide)]; exact M.2.2.2.2.1
    · rw [ah_up_ne _ _ _ (by decide)]; exact M.2.2.2.2.2
  have M6 := mg_M_75 (j := 27) (z := -1000000) M4 (by decide)
  have hN := mg_root w (show 0 < mv_set v 5 set 6 from h6)
  obtain ⟨σ', fu', e1, s1⟩ := mg_top (n := n) (v := mv_set v 5 set) (lim := 8) (f := mg_fc c) (SM := mg_SM) (Lp := fun fu r _ s => fl_X7_finds_19 n fu c r s) (a := mg_a0) hn w w3 (by decide) (by decide) mg_SM_S (mg_finds_turn hn) (σ := am_up (am_up σ3 83 5 set) 75 27 (-1000000)) (Or.inl ⟨by decide, mv_up_eq⟩) hN M6
  refine ⟨σ', ?_, s1⟩
  unfold f_X7_finds
  rw [e, am_b1_some, am_b1_some, am_b1_some]
  refine e1.trans ?_
  show fb_X7_finds_19 n _ c 0 σ' = _
  unfold fb_X7_finds_19
  rw [if_pos rfl]
theorem mg_seekA {A : Type} {n : Nat} {σ : am_Mem} {v : Int → Int} {pu ai li : Int} {f : A → Int → Int → Int → Int → Int → (Int → Int) → A} {SA : am_Mem → A → Prop} {a : A} (hn : 10000000000 ≤ n) (r : mv_TR σ 18 v) (w : mv_WF v) (h6 : 0 < v 6) (w3 : v 3 ≤ 999) (l0 : 0 ≤ li) (l8 : li ≤ 8)
    (h70 : ∀ (σ : am_Mem) (a : A) (j z : Int), SA σ a → SA (am_up σ 70 j z) a) (h5 : ∀ (σ : am_Mem) (a : A), SA σ a → σ 69 5 = li)
    (hW : ∀ (σ : am_Mem) (a : A) (d p mo gr us : Int) (pa : Int → Int), SA σ a → mg_N v d p mo gr us → d ≤ li → (∀ i : Int, 0 ≤ i → i < d → σ 70 i = pa i) → ∃ σ', f_X3_weigh n d p mo gr us σ = some σ' ∧ SA σ' (f a d p mo gr us pa))
    (h0 : SA (am_up (am_up (am_up (am_up (am_up (am_up (am_up σ 69 3 pu) 69 4 ai) 69 5 li) 69 7 (-1)) 69 8 0) 69 9 0) 69 10 0) a) : ∃ σ', f_X3_seek n 18 pu ai li σ = some σ' ∧ SA σ' (mg_tree v f li.toNat a 0 (v 4) (v 1) 0 0 (fun _ => 0)) := by
  have N18 : ∀ c : Nat, c ≠ 69 → (am_up (am_up (am_up (am_up (am_up (am_up (am_up σ 69 3 pu) 69 4 ai) 69 5 li) 69 7 (-1)) 69 8 0) 69 9 0) 69 10 0) c = σ c := by
    intro c hc
    rw [ah_up_ne _ _ _ hc, ah_up_ne _ _ _ hc, ah_up_ne _ _ _ hc, ah_up_ne _ _ _ hc, ah_up_ne _ _ _ hc, ah_up_ne _ _ _ hc, ah_up_ne _ _ _ hc]
  obtain ⟨σ', e, s, _, _⟩ := mg_walk hn w w3 l8 h70 h5 hW li.toNat 10 a 0 (v 4) (v 1) 0 0 (fun _ => 0) _ (by omega) (by omega) (mg_root w h6) h0 (mv_TR_fr r (N18 _ (by decide)) (N18 _ (by decide)) (N18 _ (by decide)) (N18 _ (by decide)) (N18 _ (by decide)) (N18 _ (by decide))) (fun i i0 i1 => by omega)
  refine ⟨σ', ?_, s⟩
  unfold f_X3_seek
  simp only [am_b1_some]
  rw [if_neg (show ¬ 8 < li by omega), N18 18 (by decide), r.1.2.2.2.2.1, r.1.2.2.2.2.2.1, e]
  rfl
theorem mg_SA_70 {pu ai li : Int} (σ : am_Mem) (a : mg_A) (j z : Int) (h : mg_SA pu ai li σ a) : mg_SA pu ai li (am_up σ 70 j z) a := by
  unfold mg_SA
  rw [ah_up_ne _ _ _ (show (69 : Nat) ≠ 70 by decide), ah_up_ne _ _ _ (show (71 : Nat) ≠ 70 by decide)]
  exact h
theorem mg_SA_0 {pu ai li : Int} {σ : am_Mem} : mg_SA pu ai li (am_up (am_up (am_up (am_up (am_up (am_up (am_up σ 69 3 pu) 69 4 ai) 69 5 li) 69 7 (-1)) 69 8 0) 69 9 0) 69 10 0) mg_a0 := by
  refine ⟨?_, ?_, ?_, ?_, ?_, ?_, by decide, fun i i0 i1 => ?_⟩
  · simp (disch := decide) only [mv_up_j, mv_up_eq]
  · simp (disch := decide) only [mv_up_j, mv_up_eq]
  · simp (disch := decide) only [mv_up_j, mv_up_eq]
  · simp (disch := decide) only [mv_up_j, mv_up_eq]; rfl
  · simp (disch := decide) only [mv_up_j, mv_up_eq]; rfl
  · simp (disch := decide) only [mv_up_j, mv_up_eq]; rfl
  · have : i < -1 := i1
    omega
theorem mg_told {n : Nat} {σ τ : am_Mem} {pu ai li k s s' : Int} {a : mg_A} (h : mg_SA pu ai li σ a) (h' : mg_SM τ a) (k0 : -2 ≤ k) (k8 : k < 8) (hs : 0 ≤ a.1 → s' = s) : ∃ r, (if σ 69 7 < 0 then (some ((-1000000), σ)) else (if k = (-1) then (some (σ 69 8, σ)) else (if k = (-2) then (some (s, σ)) else (am_b2 (f_X3_streetOf n k σ) fun r14 σ15 => some (r14, σ15))))) = some (r, σ) ∧ f_X7_told n k s' τ = some (r, τ) := by
  obtain ⟨h1, h2, h3, h4, h5, h6, h7, h8⟩ := h
  unfold f_X7_told f_X3_streetOf
  rw [h4, h5]
  rcases h' with ⟨q1, q2⟩ | ⟨q1, q2, q3, q4, q5, q6, q7⟩
  · rw [if_pos q1, if_pos q2]
    exact ⟨_, rfl, rfl⟩
  · rw [if_neg (show ¬ a.1 < 0 by omega), q4, if_neg (show ¬ a.2.1 = -1000000 by omega)]
    by_cases g1 : k = -1
    · rw [if_pos g1, if_pos g1]
      exact ⟨_, rfl, rfl⟩
    · rw [if_neg g1, if_neg g1]
      by_cases g2 : k = -2
      · rw [if_pos g2, if_pos g2, hs q1]
        exact ⟨_, rfl, rfl⟩
      · rw [if_neg g2, if_neg g2, if_neg (show ¬ k < 0 by omega), q5]
        by_cases g3 : k < a.1
        · rw [if_pos g3, if_pos g3, if_pos (show (0 : Int) ≤ k ∧ k < 8 by omega), if_pos (show (0 : Int) ≤ k ∧ k < 8 by omega), h8 k (by omega) g3, q7 k (by omega) g3]
          exact ⟨_, rfl, rfl⟩
        · rw [if_neg g3, if_neg g3]
          exact ⟨_, rfl, rfl⟩
theorem ma_cheapest {n : Nat} {σ : am_Mem} {v : Int → Int} {p1 p2 : Int} (hn : 10000000000 ≤ n) (R1 : mr_town σ v) : ∃ r σ1 σ2, f_X6_cheapest n p1 p2 σ = some (r, σ1) ∧ f_X7_cheapest n p1 p2 σ1 = some (r, σ2) := by
  obtain ⟨w, w3, r1, r2⟩ := R1
  by_cases hc : 0 ≤ p1 ∧ p1 < v 6
  · by_cases hk : -2 ≤ p2 ∧ p2 ≤ 7
    · obtain ⟨σ9, e9, s9⟩ := mg_seekA (n := n) (pu := 0) (ai := p1) (li := 8) (f := mg_fc p1) (SA := mg_SA 0 p1 8) (a := mg_a0) hn r1 w (by omega) w3 (by decide) (by decide) mg_SA_70 (fun _ _ h => h.2.2.1) (fun σ a d p mo gr us pa h hN hd hp => mg_weigh0 h hN.1 hd hp) mg_SA_0
      have F := w_X3_seek e9
      have r9 : mv_V0 σ9 81 v := by
        unfold mv_V0
        rw [F 81 (by unfold nw_X3_seek; decide)]
        exact r2
      have es : mv_set v 5 (v 5) = v := by
        funext j
        unfold mv_set
        by_cases hj : j = 5
        · rw [if_pos hj, hj]
        · rw [if_neg hj]
      obtain ⟨τ, e', s'⟩ := mg_finds (c := p1) (set := v 5) hn r9 (by rw [es]; exact w) (by omega) w3
      rw [es] at s'
      have hsec : 0 ≤ (mg_tree v (mg_fc p1) 8 mg_a0 0 (v 4) (v 1) 0 0 (fun _ => 0)).1 → τ 75 28 = σ9 69 7 := by
        intro h
        rw [s9.2.2.2.1]
        rcases s' with ⟨q1, _⟩ | q
        · omega
        · exact q.2.2.2.2.1
      obtain ⟨r, t1, t2⟩ := mg_told (n := n) (k := p2) s9 s' (by omega) (by omega) hsec
      refine ⟨r, σ9, τ, ?_, ?_⟩
      · unfold f_X6_cheapest
        rw [mv_hasC r1, am_b2_some, if_pos hc, if_neg (show ¬ (1 : Int) = 0 by decide), if_neg (show ¬ p2 < -2 by omega), if_pos (show p2 < 8 by omega), e9, am_b1_some]
        exact t1
      · unfold f_X7_cheapest
        rw [mv_misC r9 w, am_b2_some, if_pos hc, if_neg (show ¬ (1 : Int) = 0 by decide), mv_in, am_b2_some, if_pos hk, if_neg (show ¬ (1 : Int) = 0 by decide), r9 5 (by decide) (by decide), e', am_b1_some, t2]
        rfl
    · refine ⟨-1000001, σ, σ, ?_, ?_⟩
      · unfold f_X6_cheapest
        rw [mv_hasC r1, am_b2_some, if_pos hc, if_neg (show ¬ (1 : Int) = 0 by decide)]
        by_cases h2 : p2 < -2
        · rw [if_pos h2]
        · rw [if_neg h2, if_neg (show ¬ p2 < 8 by omega)]
      · unfold f_X7_cheapest
        rw [mv_misC r2 w, am_b2_some, if_pos hc, if_neg (show ¬ (1 : Int) = 0 by decide), mv_in, am_b2_some, if_neg hk, if_pos rfl]
  · refine ⟨-1000001, σ, σ, ?_, ?_⟩
    · unfold f_X6_cheapest
      rw [mv_hasC r1, am_b2_some, if_neg hc, if_pos rfl]
    · unfold f_X7_cheapest
      rw [mv_misC r2 w, am_b2_some, if_neg hc, if_pos rfl]
