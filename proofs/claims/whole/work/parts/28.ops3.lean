/-! calls that change the town -/
theorem mr_keep_ok {n : Nat} {σ : am_Mem} {v : Int → Int} {w a b c : Int} (R1 : mr_town σ v) (R2 : mr_acts σ v) : ∃ τ, f_X0_keep n w a b c σ = some τ ∧ mv_TR τ 18 v ∧ ∀ e : Nat, (e < 43 ∨ 69 ≤ e) → τ e = σ e := by
  obtain ⟨h1, h2, h3, h4, h5, _⟩ := R2
  obtain ⟨τ, o, k, e, _, _, _, _, f⟩ := mv_keep (n := n) (σ := σ) (w := w) (a := a) (b := b) (c := c) (by omega) ⟨h4, h5⟩
  have F := w_X0_keep e
  have F2 : ∀ e : Nat, (e < 43 ∨ 69 ≤ e) → τ e = σ e := fun e he => F e (by unfold nw_X0_keep; omega)
  exact ⟨τ, e, mv_TR_fr R1.2.2.1 (F2 _ (by omega)) (F2 _ (by omega)) (F2 _ (by omega)) (F2 _ (by omega)) (F2 _ (by omega)) (F2 _ (by omega)), F2⟩
theorem mr_notes_ok {n : Nat} {σ τ : am_Mem} {v : Int → Int} (hn : 10000000000 ≤ n) (R2 : mr_acts σ v) (e75 : τ 75 = σ 75) : ∃ μ, f_X7_notes n τ = some μ ∧ ∀ e : Nat, e ≠ 75 → e ≠ 84 → μ e = τ e := by
  obtain ⟨h1, h2, h3, _⟩ := R2
  obtain ⟨μ, k, s, e, _⟩ := mv_notes (n := n) (σ := τ) hn (by rw [e75]; omega)
  exact ⟨μ, e, fun a h1 h2 => w_X7_notes e a (by unfold nw_X7_notes; omega)⟩
theorem mr_act {n : Nat} {σ τ1 τ2 τ3 τ4 : am_Mem} {v v' : Int → Int} {w a b c : Int} (hn : 10000000000 ≤ n) (R1 : mr_town σ v) (R2 : mr_acts σ v) (ek : f_X0_keep n w a b c σ = some τ1) (r' : mv_TR τ2 18 v') (f2 : ∀ e : Nat, (e < 18 ∨ 24 ≤ e) → τ2 e = τ1 e) (en : f_X7_notes n τ2 = some τ3) (v4 : mv_V0 τ4 81 v') (f4 : ∀ e : Nat, e ≠ 81 → τ4 e = τ3 e) (w' : mv_WF v') (s' : v' 3 ≤ 999)
    (un : ∀ (μ : am_Mem) (q : Nat), μ q 0 = w → μ q 1 = a → μ q 2 = b → μ q 3 = c → mr_un μ q v' v) : mr_town τ4 v' ∧ mr_acts τ4 v' := by
  have fk := w_X0_keep ek
  have fn := w_X7_notes en
  have R2' := R2
  obtain ⟨h1, h2, h3, h4, h5, _⟩ := R2'
  obtain ⟨μ1, o, k, e1, hc, k1, k2, k3, k4⟩ := mv_keep (n := n) (σ := σ) (w := w) (a := a) (b := b) (c := c) (by omega) ⟨h4, h5⟩
  rw [ek] at e1
  cases e1
  have e75 : τ2 75 = σ 75 := by rw [f2 75 (by omega)]; exact fk 75 (by unfold nw_X0_keep; omega)
  have e84 : τ2 84 = σ 84 := by rw [f2 84 (by omega)]; exact fk 84 (by unfold nw_X0_keep; omega)
  have e81 : τ2 81 = σ 81 := by rw [f2 81 (by omega)]; exact fk 81 (by unfold nw_X0_keep; omega)
  obtain ⟨μ3, k', s, e3, hs, n1, n2, n3⟩ := mv_notes (n := n) (σ := τ2) hn (by rw [e75]; omega)
  rw [en] at e3
  cases e3
  rw [e75] at hs
  have hkk : k' = k := by omega
  subst hkk
  have G : ∀ e : Nat, e ≠ 81 → e ≠ 75 → e ≠ 84 → (e < 18 ∨ 24 ≤ e) → τ4 e = τ1 e := fun e q1 q2 q3 q4 => by rw [f4 e q1, fn e (by unfold nw_X7_notes; omega), f2 e q4]
  have G2 : ∀ e : Nat, 18 ≤ e → e ≤ 23 → τ4 e = τ2 e := fun e q1 q2 => by rw [f4 e (by omega), fn e (by unfold nw_X7_notes; omega)]
  have ht := mv_tm (z := o + k') (by omega)
  have Q : ∀ j : Int, τ4 (45 + (Int.tmod (o + k') 24).toNat) j = τ1 (45 + (Int.tmod (o + k') 24).toNat) j := fun j => by rw [G _ (by omega) (by omega) (by omega) (by omega)]
  refine ⟨⟨w', s', mv_TR_fr r' (G2 _ (by omega) (by omega)) (G2 _ (by omega) (by omega)) (G2 _ (by omega) (by omega)) (G2 _ (by omega) (by omega)) (G2 _ (by omega) (by omega)) (G2 _ (by omega) (by omega)), v4⟩, ?_⟩
  refine mr_push (s := s) R2 R1.1 R1.2.1 R1.2.2.2 hc hs ?_ ?_ ?_ ?_ ?_ ?_ ?_
  · rw [G 43 (by decide) (by decide) (by decide) (by decide), k1]
  · rw [G 43 (by decide) (by decide) (by decide) (by decide), k2]
  · rw [f4 75 (by decide), n1]
  · intro e q1 q2 q3
    rw [G e (by omega) (by omega) (by omega) (by omega), k4 e (by omega) q3]
  · intro j j0 j1
    rw [f4 84 (by decide), n2 j j0 j1, e81]
  · intro j j0 j1
    rw [f4 84 (by decide), n3 j j0 j1, e84]
  · exact un _ _ (by rw [Q]; exact k3.1) (by rw [Q]; exact k3.2.1) (by rw [Q]; exact k3.2.2.1) (by rw [Q]; exact k3.2.2.2)
theorem ma_ride {n : Nat} {σ : am_Mem} {v : Int → Int} {p1 : Int} (hn : 10000000000 ≤ n) (R1 : mr_town σ v) (R2 : mr_acts σ v) : ∃ r σ1 σ2 v', f_X6_ride n p1 σ = some (r, σ1) ∧ f_X7_ride n p1 σ1 = some (r, σ2) ∧ mr_town σ2 v' ∧ mr_acts σ2 v' := by
  have R1' := R1
  obtain ⟨w, w3, r1, r2⟩ := R1'
  have w1 := w.1
  unfold f_X6_ride
  rw [mv_has r1, am_b2_some]
  by_cases h : 0 ≤ p1 ∧ p1 < v 25
  · rw [if_pos h, if_neg (by decide), mv_leads r1 w, am_b2_some]
    rcases mv_goesi01 v p1 (v 4) with hg | hg
    · rw [hg, if_pos rfl]
      refine ⟨_, _, σ, v, rfl, ?_, R1, R2⟩
      unfold f_X7_ride
      rw [mv_misS r2 w, am_b2_some, if_pos h, if_neg (by decide), r2 4 (by decide) (by decide), mv_mgoes r2 w, am_b2_some, hg, if_pos rfl]
    · rw [hg, if_neg (by decide), r1.1.2.2.2.2.2.2.2]
      by_cases h9 : v 3 < 999
      · rw [if_pos h9]
        obtain ⟨τ1, e1, rt, F1⟩ := mr_keep_ok (n := n) (w := 0) (a := σ 18 9) (b := σ 18 10) (c := σ 18 11) R1 R2
        obtain ⟨τ2, e2, rg⟩ := mv_goBy (n := n) rt w h.1 h.2 (by omega)
        have F2 := w_X5_goBy e2
        have F2' : ∀ e : Nat, (e < 18 ∨ 24 ≤ e) → τ2 e = τ1 e := fun e he => F2 e (by unfold nw_X5_goBy; omega)
        have r2' : mv_V0 τ2 81 v := by
          unfold mv_V0
          rw [F2' 81 (by omega), F1 81 (by omega)]
          exact r2
        obtain ⟨τ3, e3, F3⟩ := mr_notes_ok (n := n) (τ := τ2) hn R2 (by rw [F2' 75 (by omega), F1 75 (by omega)])
        have r3' : mv_V0 τ3 81 v := by
          unfold mv_V0
          rw [F3 81 (by decide) (by decide)]
          exact r2'
        obtain ⟨τ4, e4, rv⟩ := mv_mrides (n := n) r3' w h.1 h.2 (by omega)
        have F4 := w_X7_rides e4
        rw [e1, am_b1_some, e2, am_b1_some]
        refine ⟨_, τ2, τ4, mv_rides v p1, rfl, ?_, ?_⟩
        · unfold f_X7_ride
          rw [mv_misS r2' w, am_b2_some, if_pos h, if_neg (by decide), r2' 4 (by decide) (by decide), mv_mgoes r2' w, am_b2_some, hg, if_neg (by decide), r2' 3 (by decide) (by decide), if_pos h9, e3, am_b1_some, e4, am_b1_some, rv 1 (by decide) (by decide), rg.1.2.2.2.2.2.1]
        · refine mr_act hn R1 R2 e1 rg F2' e3 rv (fun e he => F4 e (by unfold nw_X7_rides; omega)) (mv_rides_WF w h.1 h.2) ?_ ?_
          · unfold mv_rides
            rw [mv_set_eq]
            omega
          · intro μ q q0 q1 q2 q3
            refine Or.inl ⟨q0, fun k k0 k1 => ?_⟩
            rw [q1, q2, q3, r1.1.2.2.2.2.1, r1.1.2.2.2.2.2.1, r1.1.2.2.2.2.2.2.1]
            unfold mv_rides
            rw [mv_set_eq]
            by_cases k4 : k = 4
            · rw [if_pos k4, k4]
            · rw [if_neg k4]
              by_cases k1' : k = 1
              · rw [if_pos k1', k1']
              · rw [if_neg k1']
                by_cases k2 : k = 2
                · rw [if_pos k2, k2]
                · rw [if_neg k2]
                  by_cases k3 : k = 3
                  · rw [if_pos k3, k3]; omega
                  · rw [if_neg k3, mv_set_ne k3, mv_set_ne k4, mv_set_ne k1', mv_set_ne k2]
      · rw [if_neg h9]
        refine ⟨_, _, σ, v, rfl, ?_, R1, R2⟩
        unfold f_X7_ride
        rw [mv_misS r2 w, am_b2_some, if_pos h, if_neg (by decide), r2 4 (by decide) (by decide), mv_mgoes r2 w, am_b2_some, hg, if_neg (by decide), r2 3 (by decide) (by decide), if_neg h9]
  · rw [if_neg h, if_pos rfl]
    refine ⟨_, _, σ, v, rfl, ?_, R1, R2⟩
    unfold f_X7_ride
    rw [mv_misS r2 w, am_b2_some, if_neg h, if_pos rfl]
theorem ma_reset {n : Nat} {σ : am_Mem} {v : Int → Int} (hn : 10000000000 ≤ n) (R1 : mr_town σ v) (R2 : mr_acts σ v) : ∃ r σ1 σ2 v', f_X6_reset n σ = some (r, σ1) ∧ f_X7_reset n σ1 = some (r, σ2) ∧ mr_town σ2 v' ∧ mr_acts σ2 v' := by
  have R1' := R1
  obtain ⟨w, w3, r1, r2⟩ := R1'
  have w1 := w.1
  unfold f_X6_reset
  rw [mv_stands r1, am_b2_some]
  by_cases h : 0 < v 6
  · rw [if_pos h, if_neg (by decide)]
    obtain ⟨τ1, e1, rt, F1⟩ := mr_keep_ok (n := n) (w := 2) (a := σ 18 11) (b := 0) (c := 0) R1 R2
    have F2' : ∀ e : Nat, (e < 18 ∨ 24 ≤ e) → am_up τ1 18 11 0 e = τ1 e := fun e he => ah_up_ne _ _ _ (by omega)
    have r2' : mv_V0 (am_up τ1 18 11 0) 81 v := by
      unfold mv_V0
      rw [F2' 81 (by omega), F1 81 (by omega)]
      exact r2
    obtain ⟨τ3, e3, F3⟩ := mr_notes_ok (n := n) (τ := am_up τ1 18 11 0) hn R2 (by rw [F2' 75 (by omega), F1 75 (by omega)])
    have r3' : mv_V0 τ3 81 v := by
      unfold mv_V0
      rw [F3 81 (by decide) (by decide)]
      exact r2'
    rw [e1, am_b1_some, am_b1_some]
    refine ⟨_, _, am_up τ3 81 2 0, mv_set v 2 0, rfl, ?_, ?_⟩
    · unfold f_X7_reset
      rw [mv_misT r2' w, am_b2_some, if_pos h, if_neg (by decide), e3, am_b1_some, am_b1_some, r3' 2 (by decide) (by decide), r1.1.2.2.2.2.2.2.1]
    · refine mr_act hn R1 R2 e1 (mv_TR_up11 rt) F2' e3 (mv_V0_up r3') (fun e he => ah_up_ne _ _ _ he) (mv_WF_scal w (fun k hk => mv_set_ne (by omega)) (by rw [mv_set_ne (by decide)]; omega) (by rw [mv_set_eq]; omega) (by rw [mv_set_ne (by decide)]; omega) (by rw [mv_set_ne (by decide)]; exact ⟨by omega, w.2.2.1⟩)) (by rw [mv_set_ne (by decide)]; exact w3) ?_
      intro μ q q0 q1 q2 q3
      refine Or.inr (Or.inr (Or.inl ⟨q0, fun k k0 k1 => ?_⟩))
      rw [q1, r1.1.2.2.2.2.2.2.1]
      by_cases k2 : k = 2
      · rw [if_pos k2, k2]
      · rw [if_neg k2, mv_set_ne k2]
  · rw [if_neg h, if_pos rfl]
    refine ⟨_, _, σ, v, rfl, ?_, R1, R2⟩
    unfold f_X7_reset
    rw [mv_misT r2 w, am_b2_some, if_neg h, if_pos rfl]
theorem mv_TR_much {σ : am_Mem} {t : Nat} {v : Int → Int} {c z : Int} (h0 : 0 ≤ c) (r : mv_TR σ t v) (h1 : c < v 6) (h6 : v 6 ≤ 6) : mv_TR (am_up σ (t + 2) c z) t (mv_set v (8 + 3 * c) z) := by
  refine ⟨?_, ?_, ?_⟩
  · rw [ah_up_ne _ _ _ (by omega), mv_set_ne (by omega), mv_set_ne (by omega), mv_set_ne (by omega), mv_set_ne (by omega), mv_set_ne (by omega), mv_set_ne (by omega), mv_set_ne (by omega), mv_set_ne (by omega)]
    exact r.1
  · intro x x0 x1
    rw [mv_set_ne (by omega)] at x1
    have q := r.2.1 x x0 x1
    refine ⟨?_, ?_, ?_⟩
    · rw [ah_up_ne _ _ _ (by omega), mv_set_ne (by omega)]; exact q.1
    · by_cases hx : x = c
      · subst hx; rw [mv_up_eq, mv_set_eq]
      · rw [mv_up_j hx, mv_set_ne (by omega)]; exact q.2.1
    · rw [ah_up_ne _ _ _ (by omega), mv_set_ne (by omega)]; exact q.2.2
  · intro x x0 x1
    rw [mv_set_ne (by omega)] at x1
    rw [ah_up_ne _ _ _ (by omega), ah_up_ne _ _ _ (by omega), mv_set_ne (by omega), mv_set_ne (by omega)]
    exact r.2.2 x x0 x1
theorem mv_WF_much {v : Int → Int} {c z : Int} (w : mv_WF v) (h0 : 0 ≤ c) (h1 : c < v 6) (hz : 0 ≤ z ∧ z ≤ 9) : mv_WF (mv_set v (8 + 3 * c) z) := by
  have w1 := w.1
  unfold mv_WF
  rw [mv_set_ne (j := 0) (by omega), mv_set_ne (j := 1) (by omega), mv_set_ne (j := 2) (by omega), mv_set_ne (j := 3) (by omega), mv_set_ne (j := 4) (by omega), mv_set_ne (j := 5) (by omega), mv_set_ne (j := 6) (by omega), mv_set_ne (j := 25) (by omega)]
  refine ⟨w.1, w.2.1, w.2.2.1, w.2.2.2.1, ?_, ?_⟩
  · intro x x0 x1
    have q := w.2.2.2.2.1 x x0 x1
    rw [mv_set_ne (j := 7 + 3 * x) (by omega), mv_set_ne (j := 9 + 3 * x) (by omega)]
    by_cases hx : x = c
    · subst hx; rw [mv_set_eq]; omega
    · rw [mv_set_ne (by omega)]; exact q
  · intro x x0 x1
    rw [mv_set_ne (by omega), mv_set_ne (by omega)]
    exact w.2.2.2.2.2 x x0 x1
theorem ma_lesson {n : Nat} {σ : am_Mem} {v : Int → Int} {p1 p2 : Int} (hn : 10000000000 ≤ n) (R1 : mr_town σ v) (R2 : mr_acts σ v) : ∃ r σ1 σ2 v', f_X6_lesson n p1 p2 σ = some (r, σ1) ∧ f_X7_lesson n p1 p2 σ1 = some (r, σ2) ∧ mr_town σ2 v' ∧ mr_acts σ2 v' := by
  have R1' := R1
  obtain ⟨w, w3, r1, r2⟩ := R1'
  have w1 := w.1
  unfold f_X6_lesson
  rw [mv_hasC r1, am_b2_some]
  by_cases h : 0 ≤ p1 ∧ p1 < v 6
  · rw [if_pos h, if_neg (by decide)]
    by_cases h2 : 0 ≤ p2 ∧ p2 ≤ 9
    · rw [if_neg (by omega), if_pos h2.2, if_pos (by omega)]
      obtain ⟨τ1, e1, rt, F1⟩ := mr_keep_ok (n := n) (w := 1) (a := p1) (b := σ 20 p1) (c := 0) R1 R2
      have F2' : ∀ e : Nat, (e < 18 ∨ 24 ≤ e) → am_up τ1 20 p1 p2 e = τ1 e := fun e he => ah_up_ne _ _ _ (by omega)
      have r2' : mv_V0 (am_up τ1 20 p1 p2) 81 v := by
        unfold mv_V0
        rw [F2' 81 (by omega), F1 81 (by omega)]
        exact r2
      obtain ⟨τ3, e3, F3⟩ := mr_notes_ok (n := n) (τ := am_up τ1 20 p1 p2) hn R2 (by rw [F2' 75 (by omega), F1 75 (by omega)])
      have r3' : mv_V0 τ3 81 v := by
        unfold mv_V0
        rw [F3 81 (by decide) (by decide)]
        exact r2'
      rw [e1, am_b1_some, am_b1_some]
      have es : 7 + 3 * p1 + 1 = 8 + 3 * p1 := by omega
      have eq := (r1.2.1 p1 h.1 h.2).2.1
      have eq : σ 20 p1 = v (8 + 3 * p1) := eq
      refine ⟨_, _, am_up τ3 81 (8 + 3 * p1) p2, mv_set v (8 + 3 * p1) p2, rfl, ?_, ?_⟩
      · unfold f_X7_lesson
        rw [mv_misC r2' w, am_b2_some, if_pos h, if_neg (by decide), mv_in, am_b2_some, if_pos h2, if_neg (by decide), e3, am_b1_some, am_w_id (z := 3 * p1) (by omega), am_w_id (z := 7 + 3 * p1) (by omega), am_w_id (z := 7 + 3 * p1 + 1) (by omega), if_pos (by omega), am_b1_some, es, r3' (8 + 3 * p1) (by omega) (by omega), eq]
      · refine mr_act hn R1 R2 e1 (mv_TR_much (t := 18) h.1 rt h.2 (by omega)) F2' e3 (mv_V0_up r3') (fun e he => ah_up_ne _ _ _ he) (mv_WF_much w h.1 h.2 h2) (by rw [mv_set_ne (by omega)]; exact w3) ?_
        intro μ q q0 q1 q2 q3
        refine Or.inr (Or.inl ⟨q0, by rw [q1]; exact h.1, by rw [q1, mv_set_ne (by omega)]; exact h.2, fun k k0 k1 => ?_⟩)
        rw [q1, q2, eq]
        by_cases k2 : k = 8 + 3 * p1
        · rw [if_pos k2, k2]
        · rw [if_neg k2, mv_set_ne k2]
    · refine ⟨-1000001, σ, σ, v, ?_, ?_, R1, R2⟩
      · by_cases h3 : p2 < 0
        · rw [if_pos h3]
        · rw [if_neg h3, if_neg (by omega)]
      · unfold f_X7_lesson
        rw [mv_misC r2 w, am_b2_some, if_pos h, if_neg (by decide), mv_in, am_b2_some, if_neg h2, if_pos rfl]
  · rw [if_neg h, if_pos rfl]
    refine ⟨_, _, σ, v, rfl, ?_, R1, R2⟩
    unfold f_X7_lesson
    rw [mv_misC r2 w, am_b2_some, if_neg h, if_pos rfl]
