/-! dearest, moods, gets -/
theorem mg_dear_turn {n : Nat} {v : Int → Int} {x1 x2 : Int} (hn : 10000000000 ≤ n) (fu : Nat) (a : mg_A) (σ : am_Mem) (d p mo gr us : Int) (pa : Int → Int) (sm : mg_SM σ a) (hN : mg_N v d p mo gr us) (hM : mg_M σ v d p mo gr pa) : ∃ σ', mg_SM σ' (mg_fd x1 a d p mo gr us pa) ∧ (∀ c : Nat, c ≠ 75 → c ≠ 92 → σ' c = σ c) ∧ σ' 75 20 = σ 75 20 ∧ fl_X7_dearest_46 n (fu + 1) x1 x2 1 σ = fb_X7_dearest_82 n (fun y1 y2 y3 σ => fl_X7_dearest_46 n fu y1 y2 y3 σ) x1 x2 σ' := by
  have hN1 := hN.1
  have hN2 := hN.2.1
  have hN7 := hN.2.2.2.2.2.2.1
  obtain ⟨σ1, e1, s1, F1, F2⟩ := mg_keeps hn hN hM
  obtain ⟨h1, h2, h3, h4, h5, h6⟩ := hM
  have E : fl_X7_dearest_46 n (fu + 1) x1 x2 1 σ = fb_X7_dearest_46 n (fun y1 y2 y3 σ => fl_X7_dearest_46 n fu y1 y2 y3 σ) x1 x2 1 σ := rfl
  rw [E]
  unfold fb_X7_dearest_46 mg_fd
  rw [if_neg (show ¬ (1 : Int) = 0 by decide), h1]
  by_cases hd : d = x1
  · rw [if_pos hd, if_pos (show (0 : Int) ≤ d ∧ d < 9 by omega), h5]
    rcases sm with ⟨q1, q2⟩ | ⟨q1, q2, q3, q4, q5, q6, q7⟩
    · rw [q2, if_neg (show ¬ gr ≤ -1000000 by omega), e1, am_b1_some, if_pos ⟨hd, Or.inl q1⟩]
      exact ⟨σ1, s1, F1, F2.trans h1, rfl⟩
    · rw [q4]
      by_cases hl : gr ≤ a.2.1
      · rw [if_pos hl, if_neg (show ¬ (d = x1 ∧ (a.1 < 0 ∨ a.2.1 < gr)) by omega)]
        exact ⟨σ, Or.inr ⟨q1, q2, q3, q4, q5, q6, q7⟩, fun _ _ _ => rfl, h1, rfl⟩
      · rw [if_neg hl, e1, am_b1_some, if_pos (show d = x1 ∧ (a.1 < 0 ∨ a.2.1 < gr) by omega)]
        exact ⟨σ1, s1, F1, F2.trans h1, rfl⟩
  · rw [if_neg hd, if_neg (fun q => hd q.1)]
    exact ⟨σ, sm, fun _ _ _ => rfl, h1, rfl⟩
theorem mg_dear {n : Nat} {σ : am_Mem} {v : Int → Int} {x1 x2 : Int} (hn : 10000000000 ≤ n) (w : mv_WF v) (h6 : 0 < v 6) (w3 : v 3 ≤ 999) (x0 : 0 ≤ x1) (x8 : x1 ≤ 8) (sm : mg_SM σ mg_a0) (M : mg_M σ v 0 (v 4) (v 1) 0 (fun _ => 0)) : ∃ σ', fl_X7_dearest_46 n n x1 x2 1 σ = (am_b2 (f_X7_told n x2 (σ' 75 29) σ') fun r20 σ21 => some (r20, σ21)) ∧ mg_SM σ' (mg_tree v (mg_fd x1) x1.toNat mg_a0 0 (v 4) (v 1) 0 0 (fun _ => 0)) := by
  have hN := mg_root w h6
  by_cases hx : x1 ≤ 0
  · obtain ⟨σ', s', _, _, e'⟩ := mg_dear_turn (x1 := x1) (x2 := x2) hn (n - 1) mg_a0 σ 0 (v 4) (v 1) 0 0 (fun _ => 0) sm hN M
    have hx0 : x1 = 0 := by omega
    refine ⟨σ', ?_, ?_⟩
    · rw [show n - 1 + 1 = n by omega] at e'
      rw [e']
      unfold fb_X7_dearest_82
      rw [if_pos hx]
      obtain ⟨k, hk⟩ : ∃ q, n - 1 = q + 1 := ⟨n - 2, by omega⟩
      rw [hk]
      show fb_X7_dearest_46 n _ x1 x2 0 σ' = _
      unfold fb_X7_dearest_46
      rw [if_pos rfl]
    · rw [show x1.toNat = 0 by omega]
      exact s'
  · obtain ⟨σ', fu', e1, s1⟩ := mg_top (n := n) (v := v) (lim := x1) (f := mg_fd x1) (SM := mg_SM) (Lp := fun fu r _ s => fl_X7_dearest_46 n fu x1 x2 (if r = 0 then 0 else 1) s) (a := mg_a0) hn w w3 x0 x8 mg_SM_S (fun fu a σ d p mo gr us pa sm hN hd hM => by
      obtain ⟨σ', s', F1, F2, e'⟩ := mg_dear_turn (x1 := x1) (x2 := x2) hn fu a σ d p mo gr us pa sm hN hM
      refine ⟨σ', s', F1, F2, ?_⟩
      show fl_X7_dearest_46 n (fu + 1) x1 x2 (if (1 : Int) = 0 then 0 else 1) σ = _
      rw [if_neg (show ¬ (1 : Int) = 0 by decide), e']
      unfold fb_X7_dearest_82
      rw [if_neg hx]
      congr 1
      funext r s
      by_cases hr : r = 0
      · rw [if_pos hr, if_pos hr]
      · rw [if_neg hr, if_neg hr]) sm hN M
    refine ⟨σ', ?_, s1⟩
    have e1 : fl_X7_dearest_46 n n x1 x2 1 σ = fl_X7_dearest_46 n (fu' + 1) x1 x2 0 σ' := e1
    rw [e1]
    show fb_X7_dearest_46 n _ x1 x2 0 σ' = _
    unfold fb_X7_dearest_46
    rw [if_pos rfl]
theorem ma_dearest {n : Nat} {σ : am_Mem} {v : Int → Int} {p1 p2 : Int} (hn : 10000000000 ≤ n) (R1 : mr_town σ v) : ∃ r σ1 σ2, f_X6_dearest n p1 p2 σ = some (r, σ1) ∧ f_X7_dearest n p1 p2 σ1 = some (r, σ2) := by
  obtain ⟨w, w3, r1, r2⟩ := R1
  by_cases hc : 0 < v 6
  · by_cases hj : 0 ≤ p1 ∧ p1 ≤ 8
    · by_cases hk : -2 ≤ p2 ∧ p2 ≤ 7
      · obtain ⟨σ9, e9, s9⟩ := mg_seekA (n := n) (pu := 1) (ai := 0) (li := p1) (f := mg_fd p1) (SA := mg_SA 1 0 p1) (a := mg_a0) hn r1 w hc w3 (by omega) (by omega) mg_SA_70 (fun _ _ h => h.2.2.1) (fun σ a d p mo gr us pa h hN hd hp => mg_weigh1 h hN.1 (by omega) hp) mg_SA_0
        have F := w_X3_seek e9
        have r9 : mv_V0 σ9 81 v := by
          unfold mv_V0
          rw [F 81 (by unfold nw_X3_seek; decide)]
          exact r2
        obtain ⟨τ0, e0, M0⟩ := mg_begins (fun _ => 0) hn r9
        obtain ⟨τ, e', s'⟩ := mg_dear (x1 := p1) (x2 := p2) hn w hc w3 (by omega) (by omega) (σ := am_up τ0 75 27 (-1000000)) (Or.inl ⟨by decide, mv_up_eq⟩) (mg_M_75 M0 (by decide))
        have hsec : 0 ≤ (mg_tree v (mg_fd p1) p1.toNat mg_a0 0 (v 4) (v 1) 0 0 (fun _ => 0)).1 → τ 75 29 = σ9 69 9 := by
          intro h
          rw [s9.2.2.2.2.2.1]
          rcases s' with ⟨q1, _⟩ | q
          · omega
          · exact q.2.2.2.2.2.1
        obtain ⟨r, t1, t2⟩ := mg_told (n := n) (k := p2) s9 s' (by omega) (by omega) hsec
        refine ⟨r, σ9, τ, ?_, ?_⟩
        · unfold f_X6_dearest
          rw [mv_stands r1, am_b2_some, if_pos hc, if_neg (show ¬ (1 : Int) = 0 by decide), if_neg (show ¬ p1 < 0 by omega), if_pos (show p1 ≤ 8 by omega), if_neg (show ¬ p2 < -2 by omega), if_pos (show p2 < 8 by omega), e9, am_b1_some]
          exact t1
        · unfold f_X7_dearest
          rw [mv_misT r9 w, am_b2_some, if_pos hc, if_neg (show ¬ (1 : Int) = 0 by decide), mv_in, am_b2_some, if_pos hj, if_neg (show ¬ (1 : Int) = 0 by decide), mv_in, am_b2_some, if_pos hk, if_neg (show ¬ (1 : Int) = 0 by decide), e0, am_b1_some, am_b1_some, e', t2]
          rfl
      · refine ⟨-1000001, σ, σ, ?_, ?_⟩
        · unfold f_X6_dearest
          rw [mv_stands r1, am_b2_some, if_pos hc, if_neg (show ¬ (1 : Int) = 0 by decide), if_neg (show ¬ p1 < 0 by omega), if_pos (show p1 ≤ 8 by omega)]
          by_cases h2 : p2 < -2
          · rw [if_pos h2]
          · rw [if_neg h2, if_neg (show ¬ p2 < 8 by omega)]
        · unfold f_X7_dearest
          rw [mv_misT r2 w, am_b2_some, if_pos hc, if_neg (show ¬ (1 : Int) = 0 by decide), mv_in, am_b2_some, if_pos hj, if_neg (show ¬ (1 : Int) = 0 by decide), mv_in, am_b2_some, if_neg hk, if_pos rfl]
    · refine ⟨-1000001, σ, σ, ?_, ?_⟩
      · unfold f_X6_dearest
        rw [mv_stands r1, am_b2_some, if_pos hc, if_neg (show ¬ (1 : Int) = 0 by decide)]
        by_cases h2 : p1 < 0
        · rw [if_pos h2]
        · rw [if_neg h2, if_neg (show ¬ p1 ≤ 8 by omega)]
      · unfold f_X7_dearest
        rw [mv_misT r2 w, am_b2_some, if_pos hc, if_neg (show ¬ (1 : Int) = 0 by decide), mv_in, am_b2_some, if_neg hj, if_pos rfl]
  · refine ⟨-1000002, σ, σ, ?_, ?_⟩
    · unfold f_X6_dearest
      rw [mv_stands r1, am_b2_some, if_neg hc, if_pos rfl]
    · unfold f_X7_dearest
      rw [mv_misT r2 w, am_b2_some, if_neg hc, if_pos rfl]
theorem mg_gets_turn {n : Nat} {v : Int → Int} {x1 x2 : Int} (hn : 10000000000 ≤ n) (fu : Nat) (a : mg_A) (σ : am_Mem) (d p mo gr us : Int) (pa : Int → Int) (sm : mg_SM σ a) (hN : mg_N v d p mo gr us) (_hd : d ≤ 8) (hM : mg_M σ v d p mo gr pa) : ∃ σ', mg_SM σ' (mg_fg x1 a d p mo gr us pa) ∧ (∀ c : Nat, c ≠ 75 → c ≠ 92 → σ' c = σ c) ∧ σ' 75 20 = σ 75 20 ∧ fl_X7_gets_45 n (fu + 1) x1 x2 1 σ = am_b2 (f_X7_goesOn n 8 σ') (fun r s => fl_X7_gets_45 n fu x1 x2 r s) := by
  have hN1 := hN.1
  have hN2 := hN.2.1
  have hN7 := hN.2.2.2.2.2.2.1
  obtain ⟨σ1, e1, s1, F1, F2⟩ := mg_keeps hn hN hM
  obtain ⟨h1, h2, h3, h4, h5, h6⟩ := hM
  have E : fl_X7_gets_45 n (fu + 1) x1 x2 1 σ = fb_X7_gets_45 n (fun y1 y2 y3 σ => fl_X7_gets_45 n fu y1 y2 y3 σ) x1 x2 1 σ := rfl
  rw [E]
  unfold fb_X7_gets_45 mg_fg
  rw [if_neg (show ¬ (1 : Int) = 0 by decide), h1, if_pos (show (0 : Int) ≤ d ∧ d < 9 by omega), h4]
  by_cases hm : mo = x1
  · rw [if_pos hm]
    rcases sm with ⟨q1, q2⟩ | ⟨q1, q2, q3, q4, q5, q6, q7⟩
    · rw [if_pos q2, e1, am_b1_some, if_pos ⟨hm, Or.inl q1⟩]
      exact ⟨σ1, s1, F1, F2.trans h1, rfl⟩
    · rw [q4, if_neg (show ¬ a.2.1 = -1000000 by omega), q5]
      by_cases hl : d < a.1
      · rw [if_pos hl, e1, am_b1_some, if_pos ⟨hm, Or.inr hl⟩]
        exact ⟨σ1, s1, F1, F2.trans h1, rfl⟩
      · rw [if_neg hl, if_neg (show ¬ (mo = x1 ∧ (a.1 < 0 ∨ d < a.1)) by omega)]
        exact ⟨σ, Or.inr ⟨q1, q2, q3, q4, q5, q6, q7⟩, fun _ _ _ => rfl, h1, rfl⟩
  · rw [if_neg hm, if_neg (fun q => hm q.1)]
    exact ⟨σ, sm, fun _ _ _ => rfl, h1, rfl⟩
theorem ma_gets {n : Nat} {σ : am_Mem} {v : Int → Int} {p1 p2 : Int} (hn : 10000000000 ≤ n) (R1 : mr_town σ v) : ∃ r σ1 σ2, f_X6_gets n p1 p2 σ = some (r, σ1) ∧ f_X7_gets n p1 p2 σ1 = some (r, σ2) := by
  obtain ⟨w, w3, r1, r2⟩ := R1
  by_cases hc : 0 < v 6
  · by_cases hj : 0 ≤ p1 ∧ p1 ≤ 9
    · by_cases hk : -1 ≤ p2 ∧ p2 ≤ 7
      · obtain ⟨σ9, e9, s9⟩ := mg_seekA (n := n) (pu := 3) (ai := p1) (li := 8) (f := mg_fg p1) (SA := mg_SA 3 p1 8) (a := mg_a0) hn r1 w hc w3 (by decide) (by decide) mg_SA_70 (fun _ _ h => h.2.2.1) (fun σ a d p mo gr us pa h hN hd hp => mg_weigh3 h hN.1 hd hp) mg_SA_0
        have F := w_X3_seek e9
        have r9 : mv_V0 σ9 81 v := by
          unfold mv_V0
          rw [F 81 (by unfold nw_X3_seek; decide)]
          exact r2
        obtain ⟨τ0, e0, M0⟩ := mg_begins (fun _ => 0) hn r9
        obtain ⟨τ, fu', e', s'⟩ := mg_top (n := n) (v := v) (lim := 8) (f := mg_fg p1) (SM := mg_SM) (Lp := fun fu r _ s => fl_X7_gets_45 n fu p1 p2 r s) (a := mg_a0) hn w w3 (by decide) (by decide) mg_SM_S (mg_gets_turn hn) (σ := am_up τ0 75 27 (-1000000)) (Or.inl ⟨by decide, mv_up_eq⟩) (mg_root w hc) (mg_M_75 M0 (by decide))
        have e' : fl_X7_gets_45 n n p1 p2 1 (am_up τ0 75 27 (-1000000)) = fb_X7_gets_45 n (fun y1 y2 y3 σ => fl_X7_gets_45 n fu' y1 y2 y3 σ) p1 p2 0 τ := e'
        have A7 : f_X7_gets n p1 p2 σ9 = fb_X7_gets_45 n (fun y1 y2 y3 σ => fl_X7_gets_45 n fu' y1 y2 y3 σ) p1 p2 0 τ := by
          unfold f_X7_gets
          rw [mv_misT r9 w, am_b2_some, if_pos hc, if_neg (show ¬ (1 : Int) = 0 by decide), mv_in, am_b2_some, if_pos hj, if_neg (show ¬ (1 : Int) = 0 by decide), mv_in, am_b2_some, if_pos hk, if_neg (show ¬ (1 : Int) = 0 by decide), e0, am_b1_some, am_b1_some, e']
        have A6 : f_X6_gets n p1 p2 σ = if σ9 69 7 < 0 then (some ((-1000000), σ9)) else (if p2 = (-1) then (some (σ9 69 7, σ9)) else (am_b2 (f_X3_streetOf n p2 σ9) fun r15 σ16 => some (r15, σ16))) := by
          unfold f_X6_gets
          rw [mv_stands r1, am_b2_some, if_pos hc, if_neg (show ¬ (1 : Int) = 0 by decide), if_neg (show ¬ p1 < 0 by omega), if_pos (show p1 ≤ 9 by omega), if_neg (show ¬ p2 < -1 by omega), if_pos (show p2 < 8 by omega), e9, am_b1_some]
        rw [A6]
        unfold fb_X7_gets_45 at A7
        rw [if_pos rfl] at A7
        obtain ⟨h1, h2, h3, h4, h5, h6, h7, h8⟩ := s9
        have s' : mg_SM τ (mg_tree v (mg_fg p1) (8 : Int).toNat mg_a0 0 (v 4) (v 1) 0 0 (fun _ => 0)) := s'
        generalize mg_tree v (mg_fg p1) (8 : Int).toNat mg_a0 0 (v 4) (v 1) 0 0 (fun _ => 0) = a at h1 h2 h3 h4 h5 h6 h7 h8 s'
        rw [h4]
        rcases s' with ⟨q1, q2⟩ | ⟨q1, q2, q3, q4, q5, q6, q7⟩
        · rw [if_pos q1]
          rw [if_pos q2] at A7
          exact ⟨_, _, _, rfl, A7⟩
        · rw [if_neg (show ¬ a.1 < 0 by omega)]
          rw [q4, if_neg (show ¬ a.2.1 = -1000000 by omega), q5] at A7
          by_cases g1 : p2 = -1
          · rw [if_pos g1]
            rw [if_pos g1] at A7
            exact ⟨_, _, _, rfl, A7⟩
          · rw [if_neg g1]
            rw [if_neg g1] at A7
            unfold f_X3_streetOf
            rw [if_neg (show ¬ p2 < 0 by omega), h4]
            by_cases g3 : p2 < a.1
            · rw [if_pos g3, if_pos (show (0 : Int) ≤ p2 ∧ p2 < 8 by omega), h8 p2 (by omega) g3]
              rw [if_pos g3, if_pos (show (0 : Int) ≤ p2 ∧ p2 < 8 by omega), q7 p2 (by omega) g3] at A7
              exact ⟨_, _, _, rfl, A7⟩
            · rw [if_neg g3]
              rw [if_neg g3] at A7
              exact ⟨_, _, _, rfl, A7⟩
      · refine ⟨-1000001, σ, σ, ?_, ?_⟩
        · unfold f_X6_gets
          rw [mv_stands r1, am_b2_some, if_pos hc, if_neg (show ¬ (1 : Int) = 0 by decide), if_neg (show ¬ p1 < 0 by omega), if_pos (show p1 ≤ 9 by omega)]
          by_cases h2 : p2 < -1
          · rw [if_pos h2]
          · rw [if_neg h2, if_neg (show ¬ p2 < 8 by omega)]
        · unfold f_X7_gets
          rw [mv_misT r2 w, am_b2_some, if_pos hc, if_neg (show ¬ (1 : Int) = 0 by decide), mv_in, am_b2_some, if_pos hj, if_neg (show ¬ (1 : Int) = 0 by decide), mv_in, am_b2_some, if_neg hk, if_pos rfl]
    · refine ⟨-1000001, σ, σ, ?_, ?_⟩
      · unfold f_X6_gets
        rw [mv_stands r1, am_b2_some, if_pos hc, if_neg (show ¬ (1 : Int) = 0 by decide)]
        by_cases h2 : p1 < 0
        · rw [if_pos h2]
        · rw [if_neg h2, if_neg (show ¬ p1 ≤ 9 by omega)]
      · unfold f_X7_gets
        rw [mv_misT r2 w, am_b2_some, if_pos hc, if_neg (show ¬ (1 : Int) = 0 by decide), mv_in, am_b2_some, if_neg hj, if_pos rfl]
  · refine ⟨-1000002, σ, σ, ?_, ?_⟩
    · unfold f_X6_gets
      rw [mv_stands r1, am_b2_some, if_neg hc, if_pos rfl]
    · unfold f_X7_gets
      rw [mv_misT r2 w, am_b2_some, if_neg hc, if_pos rfl]
theorem mg_moods_turn {n : Nat} {v : Int → Int} {x1 x2 : Int} (fu : Nat) (a : Int) (σ : am_Mem) (d p mo gr us : Int) (pa : Int → Int) (sm : am_ok a) (hN : mg_N v d p mo gr us) (hM : mg_M σ v d p mo gr pa) : fl_X7_moods_30 n (fu + 1) x1 x2 a 1 σ = (if x2 ≤ 0 then (fl_X7_moods_30 n fu x1 x2 (mg_fm x1 x2 a d p mo gr us pa) 0 σ) else am_b2 (f_X7_goesOn n x2 σ) (fun r s => fl_X7_moods_30 n fu x1 x2 (mg_fm x1 x2 a d p mo gr us pa) (if r = 0 then 0 else 1) s)) := by
  have hN1 := hN.1
  have hN2 := hN.2.1
  obtain ⟨h1, h2, h3, h4, h5, h6⟩ := hM
  have E : fl_X7_moods_30 n (fu + 1) x1 x2 a 1 σ = fb_X7_moods_30 n (fun y1 y2 y3 y4 σ => fl_X7_moods_30 n fu y1 y2 y3 y4 σ) x1 x2 a 1 σ := rfl
  have G : ∀ s0 b : Int, am_or a s0 = b → fb_X7_moods_72 n (fun y1 y2 y3 y4 σ => fl_X7_moods_30 n fu y1 y2 y3 y4 σ) x1 x2 s0 a σ = (if x2 ≤ 0 then (fl_X7_moods_30 n fu x1 x2 b 0 σ) else am_b2 (f_X7_goesOn n x2 σ) (fun r s => fl_X7_moods_30 n fu x1 x2 b (if r = 0 then 0 else 1) s)) := by
    intro s0 b hb
    unfold fb_X7_moods_72
    rw [hb]
    by_cases hx : x2 ≤ 0
    · rw [if_pos hx, if_pos hx]
    · rw [if_neg hx, if_neg hx]
      congr 1
      funext r s
      by_cases hr : r = 0
      · rw [if_pos hr, if_pos hr]
      · rw [if_neg hr, if_neg hr]
  rw [E]
  unfold fb_X7_moods_30
  rw [if_neg (show ¬ (1 : Int) = 0 by decide), h1]
  by_cases hd : d = x2
  · rw [if_pos hd, if_pos (show (0 : Int) ≤ d ∧ d < 9 by omega), h3, h4]
    by_cases hp : p = x1
    · rw [if_pos hp]
      exact G _ _ (by unfold mg_fm; rw [if_pos ⟨hd, hp⟩])
    · rw [if_neg hp]
      exact G _ _ (by unfold mg_fm; rw [if_neg (fun q => hp q.2)]; exact mv_or0 sm)
  · rw [if_neg hd]
    exact G _ _ (by unfold mg_fm; rw [if_neg (fun q => hd q.1)]; exact mv_or0 sm)
theorem mg_fm_ok {x1 x2 a d p mo gr us : Int} {pa : Int → Int} (h : am_ok a) : am_ok (mg_fm x1 x2 a d p mo gr us pa) := by
  unfold mg_fm
  split
  · exact an_ok32 _
  · exact h
theorem mg_mods {n : Nat} {σ : am_Mem} {v : Int → Int} {x1 x2 : Int} (hn : 10000000000 ≤ n) (w : mv_WF v) (h6 : 0 < v 6) (w3 : v 3 ≤ 999) (x0 : 0 ≤ x2) (x8 : x2 ≤ 8) (M : mg_M σ v 0 (v 4) (v 1) 0 (fun _ => 0)) : ∃ σ', fl_X7_moods_30 n n x1 x2 0 1 σ = some (mg_tree v (mg_fm x1 x2) x2.toNat 0 0 (v 4) (v 1) 0 0 (fun _ => 0), σ') := by
  have hN := mg_root w h6
  have E0 : ∀ (k : Nat) (a : Int) (τ : am_Mem), fl_X7_moods_30 n (k + 1) x1 x2 a 0 τ = some (a, τ) := by
    intro k a τ
    show fb_X7_moods_30 n _ x1 x2 a 0 τ = _
    unfold fb_X7_moods_30
    rw [if_pos rfl]
  by_cases hx : x2 ≤ 0
  · have e' := mg_moods_turn (n := n) (x1 := x1) (x2 := x2) (n - 1) 0 σ 0 (v 4) (v 1) 0 0 (fun _ => 0) (by omega) hN M
    rw [show n - 1 + 1 = n by omega, if_pos hx, show n - 1 = n - 2 + 1 by omega, E0] at e'
    refine ⟨σ, ?_⟩
    rw [e', show x2.toNat = 0 by omega]
    rfl
  · obtain ⟨σ', fu', e1, _⟩ := mg_top (n := n) (v := v) (lim := x2) (f := mg_fm x1 x2) (SM := fun _ a => am_ok a) (Lp := fun fu r a s => fl_X7_moods_30 n fu x1 x2 a (if r = 0 then 0 else 1) s) (a := 0) hn w w3 x0 x8 (fun _ _ _ h _ _ => h) (fun fu a σ d p mo gr us pa sm hN hd hM => by
      refine ⟨σ, mg_fm_ok sm, fun _ _ _ => rfl, rfl, ?_⟩
      show fl_X7_moods_30 n (fu + 1) x1 x2 a (if (1 : Int) = 0 then 0 else 1) σ = _
      rw [if_neg (show ¬ (1 : Int) = 0 by decide), mg_moods_turn fu a σ d p mo gr us pa sm hN hM, if_neg hx]) (show am_ok 0 by omega) hN M
    have e1 : fl_X7_moods_30 n n x1 x2 0 1 σ = fl_X7_moods_30 n (fu' + 1) x1 x2 (mg_tree v (mg_fm x1 x2) x2.toNat 0 0 (v 4) (v 1) 0 0 (fun _ => 0)) 0 σ' := e1
    exact ⟨σ', by rw [e1, E0]⟩
theorem ma_moods {n : Nat} {σ : am_Mem} {v : Int → Int} {p1 p2 : Int} (hn : 10000000000 ≤ n) (R1 : mr_town σ v) : ∃ r σ1 σ2, f_X6_moods n p1 p2 σ = some (r, σ1) ∧ f_X7_moods n p1 p2 σ1 = some (r, σ2) := by
  obtain ⟨w, w3, r1, r2⟩ := R1
  by_cases hc : 0 ≤ p1 ∧ p1 < v 6
  · by_cases hk : 0 ≤ p2 ∧ p2 ≤ 8
    · obtain ⟨σ9, e9, s9⟩ := mg_seekA (n := n) (pu := 2) (ai := p1) (li := p2) (f := mg_fm p1 p2) (SA := mg_SB p1 p2) (a := 0) hn r1 w (by omega) w3 (by omega) (by omega) (fun σ a j z h => by
          unfold mg_SB
          rw [ah_up_ne _ _ _ (show (69 : Nat) ≠ 70 by decide)]
          exact h) (fun _ _ h => h.2.2.1) (fun σ a d p mo gr us pa h hN hd hp => mg_weigh2 h) (by
          refine ⟨?_, ?_, ?_, ?_⟩
          · simp (disch := decide) only [mv_up_j, mv_up_eq]
          · simp (disch := decide) only [mv_up_j, mv_up_eq]
          · simp (disch := decide) only [mv_up_j, mv_up_eq]
          · simp (disch := decide) only [mv_up_j, mv_up_eq])
      have F := w_X3_seek e9
      have r9 : mv_V0 σ9 81 v := by
        unfold mv_V0
        rw [F 81 (by unfold nw_X3_seek; decide)]
        exact r2
      obtain ⟨τ0, e0, M0⟩ := mg_begins (fun _ => 0) hn r9
      obtain ⟨τ, e'⟩ := mg_mods (x1 := p1) (x2 := p2) hn w (by omega) w3 (by omega) (by omega) M0
      refine ⟨mg_tree v (mg_fm p1 p2) p2.toNat 0 0 (v 4) (v 1) 0 0 (fun _ => 0), σ9, τ, ?_, ?_⟩
      · unfold f_X6_moods
        rw [mv_hasC r1, am_b2_some, if_pos hc, if_neg (show ¬ (1 : Int) = 0 by decide), if_neg (show ¬ p2 < 0 by omega), if_pos (show p2 ≤ 8 by omega), e9, am_b1_some, s9.2.2.2]
      · unfold f_X7_moods
        rw [mv_misC r9 w, am_b2_some, if_pos hc, if_neg (show ¬ (1 : Int) = 0 by decide), mv_in, am_b2_some, if_pos hk, if_neg (show ¬ (1 : Int) = 0 by decide), e0, am_b1_some, e']
    · refine ⟨-1000001, σ, σ, ?_, ?_⟩
      · unfold f_X6_moods
        rw [mv_hasC r1, am_b2_some, if_pos hc, if_neg (show ¬ (1 : Int) = 0 by decide)]
        by_cases h2 : p2 < 0
        · rw [if_pos h2]
        · rw [if_neg h2, if_neg (show ¬ p2 ≤ 8 by omega)]
      · unfold f_X7_moods
        rw [mv_misC r2 w, am_b2_some, if_pos hc, if_neg (show ¬ (1 : Int) = 0 by decide), mv_in, am_b2_some, if_neg hk, if_pos rfl]
  · refine ⟨-1000001, σ, σ, ?_, ?_⟩
    · unfold f_X6_moods
      rw [mv_hasC r1, am_b2_some, if_neg hc, if_pos rfl]
    · unfold f_X7_moods
      rw [mv_misC r2 w, am_b2_some, if_neg hc, if_pos rfl]
