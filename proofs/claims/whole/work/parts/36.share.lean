/-! share -/
def mf_owe (str : Int → Int) (k0 : Int) : Nat → Int → (Int → Int) → Int → Int
  | 0, _, _, acc => acc
  | m + 1, t, v, acc => if mv_goesi v (str t) (v 4) = 1 then mf_owe str k0 m (t + 1) (mv_rides v (str t)) (if t < k0 then acc else acc + mv_cost v (v (27 + 2 * str t)) (v 1) (v 3) / 2) else -1000000
theorem mf_owe6 {n : Nat} {a i N k0 : Int} {str : Int → Int} (ha : 0 ≤ a ∧ a < 8) (hi : 0 ≤ i) (hN : N ≤ 8) (hiN : i + N ≤ 40) : ∀ (m fu : Nat) (t acc : Int) (σ : am_Mem) (v : Int → Int), 0 ≤ t → t + m = N → m < fu → 0 ≤ acc → acc ≤ 100 * t → mv_TR σ 24 v → mv_WF v → v 3 + m ≤ 3000 → (∀ q : Int, 0 ≤ q → q < N → σ (8 + a.toNat) (i + q) = str q) → ∃ σ', fl_X6_owedFrom_17 n fu a i N k0 acc t σ = some (mf_owe str k0 m t v acc, σ') := by
  intro m
  induction m with
  | zero =>
    intro fu t acc σ v t0 ht hf a0 a1 r w h3 hs
    obtain ⟨fu, rfl⟩ : ∃ q, fu = q + 1 := ⟨fu - 1, by omega⟩
    refine ⟨σ, ?_⟩
    show fb_X6_owedFrom_17 n _ a i N k0 acc t σ = _
    unfold fb_X6_owedFrom_17
    rw [if_neg (show ¬ t < N by omega)]
    rfl
  | succ m ih =>
    intro fu t acc σ v t0 ht hf a0 a1 r w h3 hs
    have w1 := w.1
    obtain ⟨fu, rfl⟩ : ∃ q, fu = q + 1 := ⟨fu - 1, by omega⟩
    show ∃ σ', fb_X6_owedFrom_17 n (fun y1 y2 y3 y4 y5 y6 σ => fl_X6_owedFrom_17 n fu y1 y2 y3 y4 y5 y6 σ) a i N k0 acc t σ = some (mf_owe str k0 (m + 1) t v acc, σ')
    unfold fb_X6_owedFrom_17 mf_owe
    rw [if_pos (show t < N by omega), if_pos ha, am_w_id (z := i + t) (by omega), if_pos (show (0 : Int) ≤ i + t ∧ i + t < 40 by omega), hs t t0 (by omega), mv_leads r w, am_b2_some]
    rcases mv_goesi01 v (str t) (v 4) with hg | hg
    · rw [hg, if_pos rfl, if_neg (by decide)]
      exact ⟨_, rfl⟩
    · have g := mv_goesi1.1 hg
      have wx := w.2.2.2.2.2 (str t) g.1 g.2.1
      have kc := mv_cost_in (s := v 3) w wx.2.2.1 wx.2.2.2 (m := v 1) (by omega) (by omega)
      obtain ⟨τ, e, r'⟩ := mv_goBy (n := n) r w g.1 g.2.1 (by omega)
      have F := w_X5_goBy e
      have F' : ∀ c : Nat, c ≠ 24 → τ c = σ c := fun c hc => F c (by unfold nw_X5_goBy; omega)
      rw [hg, if_neg (by decide), if_pos rfl, mv_costBy r w g.1 g.2.1, am_b2_some, e, am_b1_some, am_b1_some, am_w_id (z := t + 1) (by omega), mv_half kc.1, am_w_id (z := mv_cost v (v (27 + 2 * str t)) (v 1) (v 3) / 2) (by omega), am_w_id (z := acc + mv_cost v (v (27 + 2 * str t)) (v 1) (v 3) / 2) (by omega)]
      by_cases hk : t < k0
      · rw [if_pos hk, if_pos hk]
        exact ih fu (t + 1) acc τ (mv_rides v (str t)) (by omega) (by omega) (by omega) (by omega) (by omega) r' (mv_rides_WF w g.1 g.2.1) (by rw [mf_rides3]; omega) (by rw [F' _ (by omega)]; exact hs)
      · rw [if_neg hk, if_neg hk]
        exact ih fu (t + 1) _ τ (mv_rides v (str t)) (by omega) (by omega) (by omega) (by omega) (by omega) r' (mv_rides_WF w g.1 g.2.1) (by rw [mf_rides3]; omega) (by rw [F' _ (by omega)]; exact hs)
theorem mf_owe7 {n : Nat} {a i N k0 : Int} {str : Int → Int} (ha : 0 ≤ a ∧ a < 8) (hi : 0 ≤ i) (hN : N ≤ 8) (hiN : i + N ≤ 40) : ∀ (m fu : Nat) (t acc : Int) (σ : am_Mem) (v : Int → Int), 0 ≤ t → t + m = N → m < fu → 0 ≤ acc → acc ≤ 100 * t → mv_V0 σ 83 v → mv_WF v → v 3 + m ≤ 3000 → (∀ q : Int, 0 ≤ q → q < N → σ 78 (40 * a + i + q) = str q) → ∃ σ', fl_X7_share_91 n fu a i N k0 acc t σ = some (mf_owe str k0 m t v acc, σ') ∧ σ' 75 4 = 0 := by
  intro m
  induction m with
  | zero =>
    intro fu t acc σ v t0 ht hf a0 a1 r w h3 hs
    obtain ⟨fu, rfl⟩ : ∃ q, fu = q + 1 := ⟨fu - 1, by omega⟩
    refine ⟨am_up σ 75 4 0, ?_, mv_up_eq⟩
    show fb_X7_share_91 n _ a i N k0 acc t σ = _
    unfold fb_X7_share_91
    rw [if_neg (show ¬ t < N by omega), mv_we7, am_b2_some]
    rfl
  | succ m ih =>
    intro fu t acc σ v t0 ht hf a0 a1 r w h3 hs
    have w1 := w.1
    obtain ⟨fu, rfl⟩ : ∃ q, fu = q + 1 := ⟨fu - 1, by omega⟩
    show ∃ σ', fb_X7_share_91 n (fun y1 y2 y3 y4 y5 y6 σ => fl_X7_share_91 n fu y1 y2 y3 y4 y5 y6 σ) a i N k0 acc t σ = some (mf_owe str k0 (m + 1) t v acc, σ') ∧ σ' 75 4 = 0
    unfold fb_X7_share_91 mf_owe
    rw [if_pos (show t < N by omega), am_w_id (z := 40 * a) (by omega), am_w_id (z := 40 * a + i) (by omega), am_w_id (z := 40 * a + i + t) (by omega), if_pos (show (0 : Int) ≤ 40 * a + i + t ∧ 40 * a + i + t < 320 by omega), hs t t0 (by omega), r 4 (by decide) (by decide), mv_mgoes r w, am_b2_some]
    rcases mv_goesi01 v (str t) (v 4) with hg | hg
    · rw [hg, if_pos rfl, if_neg (by decide), mv_we7, am_b2_some]
      exact ⟨_, rfl, mv_up_eq⟩
    · have g := mv_goesi1.1 hg
      have wx := w.2.2.2.2.2 (str t) g.1 g.2.1
      have kc := mv_cost_in (s := v 3) w wx.2.2.1 wx.2.2.2 (m := v 1) (by omega) (by omega)
      obtain ⟨τ, e, r'⟩ := mv_mrides (n := n) r w g.1 g.2.1 (by omega)
      have F := w_X7_rides e
      have F' : ∀ c : Nat, c ≠ 83 → τ c = σ c := fun c hc => F c (by unfold nw_X7_rides; omega)
      rw [hg, if_neg (by decide), if_pos rfl, am_w_id (z := 2 * str t) (by omega), am_w_id (z := 26 + 2 * str t) (by omega), am_w_id (z := 26 + 2 * str t + 1) (by omega), if_pos (show (0 : Int) ≤ 26 + 2 * str t + 1 ∧ 26 + 2 * str t + 1 < 42 by omega), mv_at r (k' := 27 + 2 * str t) (show 26 + 2 * str t + 1 = 27 + 2 * str t by omega) (by omega), r 1 (by decide) (by decide), r 3 (by decide) (by decide), mv_mcost r w wx.2.2.1 wx.2.2.2 (by omega) (by omega), am_b2_some, e, am_b1_some, am_b1_some, am_w_id (z := t + 1) (by omega), am_w_id (z := acc + 0) (by omega), Int.add_zero, mv_half kc.1, am_w_id (z := mv_cost v (v (27 + 2 * str t)) (v 1) (v 3) / 2) (by omega), am_w_id (z := acc + mv_cost v (v (27 + 2 * str t)) (v 1) (v 3) / 2) (by omega)]
      by_cases hk : t < k0
      · rw [if_pos hk, if_pos hk]
        exact ih fu (t + 1) acc τ (mv_rides v (str t)) (by omega) (by omega) (by omega) (by omega) (by omega) r' (mv_rides_WF w g.1 g.2.1) (by rw [mf_rides3]; omega) (by rw [F' 78 (by decide)]; exact hs)
      · rw [if_neg hk, if_neg hk]
        exact ih fu (t + 1) _ τ (mv_rides v (str t)) (by omega) (by omega) (by omega) (by omega) (by omega) r' (mv_rides_WF w g.1 g.2.1) (by rw [mf_rides3]; omega) (by rw [F' 78 (by decide)]; exact hs)
theorem ma_share {n : Nat} {σ : am_Mem} {v : Int → Int} {p1 p2 p3 p4 : Int} (hn : 10000000000 ≤ n) (R1 : mr_town σ v) (R2 : mr_rows σ) (R3 : mr_st σ) (h3ok : am_ok p3) : ∃ r σ1 σ2, f_X6_share n p1 p2 p3 p4 σ = some (r, σ1) ∧ f_X7_share n p1 p2 p3 p4 σ1 = some (r, σ2) ∧ mr_st σ2 := by
  obtain ⟨w, w3, r1, r2⟩ := R1
  have w1 := w.1
  have w1' : am_w (-1000010 - 1) = -1000010 - 1 := am_w_id (by decide)
  have w2' : am_w (-1000010 - 2) = -1000010 - 2 := am_w_id (by decide)
  by_cases ht : 0 < v 6
  · by_cases hf : (0 ≤ p1 ∧ p1 < 8) ∧ (1 ≤ p3 ∧ p3 ≤ 8) ∧ (0 ≤ p4 ∧ p4 ≤ p3 - 1)
    · obtain ⟨ha, hk, hj⟩ := hf
      have A6 : f_X6_share n p1 p2 p3 p4 σ = am_b2 (f_X2_findingOf n p1 p2 p3 σ) fun r14 σ15 => if r14 = 0 then (am_b2 (f_X6_owedFrom n p1 p2 p3 p4 σ15) fun r18 σ19 => am_b2 (f_X6_unfound n r18 σ19) fun r21 σ22 => some (r21, σ22)) else (am_b2 (f_X6_found n r14 σ15) fun r24 σ25 => some (r24, σ25)) := by
        unfold f_X6_share
        rw [mv_stands r1, am_b2_some, if_pos ht, if_neg (by decide), mv_isRow6, am_b2_some, if_pos ha, if_neg (by decide), if_neg (show ¬ p3 < 1 by omega), if_pos (show p3 ≤ 8 by omega), if_neg (show ¬ p4 < 0 by omega), if_pos (show p4 < p3 by omega)]
      have A7 : ∀ τ : am_Mem, mv_V0 τ 81 v → f_X7_share n p1 p2 p3 p4 τ = am_b2 (f_X7_isMissing n p1 τ) fun r18 σ19 => if r18 = 0 then (am_b2 (f_X7_isPart n p1 p2 p3 σ19) fun r22 σ23 => if r22 = 0 then (am_b2 (f_X7_found n 2 σ23) fun r26 σ27 => some (r26, σ27)) else (am_b1 (f_X7_copies n 81 42 83 42 0 0 σ23) fun σ30 => fl_X7_share_91 n n p1 p2 p3 p4 0 0 σ30)) else (am_b2 (f_X7_found n 1 σ19) fun r55 σ56 => some (r55, σ56)) := by
        intro τ rτ
        unfold f_X7_share
        rw [mv_misT rτ w, am_b2_some, if_pos ht, if_neg (by decide), mv_isRow7, am_b2_some, if_pos ha, if_neg (by decide), mv_in, am_b2_some, if_pos hk, if_neg (by decide), mv_in, am_b2_some, am_w_id (z := p3 - 1) (by omega), if_pos hj, if_neg (by decide)]
      have rz : ∀ z : Int, mv_V0 (am_up σ 3 8 z) 81 v := by
        intro z
        unfold mv_V0
        rw [ah_up_ne _ _ _ (by decide)]
        exact r2
      rw [A6, mv_fnd R2 ha (by omega), am_b2_some]
      rcases R2 p1 ha.1 ha.2 with ⟨q1, q2⟩ | ⟨u1, u2, u3, u4, u5, u6, u7⟩
      · rw [if_pos q1, if_neg (by decide), mv_fd6, am_b2_some]
        refine ⟨_, _, am_up (am_up σ 3 8 1) 75 4 1, rfl, ?_, mr_st_up mv_up_eq⟩
        rw [A7 _ (rz 1), mv_mis7 ha, am_b2_some, ah_up_ne _ _ _ (show 76 ≠ 3 by decide), if_pos q2, if_neg (by decide), mv_fd7, am_b2_some]
      · rw [if_neg (show ¬ σ 6 p1 = -1 by omega)]
        by_cases hp : 0 ≤ p2 ∧ 0 ≤ p3 ∧ p2 + p3 ≤ σ 6 p1
        · rw [if_pos hp, if_pos rfl]
          obtain ⟨τ, e, rt⟩ := mv_become (n := n) (t := 24) (u := 18) (by omega) r1 w
          have F := w_X5_become e
          have F' : ∀ c : Nat, (c < 24 ∨ 30 ≤ c) → τ c = σ c := fun c hc => F c (by unfold nw_X5_become; omega)
          obtain ⟨τ2, e2⟩ := mf_owe6 (n := n) (k0 := p4) (str := fun q => σ 78 (40 * p1 + p2 + q)) ha hp.1 hk.2 (by omega) p3.toNat n 0 0 τ v (by omega) (by omega) (by omega) (by omega) (by omega) rt w (by omega) (by
            intro q q0 q1
            rw [F' _ (by omega), u7 _ (by omega) (by omega), ← Int.add_assoc])
          have E : f_X6_owedFrom n p1 p2 p3 p4 σ = some (mf_owe (fun q => σ 78 (40 * p1 + p2 + q)) p4 p3.toNat 0 v 0, τ2) := by
            unfold f_X6_owedFrom
            rw [e, am_b1_some, e2]
          have G := w_X6_owedFrom E
          have G' : ∀ c : Nat, 30 ≤ c → τ2 c = σ c := fun c hc => G c (by unfold nw_X6_owedFrom; omega)
          rw [E, am_b2_some, mv_un6, am_b2_some]
          have rv : mv_V0 (am_up τ2 3 8 0) 81 v := by
            unfold mv_V0
            rw [ah_up_ne _ _ _ (by decide), G' 81 (by decide)]
            exact r2
          obtain ⟨μ, e3, g1, _⟩ := mv_copies (n := n) (p := 81) (q := 83) (pn := 42) (qn := 42) (σ := am_up τ2 3 8 0) (a := 0) (b := 0) (by omega) (by decide) (by omega) (by omega) (by omega) (by omega) (by omega) (by omega)
          have H := w_X7_copies e3
          have H' : ∀ c : Nat, c ≠ 83 → c ≠ 3 → μ c = τ2 c := fun c hc h3 => by rw [H c (by unfold nw_X7_copies; omega), ah_up_ne _ _ _ h3]
          have rw2 : mv_V0 μ 83 v := by
            intro k k0 k1
            have q := g1 k k0 k1
            rw [Int.zero_add] at q
            rw [q]
            exact rv k k0 k1
          obtain ⟨μ2, e4, c4⟩ := mf_owe7 (n := n) (k0 := p4) (str := fun q => σ 78 (40 * p1 + p2 + q)) ha hp.1 hk.2 (by omega) p3.toNat n 0 0 μ v (by omega) (by omega) (by omega) (by omega) (by omega) rw2 w (by omega) (by
            intro q q0 q1
            rw [H' 78 (by decide) (by decide), G' 78 (by decide)])
          have E7 : f_X7_share n p1 p2 p3 p4 (am_up τ2 3 8 0) = some (mf_owe (fun q => σ 78 (40 * p1 + p2 + q)) p4 p3.toNat 0 v 0, μ2) := by
            rw [A7 _ rv, mv_mis7 ha, am_b2_some, ah_up_ne _ _ _ (show 76 ≠ 3 by decide), G' 76 (by decide), if_neg (show ¬ σ 76 p1 = -1000000 by omega), if_pos rfl, mv_isPart ha (by rw [ah_up_ne _ _ _ (by decide), G' 77 (by decide)]; omega), am_b2_some, ah_up_ne _ _ _ (show 77 ≠ 3 by decide), G' 77 (by decide), u6, if_pos hp, if_neg (by decide), e3, am_b1_some, e4]
          have J := w_X7_share E7
          refine ⟨_, _, μ2, rfl, E7, ?_⟩
          unfold mr_st
          rw [c4, J 3 (by unfold nw_X7_share; omega), mv_up_eq]
        · rw [if_neg hp, if_neg (by decide), mv_fd6, am_b2_some]
          refine ⟨_, _, am_up (am_up σ 3 8 2) 75 4 2, rfl, ?_, mr_st_up mv_up_eq⟩
          rw [A7 _ (rz 2), mv_mis7 ha, am_b2_some, ah_up_ne _ _ _ (show 76 ≠ 3 by decide), if_neg (show ¬ σ 76 p1 = -1000000 by omega), if_pos rfl, mv_isPart ha (by rw [ah_up_ne _ _ _ (by decide)]; omega), am_b2_some, ah_up_ne _ _ _ (show 77 ≠ 3 by decide), u6, if_neg hp, if_pos rfl, mv_fd7, am_b2_some]
    · refine ⟨-1000001, σ, σ, ?_, ?_, R3⟩
      · unfold f_X6_share
        rw [mv_stands r1, am_b2_some, if_pos ht, if_neg (by decide), mv_isRow6, am_b2_some]
        by_cases ha : 0 ≤ p1 ∧ p1 < 8
        · rw [if_pos ha, if_neg (by decide)]
          repeat' split
          all_goals first | rfl | omega
        · rw [if_neg ha, if_pos rfl]
      · unfold f_X7_share
        rw [mv_misT r2 w, am_b2_some, if_pos ht, if_neg (by decide), mv_isRow7, am_b2_some]
        by_cases ha : 0 ≤ p1 ∧ p1 < 8
        · rw [if_pos ha, if_neg (by decide), mv_in, am_b2_some]
          by_cases hk : 1 ≤ p3 ∧ p3 ≤ 8
          · rw [if_pos hk, if_neg (by decide), mv_in, am_b2_some, am_w_id (z := p3 - 1) (by omega), if_neg (show ¬ (0 ≤ p4 ∧ p4 ≤ p3 - 1) from fun q => hf ⟨ha, hk, q⟩), if_pos rfl]
          · rw [if_neg hk, if_pos rfl]
        · rw [if_neg ha, if_pos rfl]
  · refine ⟨-1000002, σ, σ, ?_, ?_, R3⟩
    · unfold f_X6_share
      rw [mv_stands r1, am_b2_some, if_neg ht, if_pos rfl]
    · unfold f_X7_share
      rw [mv_misT r2 w, am_b2_some, if_neg ht, if_pos rfl]
