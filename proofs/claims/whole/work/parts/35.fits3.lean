/-! fits, fitsOf -/
theorem ma_fits {n : Nat} {σ : am_Mem} {v : Int → Int} {p1 p2 p3 p4 p5 p6 : Int} (hn : 10000000000 ≤ n) (R1 : mr_town σ v) (R2 : mr_rows σ) (R3 : mr_st σ) : ∃ r σ1 σ2, f_X6_fits n p1 p2 p3 p4 p5 p6 σ = some (r, σ1) ∧ f_X7_fits n p1 p2 p3 p4 p5 p6 σ1 = some (r, σ2) ∧ mr_st σ2 := by
  obtain ⟨w, w3, r1, r2⟩ := R1
  have w1 := w.1
  by_cases ht : 0 < v 6
  · by_cases hf : (0 ≤ p1 ∧ p1 < 8) ∧ (0 ≤ p3 ∧ p3 < 8) ∧ (1 ≤ p5 ∧ p5 ≤ 8) ∧ (0 ≤ p6 ∧ p6 ≤ 1)
    · obtain ⟨ha, hb, hk, hw⟩ := hf
      obtain ⟨fd, hfd, e6, e7, rows⟩ := mr_two (n := n) (i := p2) (j := p4) R2 ha hb hk
      by_cases h0 : fd = 0
      · subst h0
        obtain ⟨q1, q2⟩ := rows rfl
        have hs : ∀ t : Int, 0 ≤ t → t < p5 → σ (8 + p3.toNat) (p4 + t) = (fun t => σ 78 (40 * p3 + p4 + t)) t := fun t t0 t1 => by
          rw [q2.2.2.2 _ (by omega) (by omega), ← Int.add_assoc]
        have hp : ∀ t : Int, 0 ≤ t → t < p5 → σ (8 + p1.toNat) (p2 + t) = (fun t => σ 78 (40 * p1 + p2 + t)) t := fun t t0 t1 => by
          rw [q1.2.2.2 _ (by omega) (by omega), ← Int.add_assoc]
        have hw2 : p6 = 0 ∨ p6 = 1 := by omega
        rcases hw2 with hw2 | hw2
        · subst hw2
          obtain ⟨σ1, c6, c3⟩ := mf_fits6 (n := n) (wh := 0) (pl := 1) (paid := fun t => σ 78 (40 * p1 + p2 + t)) (str := fun t => σ 78 (40 * p3 + p4 + t)) hn ha hb q1.1 q2.1 (by omega) (by omega) (by omega) w w3 (Or.inl ⟨rfl, rfl⟩) (lo := 0) (by omega) (fun z z0 z1 => mv_WF_mood w (by omega)) 10 n 0 0 σ (by omega) (by omega) (by omega) r1 hs hp
          have E6 : f_X6_fits n p1 p2 p3 p4 p5 0 σ = some (mf_bits (fun z => mf_so (fun t => σ 78 (40 * p1 + p2 + t)) (fun t => σ 78 (40 * p3 + p4 + t)) p5.toNat 0 (mv_set v (1) z)) 10 0 0, σ1) := by
            unfold f_X6_fits
            rw [mv_stands r1, am_b2_some, if_pos ht, if_neg (by decide), mv_areFit, am_b2_some, if_pos (show (0 ≤ p1 ∧ p1 < 8) ∧ (0 ≤ p3 ∧ p3 < 8) ∧ (1 ≤ p5 ∧ p5 ≤ 8) ∧ (0 ≤ (0 : Int) ∧ (0 : Int) ≤ 1) from ⟨ha, hb, hk, by omega⟩), if_neg (by decide), e6, am_b2_some, if_pos rfl, if_pos rfl, if_pos rfl]
            exact c6
          have F := w_X6_fits E6
          have F' : ∀ c : Nat, 75 ≤ c → σ1 c = σ c := fun c hc => F c (by unfold nw_X6_fits; omega)
          have r2' : mv_V0 σ1 81 v := by
            unfold mv_V0
            rw [F' 81 (by omega)]
            exact r2
          obtain ⟨σ2, c7, c4⟩ := mf_all (n := n) (pa := 40 * p1 + p2) (fr := 40 * p3 + p4) (N := p5) (hi := 9) (pl := 1) (paid := fun t => σ 78 (40 * p1 + p2 + t)) (str := fun t => σ 78 (40 * p3 + p4 + t)) (v := v) hn (by omega) (by omega) (by omega) (by omega) (by omega) (by omega) w3 0 (by omega) (by omega) (fun z z0 z1 => mv_WF_mood w (by omega)) 10 n 0 0 σ1 (by omega) (by omega) (by omega) (by decide) r2' (by rw [F' 78 (by omega)]; exact fun t _ _ => rfl) (by rw [F' 78 (by omega)]; exact fun t _ _ => rfl)
          have E7 : f_X7_fits n p1 p2 p3 p4 p5 0 σ1 = some (mf_bits (fun z => mf_so (fun t => σ 78 (40 * p1 + p2 + t)) (fun t => σ 78 (40 * p3 + p4 + t)) p5.toNat 0 (mv_set v (1) z)) 10 0 0, σ2) := by
            unfold f_X7_fits
            rw [mv_misT r2' w, am_b2_some, if_pos ht, if_neg (by decide), mv_isRow7, am_b2_some, if_pos ha, if_neg (by decide), mv_isRow7, am_b2_some, if_pos hb, if_neg (by decide), mv_in, am_b2_some, if_pos hk, if_neg (by decide), mv_in, am_b2_some, if_pos hw, if_neg (by decide), e7 _ (F' 76 (by omega)) (F' 77 (by omega)), if_pos rfl, am_b2_some, if_pos rfl, if_pos rfl, am_w_id (z := 40 * p1) (by omega), am_w_id (z := 40 * p1 + p2) (by omega), am_w_id (z := 40 * p3) (by omega), am_w_id (z := 40 * p3 + p4) (by omega)]
            unfold f_X7_all
            rw [c7, am_b2_some]
          have G := w_X7_fits E7
          refine ⟨_, σ1, σ2, E6, E7, ?_⟩
          unfold mr_st
          rw [c4, G 3 (by unfold nw_X7_fits; omega), c3]
        · subst hw2
          obtain ⟨σ1, c6, c3⟩ := mf_fits6 (n := n) (wh := 1) (pl := 0) (paid := fun t => σ 78 (40 * p1 + p2 + t)) (str := fun t => σ 78 (40 * p3 + p4 + t)) hn ha hb q1.1 q2.1 (by omega) (by omega) (by omega) w w3 (Or.inr ⟨rfl, rfl⟩) (lo := 1) (by omega) (fun z z0 z1 => mv_WF_rate w ht (by omega)) 9 n 1 0 σ (by omega) (by omega) (by omega) r1 hs hp
          have E6 : f_X6_fits n p1 p2 p3 p4 p5 1 σ = some (mf_bits (fun z => mf_so (fun t => σ 78 (40 * p1 + p2 + t)) (fun t => σ 78 (40 * p3 + p4 + t)) p5.toNat 0 (mv_set v (0) z)) 9 1 0, σ1) := by
            unfold f_X6_fits
            rw [mv_stands r1, am_b2_some, if_pos ht, if_neg (by decide), mv_areFit, am_b2_some, if_pos (show (0 ≤ p1 ∧ p1 < 8) ∧ (0 ≤ p3 ∧ p3 < 8) ∧ (1 ≤ p5 ∧ p5 ≤ 8) ∧ (0 ≤ (1 : Int) ∧ (1 : Int) ≤ 1) from ⟨ha, hb, hk, by omega⟩), if_neg (by decide), e6, am_b2_some, if_pos rfl, if_neg (by decide), if_neg (by decide)]
            exact c6
          have F := w_X6_fits E6
          have F' : ∀ c : Nat, 75 ≤ c → σ1 c = σ c := fun c hc => F c (by unfold nw_X6_fits; omega)
          have r2' : mv_V0 σ1 81 v := by
            unfold mv_V0
            rw [F' 81 (by omega)]
            exact r2
          obtain ⟨σ2, c7, c4⟩ := mf_all (n := n) (pa := 40 * p1 + p2) (fr := 40 * p3 + p4) (N := p5) (hi := 9) (pl := 0) (paid := fun t => σ 78 (40 * p1 + p2 + t)) (str := fun t => σ 78 (40 * p3 + p4 + t)) (v := v) hn (by omega) (by omega) (by omega) (by omega) (by omega) (by omega) w3 1 (by omega) (by omega) (fun z z0 z1 => mv_WF_rate w ht (by omega)) 9 n 1 0 σ1 (by omega) (by omega) (by omega) (by decide) r2' (by rw [F' 78 (by omega)]; exact fun t _ _ => rfl) (by rw [F' 78 (by omega)]; exact fun t _ _ => rfl)
          have E7 : f_X7_fits n p1 p2 p3 p4 p5 1 σ1 = some (mf_bits (fun z => mf_so (fun t => σ 78 (40 * p1 + p2 + t)) (fun t => σ 78 (40 * p3 + p4 + t)) p5.toNat 0 (mv_set v (0) z)) 9 1 0, σ2) := by
            unfold f_X7_fits
            rw [mv_misT r2' w, am_b2_some, if_pos ht, if_neg (by decide), mv_isRow7, am_b2_some, if_pos ha, if_neg (by decide), mv_isRow7, am_b2_some, if_pos hb, if_neg (by decide), mv_in, am_b2_some, if_pos hk, if_neg (by decide), mv_in, am_b2_some, if_pos hw, if_neg (by decide), e7 _ (F' 76 (by omega)) (F' 77 (by omega)), if_pos rfl, am_b2_some, if_pos rfl, if_neg (by decide), am_w_id (z := 40 * p1) (by omega), am_w_id (z := 40 * p1 + p2) (by omega), am_w_id (z := 40 * p3) (by omega), am_w_id (z := 40 * p3 + p4) (by omega)]
            unfold f_X7_all
            rw [c7, am_b2_some]
          have G := w_X7_fits E7
          refine ⟨_, σ1, σ2, E6, E7, ?_⟩
          unfold mr_st
          rw [c4, G 3 (by unfold nw_X7_fits; omega), c3]
      · have wf : am_w (-1000010 - fd) = -1000010 - fd := am_w_id (by omega)
        refine ⟨-1000010 - fd, am_up σ 3 8 fd, am_up (am_up σ 3 8 fd) 75 4 fd, ?_, ?_, mr_st_up mv_up_eq⟩
        · unfold f_X6_fits
          rw [mv_stands r1, am_b2_some, if_pos ht, if_neg (by decide), mv_areFit, am_b2_some, if_pos (show (0 ≤ p1 ∧ p1 < 8) ∧ (0 ≤ p3 ∧ p3 < 8) ∧ (1 ≤ p5 ∧ p5 ≤ 8) ∧ (0 ≤ p6 ∧ p6 ≤ 1) from ⟨ha, hb, hk, hw⟩), if_neg (by decide), e6, am_b2_some, if_neg h0, mv_fd6, am_b2_some, wf]
        · have r2' : mv_V0 (am_up σ 3 8 fd) 81 v := by
            unfold mv_V0
            rw [ah_up_ne _ _ _ (by decide)]
            exact r2
          unfold f_X7_fits
          rw [mv_misT r2' w, am_b2_some, if_pos ht, if_neg (by decide), mv_isRow7, am_b2_some, if_pos ha, if_neg (by decide), mv_isRow7, am_b2_some, if_pos hb, if_neg (by decide), mv_in, am_b2_some, if_pos hk, if_neg (by decide), mv_in, am_b2_some, if_pos hw, if_neg (by decide), e7 _ (ah_up_ne _ _ _ (by decide)) (ah_up_ne _ _ _ (by decide)), if_neg h0, am_b2_some, if_neg (show ¬ -1000010 - fd = 0 by omega)]
    · refine ⟨-1000001, σ, σ, ?_, ?_, R3⟩
      · unfold f_X6_fits
        rw [mv_stands r1, am_b2_some, if_pos ht, if_neg (by decide), mv_areFit, am_b2_some, if_neg hf, if_pos rfl]
      · unfold f_X7_fits
        rw [mv_misT r2 w, am_b2_some, if_pos ht, if_neg (by decide), mv_isRow7, am_b2_some]
        by_cases ha : 0 ≤ p1 ∧ p1 < 8
        · rw [if_pos ha, if_neg (by decide), mv_isRow7, am_b2_some]
          by_cases hb : 0 ≤ p3 ∧ p3 < 8
          · rw [if_pos hb, if_neg (by decide), mv_in, am_b2_some]
            by_cases hk : 1 ≤ p5 ∧ p5 ≤ 8
            · rw [if_pos hk, if_neg (by decide), mv_in, am_b2_some, if_neg (show ¬ (0 ≤ p6 ∧ p6 ≤ 1) from fun q => hf ⟨ha, hb, hk, q⟩), if_pos rfl]
            · rw [if_neg hk, if_pos rfl]
          · rw [if_neg hb, if_pos rfl]
        · rw [if_neg ha, if_pos rfl]
  · refine ⟨-1000002, σ, σ, ?_, ?_, R3⟩
    · unfold f_X6_fits
      rw [mv_stands r1, am_b2_some, if_neg ht, if_pos rfl]
    · unfold f_X7_fits
      rw [mv_misT r2 w, am_b2_some, if_neg ht, if_pos rfl]
theorem ma_fitsOf {n : Nat} {σ : am_Mem} {v : Int → Int} {p0 p1 p2 p3 p4 p5 p6 : Int} (hn : 10000000000 ≤ n) (R1 : mr_town σ v) (R2 : mr_rows σ) (R3 : mr_st σ) : ∃ r σ1 σ2, f_X6_fitsOf n p0 p1 p2 p3 p4 p5 p6 σ = some (r, σ1) ∧ f_X7_fitsOf n p0 p1 p2 p3 p4 p5 p6 σ1 = some (r, σ2) ∧ mr_st σ2 := by
  obtain ⟨w, w3, r1, r2⟩ := R1
  have w1 := w.1
  by_cases ht : 0 ≤ p0 ∧ p0 < v 6
  · by_cases hf : (0 ≤ p1 ∧ p1 < 8) ∧ (0 ≤ p3 ∧ p3 < 8) ∧ (1 ≤ p5 ∧ p5 ≤ 8) ∧ (0 ≤ p6 ∧ p6 ≤ 1)
    · obtain ⟨ha, hb, hk, hw⟩ := hf
      obtain ⟨fd, hfd, e6, e7, rows⟩ := mr_two (n := n) (i := p2) (j := p4) R2 ha hb hk
      by_cases h0 : fd = 0
      · subst h0
        obtain ⟨q1, q2⟩ := rows rfl
        have hs : ∀ t : Int, 0 ≤ t → t < p5 → σ (8 + p3.toNat) (p4 + t) = (fun t => σ 78 (40 * p3 + p4 + t)) t := fun t t0 t1 => by
          rw [q2.2.2.2 _ (by omega) (by omega), ← Int.add_assoc]
        have hp : ∀ t : Int, 0 ≤ t → t < p5 → σ (8 + p1.toNat) (p2 + t) = (fun t => σ 78 (40 * p1 + p2 + t)) t := fun t t0 t1 => by
          rw [q1.2.2.2 _ (by omega) (by omega), ← Int.add_assoc]
        have hw2 : p6 = 0 ∨ p6 = 1 := by omega
        rcases hw2 with hw2 | hw2
        · subst hw2
          obtain ⟨σ1, c6, c3⟩ := mf_fitsOf6 (n := n) (c1 := p0) (wh := 0) (hh := 5) (pl := 7 + 3 * p0) (paid := fun t => σ 78 (40 * p1 + p2 + t)) (str := fun t => σ 78 (40 * p3 + p4 + t)) hn ha hb q1.1 q2.1 (by omega) (by omega) (by omega) w w3 ht.1 ht.2 (by omega) (Or.inl ⟨rfl, rfl⟩) (lo := 1) (by omega) (fun z z0 z1 => mv_WF_kind w ht.1 ht.2 (by omega)) 5 n 1 0 σ (by omega) (by omega) (by omega) r1 hs hp
          have E6 : f_X6_fitsOf n p0 p1 p2 p3 p4 p5 0 σ = some (mf_bits (fun z => mf_so (fun t => σ 78 (40 * p1 + p2 + t)) (fun t => σ 78 (40 * p3 + p4 + t)) p5.toNat 0 (mv_set v (7 + 3 * p0) z)) 5 1 0, σ1) := by
            unfold f_X6_fitsOf
            rw [mv_hasC r1, am_b2_some, if_pos ht, if_neg (by decide), mv_areFit, am_b2_some, if_pos (show (0 ≤ p1 ∧ p1 < 8) ∧ (0 ≤ p3 ∧ p3 < 8) ∧ (1 ≤ p5 ∧ p5 ≤ 8) ∧ (0 ≤ (0 : Int) ∧ (0 : Int) ≤ 1) from ⟨ha, hb, hk, by omega⟩), if_neg (by decide), e6, am_b2_some, if_pos rfl, if_pos rfl, if_pos rfl]
            exact c6
          have F := w_X6_fitsOf E6
          have F' : ∀ c : Nat, 75 ≤ c → σ1 c = σ c := fun c hc => F c (by unfold nw_X6_fitsOf; omega)
          have r2' : mv_V0 σ1 81 v := by
            unfold mv_V0
            rw [F' 81 (by omega)]
            exact r2
          obtain ⟨σ2, c7, c4⟩ := mf_all (n := n) (pa := 40 * p1 + p2) (fr := 40 * p3 + p4) (N := p5) (hi := 5) (pl := 7 + 3 * p0) (paid := fun t => σ 78 (40 * p1 + p2 + t)) (str := fun t => σ 78 (40 * p3 + p4 + t)) (v := v) hn (by omega) (by omega) (by omega) (by omega) (by omega) (by omega) w3 1 (by omega) (by omega) (fun z z0 z1 => mv_WF_kind w ht.1 ht.2 (by omega)) 5 n 1 0 σ1 (by omega) (by omega) (by omega) (by decide) r2' (by rw [F' 78 (by omega)]; exact fun t _ _ => rfl) (by rw [F' 78 (by omega)]; exact fun t _ _ => rfl)
          have E7 : f_X7_fitsOf n p0 p1 p2 p3 p4 p5 0 σ1 = some (mf_bits (fun z => mf_so (fun t => σ 78 (40 * p1 + p2 + t)) (fun t => σ 78 (40 * p3 + p4 + t)) p5.toNat 0 (mv_set v (7 + 3 * p0) z)) 5 1 0, σ2) := by
            unfold f_X7_fitsOf
            rw [mv_misC r2' w, am_b2_some, if_pos ht, if_neg (by decide), mv_isRow7, am_b2_some, if_pos ha, if_neg (by decide), mv_isRow7, am_b2_some, if_pos hb, if_neg (by decide), mv_in, am_b2_some, if_pos hk, if_neg (by decide), mv_in, am_b2_some, if_pos hw, if_neg (by decide), e7 _ (F' 76 (by omega)) (F' 77 (by omega)), if_pos rfl, am_b2_some, if_pos rfl, if_pos rfl, am_w_id (z := 40 * p1) (by omega), am_w_id (z := 40 * p1 + p2) (by omega), am_w_id (z := 40 * p3) (by omega), am_w_id (z := 40 * p3 + p4) (by omega), am_w_id (z := 3 * p0) (by omega), am_w_id (z := 7 + 3 * p0) (by omega)]
            unfold f_X7_all
            rw [c7, am_b2_some]
          have G := w_X7_fitsOf E7
          refine ⟨_, σ1, σ2, E6, E7, ?_⟩
          unfold mr_st
          rw [c4, G 3 (by unfold nw_X7_fitsOf; omega), c3]
        · subst hw2
          obtain ⟨σ1, c6, c3⟩ := mf_fitsOf6 (n := n) (c1 := p0) (wh := 1) (hh := 9) (pl := 8 + 3 * p0) (paid := fun t => σ 78 (40 * p1 + p2 + t)) (str := fun t => σ 78 (40 * p3 + p4 + t)) hn ha hb q1.1 q2.1 (by omega) (by omega) (by omega) w w3 ht.1 ht.2 (by omega) (Or.inr ⟨rfl, rfl⟩) (lo := 0) (by omega) (fun z z0 z1 => mv_WF_much w ht.1 ht.2 (by omega)) 10 n 0 0 σ (by omega) (by omega) (by omega) r1 hs hp
          have E6 : f_X6_fitsOf n p0 p1 p2 p3 p4 p5 1 σ = some (mf_bits (fun z => mf_so (fun t => σ 78 (40 * p1 + p2 + t)) (fun t => σ 78 (40 * p3 + p4 + t)) p5.toNat 0 (mv_set v (8 + 3 * p0) z)) 10 0 0, σ1) := by
            unfold f_X6_fitsOf
            rw [mv_hasC r1, am_b2_some, if_pos ht, if_neg (by decide), mv_areFit, am_b2_some, if_pos (show (0 ≤ p1 ∧ p1 < 8) ∧ (0 ≤ p3 ∧ p3 < 8) ∧ (1 ≤ p5 ∧ p5 ≤ 8) ∧ (0 ≤ (1 : Int) ∧ (1 : Int) ≤ 1) from ⟨ha, hb, hk, by omega⟩), if_neg (by decide), e6, am_b2_some, if_pos rfl, if_neg (by decide), if_neg (by decide)]
            exact c6
          have F := w_X6_fitsOf E6
          have F' : ∀ c : Nat, 75 ≤ c → σ1 c = σ c := fun c hc => F c (by unfold nw_X6_fitsOf; omega)
          have r2' : mv_V0 σ1 81 v := by
            unfold mv_V0
            rw [F' 81 (by omega)]
            exact r2
          obtain ⟨σ2, c7, c4⟩ := mf_all (n := n) (pa := 40 * p1 + p2) (fr := 40 * p3 + p4) (N := p5) (hi := 9) (pl := 8 + 3 * p0) (paid := fun t => σ 78 (40 * p1 + p2 + t)) (str := fun t => σ 78 (40 * p3 + p4 + t)) (v := v) hn (by omega) (by omega) (by omega) (by omega) (by omega) (by omega) w3 0 (by omega) (by omega) (fun z z0 z1 => mv_WF_much w ht.1 ht.2 (by omega)) 10 n 0 0 σ1 (by omega) (by omega) (by omega) (by decide) r2' (by rw [F' 78 (by omega)]; exact fun t _ _ => rfl) (by rw [F' 78 (by omega)]; exact fun t _ _ => rfl)
          have E7 : f_X7_fitsOf n p0 p1 p2 p3 p4 p5 1 σ1 = some (mf_bits (fun z => mf_so (fun t => σ 78 (40 * p1 + p2 + t)) (fun t => σ 78 (40 * p3 + p4 + t)) p5.toNat 0 (mv_set v (8 + 3 * p0) z)) 10 0 0, σ2) := by
            unfold f_X7_fitsOf
            rw [mv_misC r2' w, am_b2_some, if_pos ht, if_neg (by decide), mv_isRow7, am_b2_some, if_pos ha, if_neg (by decide), mv_isRow7, am_b2_some, if_pos hb, if_neg (by decide), mv_in, am_b2_some, if_pos hk, if_neg (by decide), mv_in, am_b2_some, if_pos hw, if_neg (by decide), e7 _ (F' 76 (by omega)) (F' 77 (by omega)), if_pos rfl, am_b2_some, if_pos rfl, if_neg (by decide), am_w_id (z := 40 * p1) (by omega), am_w_id (z := 40 * p1 + p2) (by omega), am_w_id (z := 40 * p3) (by omega), am_w_id (z := 40 * p3 + p4) (by omega), am_w_id (z := 3 * p0) (by omega), am_w_id (z := 7 + 3 * p0) (by omega), am_w_id (z := 7 + 3 * p0 + 1) (by omega), show 7 + 3 * p0 + 1 = 8 + 3 * p0 by omega]
            unfold f_X7_all
            rw [c7, am_b2_some]
          have G := w_X7_fitsOf E7
          refine ⟨_, σ1, σ2, E6, E7, ?_⟩
          unfold mr_st
          rw [c4, G 3 (by unfold nw_X7_fitsOf; omega), c3]
      · have wf : am_w (-1000010 - fd) = -1000010 - fd := am_w_id (by omega)
        refine ⟨-1000010 - fd, am_up σ 3 8 fd, am_up (am_up σ 3 8 fd) 75 4 fd, ?_, ?_, mr_st_up mv_up_eq⟩
        · unfold f_X6_fitsOf
          rw [mv_hasC r1, am_b2_some, if_pos ht, if_neg (by decide), mv_areFit, am_b2_some, if_pos (show (0 ≤ p1 ∧ p1 < 8) ∧ (0 ≤ p3 ∧ p3 < 8) ∧ (1 ≤ p5 ∧ p5 ≤ 8) ∧ (0 ≤ p6 ∧ p6 ≤ 1) from ⟨ha, hb, hk, hw⟩), if_neg (by decide), e6, am_b2_some, if_neg h0, mv_fd6, am_b2_some, wf]
        · have r2' : mv_V0 (am_up σ 3 8 fd) 81 v := by
            unfold mv_V0
            rw [ah_up_ne _ _ _ (by decide)]
            exact r2
          unfold f_X7_fitsOf
          rw [mv_misC r2' w, am_b2_some, if_pos ht, if_neg (by decide), mv_isRow7, am_b2_some, if_pos ha, if_neg (by decide), mv_isRow7, am_b2_some, if_pos hb, if_neg (by decide), mv_in, am_b2_some, if_pos hk, if_neg (by decide), mv_in, am_b2_some, if_pos hw, if_neg (by decide), e7 _ (ah_up_ne _ _ _ (by decide)) (ah_up_ne _ _ _ (by decide)), if_neg h0, am_b2_some, if_neg (show ¬ -1000010 - fd = 0 by omega)]
    · refine ⟨-1000001, σ, σ, ?_, ?_, R3⟩
      · unfold f_X6_fitsOf
        rw [mv_hasC r1, am_b2_some, if_pos ht, if_neg (by decide), mv_areFit, am_b2_some, if_neg hf, if_pos rfl]
      · unfold f_X7_fitsOf
        rw [mv_misC r2 w, am_b2_some, if_pos ht, if_neg (by decide), mv_isRow7, am_b2_some]
        by_cases ha : 0 ≤ p1 ∧ p1 < 8
        · rw [if_pos ha, if_neg (by decide), mv_isRow7, am_b2_some]
          by_cases hb : 0 ≤ p3 ∧ p3 < 8
          · rw [if_pos hb, if_neg (by decide), mv_in, am_b2_some]
            by_cases hk : 1 ≤ p5 ∧ p5 ≤ 8
            · rw [if_pos hk, if_neg (by decide), mv_in, am_b2_some, if_neg (show ¬ (0 ≤ p6 ∧ p6 ≤ 1) from fun q => hf ⟨ha, hb, hk, q⟩), if_pos rfl]
            · rw [if_neg hk, if_pos rfl]
          · rw [if_neg hb, if_pos rfl]
        · rw [if_neg ha, if_pos rfl]
  · refine ⟨-1000001, σ, σ, ?_, ?_, R3⟩
    · unfold f_X6_fitsOf
      rw [mv_hasC r1, am_b2_some, if_neg ht, if_pos rfl]
    · unfold f_X7_fitsOf
      rw [mv_misC r2 w, am_b2_some, if_neg ht, if_pos rfl]
