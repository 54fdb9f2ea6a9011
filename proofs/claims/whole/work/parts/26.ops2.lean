/-! rows -/
theorem mv_isRow6 {n : Nat} {σ : am_Mem} {x : Int} : f_X2_isRow n x σ = some (if 0 ≤ x ∧ x < 8 then 1 else 0, σ) := by
  unfold f_X2_isRow
  repeat' split
  all_goals first | rfl | omega
theorem mv_isRow7 {n : Nat} {σ : am_Mem} {x : Int} : f_X7_isRow n x σ = some (if 0 ≤ x ∧ x < 8 then 1 else 0, σ) := by
  unfold f_X7_isRow
  by_cases h : 0 ≤ x ∧ x < 8
  · simp (disch := omega) only [am_b2_some, am_b1_some, am_w_id, or_true, true_or, reduceIte, if_pos, if_neg, mv_in]
  · simp (disch := omega) only [am_b2_some, am_b1_some, am_w_id, or_true, true_or, reduceIte, if_pos, if_neg, mv_in]
theorem mv_fd6 {n : Nat} {σ : am_Mem} {k : Int} : f_X6_found n k σ = some (am_w (-1000010 - k), am_up σ 3 8 k) := rfl
theorem mv_un6 {n : Nat} {σ : am_Mem} {k : Int} : f_X6_unfound n k σ = some (k, am_up σ 3 8 0) := rfl
theorem mv_fd7 {n : Nat} {σ : am_Mem} {k : Int} : f_X7_found n k σ = some (am_w (-1000010 - k), am_up σ 75 4 k) := rfl
theorem mv_we7 {n : Nat} {σ : am_Mem} {k : Int} : f_X7_well n k σ = some (k, am_up σ 75 4 0) := rfl
theorem mv_mis6 {n : Nat} {σ : am_Mem} {x : Int} (h : 0 ≤ x ∧ x < 8) : f_X2_isMissing n x σ = some (if σ 6 x = -1 then 1 else 0, σ) := by
  unfold f_X2_isMissing
  rw [if_pos h]
  split <;> rfl
theorem mv_mis7 {n : Nat} {σ : am_Mem} {x : Int} (h : 0 ≤ x ∧ x < 8) : f_X7_isMissing n x σ = some (if σ 76 x = -1000000 then 1 else 0, σ) := by
  unfold f_X7_isMissing
  rw [if_pos h]
  split <;> rfl
theorem mv_spans {n : Nat} {σ : am_Mem} {r i k : Int} (h : 0 ≤ r ∧ r < 8) (hl : 0 ≤ σ 6 r ∧ σ 6 r ≤ 40) (hk : k ≤ 2147483647) : f_X2_spans n r i k σ = some (if 0 ≤ i ∧ 0 ≤ k ∧ i + k ≤ σ 6 r then 1 else 0, σ) := by
  unfold f_X2_spans
  by_cases hi : i < 0
  · simp (disch := omega) only [am_b2_some, am_b1_some, am_w_id, or_true, true_or, reduceIte, if_pos, if_neg]
  · by_cases h2 : k < 0
    · simp (disch := omega) only [am_b2_some, am_b1_some, am_w_id, or_true, true_or, reduceIte, if_pos, if_neg]
    · simp (disch := omega) only [am_b2_some, am_b1_some, am_w_id, or_true, true_or, reduceIte, if_pos, if_neg]
      repeat' split
      all_goals first | rfl | omega
theorem mv_isPart {n : Nat} {σ : am_Mem} {r i k : Int} (h : 0 ≤ r ∧ r < 8) (hl : 0 ≤ σ 77 r ∧ σ 77 r ≤ 40) : f_X7_isPart n r i k σ = some (if 0 ≤ i ∧ 0 ≤ k ∧ i + k ≤ σ 77 r then 1 else 0, σ) := by
  unfold f_X7_isPart
  by_cases hi : i < 0
  · simp (disch := omega) only [am_b2_some, am_b1_some, am_w_id, or_true, true_or, reduceIte, if_pos, if_neg]
  · by_cases h2 : k < 0
    · simp (disch := omega) only [am_b2_some, am_b1_some, am_w_id, or_true, true_or, reduceIte, if_pos, if_neg]
    · by_cases h3 : i ≤ σ 77 r
      · simp (disch := omega) only [am_b2_some, am_b1_some, am_w_id, or_true, true_or, reduceIte, if_pos, if_neg]
        repeat' split
        all_goals first | rfl | omega
      · simp (disch := omega) only [am_b2_some, am_b1_some, am_w_id, or_true, true_or, reduceIte, if_pos, if_neg]
theorem mr_st_up {τ : am_Mem} {k : Int} (h : τ 3 8 = k) : mr_st (am_up τ 75 4 k) := by
  unfold mr_st
  rw [ah_up_ne _ _ _ (by decide), mv_up_eq, h]
theorem mv_lay_go {n : Nat} {r k : Int} (hr : 0 ≤ r ∧ r < 8) (hk : 0 ≤ k ∧ k ≤ 40) : ∀ (m : Nat) (x : Int) (σ : am_Mem), 0 ≤ x → x ≤ k → k - x < m → (∀ i : Int, 0 ≤ i → i < x → σ (8 + r.toNat) i = 0) → ∃ σ', fl_X2_lay_17 n m r k x σ = some σ' ∧ (∀ i : Int, 0 ≤ i → i < k → σ' (8 + r.toNat) i = 0) ∧ ∀ a : Nat, a ≠ 8 + r.toNat → σ' a = σ a := by
  intro m
  induction m with
  | zero => intro x σ _ _ h; omega
  | succ m ih =>
    intro x σ x0 xk hm h0
    unfold fl_X2_lay_17 fb_X2_lay_17
    by_cases hx : x < k
    · simp (disch := omega) only [am_b2_some, am_b1_some, am_w_id, or_true, true_or, reduceIte, if_pos, if_neg]
      obtain ⟨σ', e, q1, q2⟩ := ih (x + 1) (am_up σ (8 + r.toNat) x 0) (by omega) (by omega) (by omega) (by
        intro i i0 i1
        by_cases hi : i = x
        · subst hi; rw [mv_up_eq]
        · rw [mv_up_j hi]; exact h0 i i0 (by omega))
      refine ⟨σ', e, q1, fun a ha => ?_⟩
      rw [q2 a ha, ah_up_ne _ _ _ ha]
    · simp (disch := omega) only [am_b2_some, am_b1_some, am_w_id, or_true, true_or, reduceIte, if_pos, if_neg]
      exact ⟨σ, rfl, fun i i0 i1 => h0 i i0 (by omega), fun _ _ => rfl⟩
theorem mv_mrow_go {n : Nat} {r k : Int} (hr : 0 ≤ r ∧ r < 8) : ∀ (m : Nat) (x : Int) (σ : am_Mem), 0 ≤ x → x ≤ 40 → 40 - x < m → (∀ i : Int, 0 ≤ i → i < x → σ 78 (40 * r + i) = 0) → ∃ σ', fl_X7_row_52 n m r k x σ = some (k, σ') ∧ (∀ i : Int, 0 ≤ i → i < 40 → σ' 78 (40 * r + i) = 0) ∧ (∀ j : Int, (j < 40 * r ∨ 40 * r + 40 ≤ j) → σ' 78 j = σ 78 j) ∧ σ' 75 4 = 0 ∧ ∀ a : Nat, a ≠ 78 → a ≠ 75 → σ' a = σ a := by
  intro m
  induction m with
  | zero => intro x σ _ _ h; omega
  | succ m ih =>
    intro x σ x0 xk hm h0
    unfold fl_X7_row_52 fb_X7_row_52
    by_cases hx : x < 40
    · simp (disch := omega) only [am_b2_some, am_b1_some, am_w_id, or_true, true_or, reduceIte, if_pos, if_neg]
      obtain ⟨σ', e, q1, q2, q3, q4⟩ := ih (x + 1) (am_up σ 78 (40 * r + x) 0) (by omega) (by omega) (by omega) (by
        intro i i0 i1
        by_cases hi : i = x
        · subst hi; rw [mv_up_eq]
        · rw [mv_up_j (by omega)]; exact h0 i i0 (by omega))
      refine ⟨σ', e, q1, fun j hj => ?_, q3, fun a ha hb => ?_⟩
      · rw [q2 j hj, mv_up_j (by omega)]
      · rw [q4 a ha hb, ah_up_ne _ _ _ ha]
    · simp (disch := omega) only [am_b2_some, am_b1_some, am_w_id, or_true, true_or, reduceIte, if_pos, if_neg, mv_we7]
      refine ⟨_, rfl, ?_, ?_, mv_up_eq, ?_⟩
      · intro i i0 i1
        rw [ah_up_ne _ _ _ (by decide)]
        exact h0 i i0 (by omega)
      · intro j _
        rw [ah_up_ne _ _ _ (by decide)]
      · intro a ha hb
        rw [ah_up_ne _ _ _ hb]
theorem ma_row {n : Nat} {σ : am_Mem} {p1 p2 p3 : Int} (hn : 10000000000 ≤ n) (R : mr_rows σ) (R2 : mr_st σ) : ∃ r σ1 σ2, f_X6_row n p1 p2 p3 σ = some (r, σ1) ∧ f_X7_row n p1 p2 p3 σ1 = some (r, σ2) ∧ mr_rows σ2 ∧ mr_st σ2 := by
  unfold f_X6_row
  by_cases hr : 0 ≤ p1 ∧ p1 < 8
  · by_cases hl : 0 ≤ p2 ∧ p2 ≤ 2
    · by_cases hk : p3 ≤ 40
      · by_cases hk0 : p3 < 0
        · simp (disch := omega) only [am_b2_some, am_b1_some, am_w_id, or_true, true_or, reduceIte, if_pos, if_neg, mv_isRow6, mv_fd6]
          refine ⟨_, _, am_up (am_up σ 3 8 4) 75 4 4, rfl, ?_, ?_⟩
          · unfold f_X7_row
            simp (disch := omega) only [am_b2_some, am_b1_some, am_w_id, or_true, true_or, reduceIte, if_pos, if_neg, mv_isRow7, mv_in, mv_fd7]
          · exact ⟨mr_rows_fr R (fun a ha => by rw [ah_up_ne _ _ _ (by omega), ah_up_ne _ _ _ (by omega)]), mr_st_up mv_up_eq⟩
        · have e0 : f_X2_lay n p1 p2 p3 σ = fl_X2_lay_17 n n p1 p3 0 (am_up (am_up σ 5 p1 p2) 6 p1 p3) := by
            unfold f_X2_lay
            simp (disch := omega) only [am_b2_some, am_b1_some, am_w_id, or_true, true_or, reduceIte, if_pos, if_neg]
          obtain ⟨σ', e, q1, q2⟩ := mv_lay_go (n := n) hr (k := p3) ⟨by omega, hk⟩ n 0 (am_up (am_up σ 5 p1 p2) 6 p1 p3) (by omega) (by omega) (by omega) (fun i i0 i1 => by omega)
          simp (disch := omega) only [am_b2_some, am_b1_some, am_w_id, or_true, true_or, reduceIte, if_pos, if_neg, mv_isRow6, e0, e, mv_un6]
          obtain ⟨σ2, e2, t1, t2, t3, t4⟩ := mv_mrow_go (n := n) (k := p3) hr n 0 (am_up (am_up (am_up σ' 3 8 0) 76 p1 p2) 77 p1 p3) (by omega) (by omega) (by omega) (fun i i0 i1 => by omega)
          refine ⟨_, _, σ2, rfl, ?_, ?_, ?_⟩
          · unfold f_X7_row
            simp (disch := omega) only [am_b2_some, am_b1_some, am_w_id, or_true, true_or, reduceIte, if_pos, if_neg, mv_isRow7, mv_in, e2]
          · intro r r0 r1
            rw [t4 6 (by decide) (by decide), t4 76 (by decide) (by decide), t4 5 (by decide) (by decide), t4 77 (by decide) (by decide), t4 (8 + r.toNat) (by omega) (by omega)]
            by_cases hh : r = p1
            · subst hh
              simp (disch := omega) only [am_b2_some, am_b1_some, am_w_id, or_true, true_or, reduceIte, if_pos, if_neg, ah_up_ne, mv_up_j, mv_up_eq, q2]
              refine Or.inr ⟨by omega, by omega, by omega, by omega, trivial, trivial, fun i i0 i1 => ?_⟩
              rw [q1 i i0 i1, t1 i i0 (by omega)]
            · simp (disch := omega) only [am_b2_some, am_b1_some, am_w_id, or_true, true_or, reduceIte, if_pos, if_neg, ah_up_ne, mv_up_j, mv_up_eq, q2]
              have q := R r r0 r1
              rcases q with q | ⟨u1, u2, u3, u4, u5, u6, u7⟩
              · exact Or.inl q
              · refine Or.inr ⟨u1, u2, u3, u4, u5, u6, fun i i0 i1 => ?_⟩
                rw [t2 _ (by omega)]
                simp (disch := omega) only [am_b2_some, am_b1_some, am_w_id, or_true, true_or, reduceIte, if_pos, if_neg, ah_up_ne, mv_up_j, mv_up_eq, q2]
                exact u7 i i0 i1
          · unfold mr_st
            rw [t3, t4 3 (by decide) (by decide), ah_up_ne _ _ _ (by decide), ah_up_ne _ _ _ (by decide), mv_up_eq]
      · simp (disch := omega) only [am_b2_some, am_b1_some, am_w_id, or_true, true_or, reduceIte, if_pos, if_neg, mv_isRow6]
        refine ⟨_, _, σ, rfl, ?_, R, R2⟩
        unfold f_X7_row
        simp (disch := omega) only [am_b2_some, am_b1_some, am_w_id, or_true, true_or, reduceIte, if_pos, if_neg, mv_isRow7, mv_in]
    · refine ⟨-1000001, σ, σ, ?_, ?_, R, R2⟩
      · by_cases h0 : p2 < 0
        · simp (disch := omega) only [am_b2_some, am_b1_some, am_w_id, or_true, true_or, reduceIte, if_pos, if_neg, mv_isRow6]
        · simp (disch := omega) only [am_b2_some, am_b1_some, am_w_id, or_true, true_or, reduceIte, if_pos, if_neg, mv_isRow6]
      · unfold f_X7_row
        simp (disch := omega) only [am_b2_some, am_b1_some, am_w_id, or_true, true_or, reduceIte, if_pos, if_neg, mv_isRow7, mv_in]
  · simp (disch := omega) only [am_b2_some, am_b1_some, am_w_id, or_true, true_or, reduceIte, if_pos, if_neg, mv_isRow6]
    refine ⟨_, _, σ, rfl, ?_, R, R2⟩
    unfold f_X7_row
    simp (disch := omega) only [am_b2_some, am_b1_some, am_w_id, or_true, true_or, reduceIte, if_pos, if_neg, mv_isRow7]
theorem ma_drop {n : Nat} {σ : am_Mem} {p1 : Int} (R : mr_rows σ) (R2 : mr_st σ) : ∃ r σ1 σ2, f_X6_drop n p1 σ = some (r, σ1) ∧ f_X7_drop n p1 σ1 = some (r, σ2) ∧ mr_rows σ2 ∧ mr_st σ2 := by
  unfold f_X6_drop f_X2_lose
  by_cases hr : 0 ≤ p1 ∧ p1 < 8
  · rcases R p1 hr.1 hr.2 with ⟨q1, q2⟩ | ⟨u1, u2, u3, u4, u5, u6, u7⟩
    · simp (disch := omega) only [am_b2_some, am_b1_some, am_w_id, or_true, true_or, reduceIte, if_pos, if_neg, mv_isRow6, mv_mis6 hr, mv_fd6]
      refine ⟨_, _, am_up (am_up σ 3 8 1) 75 4 1, rfl, ?_, ?_⟩
      · unfold f_X7_drop
        simp (disch := omega) only [am_b2_some, am_b1_some, am_w_id, or_true, true_or, reduceIte, if_pos, if_neg, mv_isRow7, mv_mis7 hr, mv_fd7, ah_up_ne, mv_up_j, mv_up_eq]
      · exact ⟨mr_rows_fr R (fun a ha => by rw [ah_up_ne _ _ _ (by omega), ah_up_ne _ _ _ (by omega)]), mr_st_up mv_up_eq⟩
    · simp (disch := omega) only [am_b2_some, am_b1_some, am_w_id, or_true, true_or, reduceIte, if_pos, if_neg, mv_isRow6, mv_mis6 hr, mv_un6]
      refine ⟨_, _, am_up (am_up (am_up (am_up σ 6 p1 (-1)) 3 8 0) 76 p1 (-1000000)) 75 4 0, rfl, ?_, ?_, ?_⟩
      · unfold f_X7_drop
        simp (disch := omega) only [am_b2_some, am_b1_some, am_w_id, or_true, true_or, reduceIte, if_pos, if_neg, mv_isRow7, mv_mis7 hr, mv_we7, ah_up_ne, mv_up_j, mv_up_eq, u6]
      · intro r r0 r1
        by_cases hh : r = p1
        · subst hh
          simp (disch := omega) only [am_b2_some, am_b1_some, am_w_id, or_true, true_or, reduceIte, if_pos, if_neg, ah_up_ne, mv_up_j, mv_up_eq]
          exact Or.inl ⟨trivial, trivial⟩
        · simp (disch := omega) only [am_b2_some, am_b1_some, am_w_id, or_true, true_or, reduceIte, if_pos, if_neg, ah_up_ne, mv_up_j, mv_up_eq]
          exact R r r0 r1
      · refine mr_st_up ?_
        simp (disch := omega) only [am_b2_some, am_b1_some, am_w_id, or_true, true_or, reduceIte, if_pos, if_neg, ah_up_ne, mv_up_j, mv_up_eq]
  · simp (disch := omega) only [am_b2_some, am_b1_some, am_w_id, or_true, true_or, reduceIte, if_pos, if_neg, mv_isRow6]
    refine ⟨_, _, σ, rfl, ?_, R, R2⟩
    unfold f_X7_drop
    simp (disch := omega) only [am_b2_some, am_b1_some, am_w_id, or_true, true_or, reduceIte, if_pos, if_neg, mv_isRow7]
theorem mv_b8 (z : Int) : am_b8 z = am_shr (am_shl z 24) 24 := by
  unfold am_b8 am_shr am_shl
  rw [an_of]
  generalize Int32.ofInt z = y
  have e2 : ((y <<< (Int32.ofInt 24 &&& 31)) >>> (Int32.ofInt 24 &&& 31)).toInt = (y.toBitVec <<< 24).toInt >>> 24 := by
    show (BitVec.sshiftRight' (y.toBitVec <<< ((Int32.ofInt 24 &&& 31).toBitVec.smod 32)) ((Int32.ofInt 24 &&& 31).toBitVec.smod 32)).toInt = _
    rw [BitVec.toInt_sshiftRight', BitVec.shiftLeft_eq', show ((Int32.ofInt 24 &&& 31).toBitVec.smod 32).toNat = 24 by decide]
  have e3 : y.toInt = Int.bmod (y.toBitVec.toNat : Int) (2 ^ 32) := BitVec.toInt_eq_toNat_bmod _
  rw [e2, Int8.toInt_toInt32, Int32.toInt_toInt8, BitVec.toInt_shiftLeft, e3]
  generalize y.toBitVec.toNat = N
  rw [Nat.shiftLeft_eq, Int.shiftRight_eq_div_pow]
  simp only [Int.bmod]
  repeat' split
  all_goals omega
theorem mv_b16 (z : Int) : am_b16 z = am_shr (am_shl z 16) 16 := by
  unfold am_b16 am_shr am_shl
  rw [an_of]
  generalize Int32.ofInt z = y
  have e2 : ((y <<< (Int32.ofInt 16 &&& 31)) >>> (Int32.ofInt 16 &&& 31)).toInt = (y.toBitVec <<< 16).toInt >>> 16 := by
    show (BitVec.sshiftRight' (y.toBitVec <<< ((Int32.ofInt 16 &&& 31).toBitVec.smod 32)) ((Int32.ofInt 16 &&& 31).toBitVec.smod 32)).toInt = _
    rw [BitVec.toInt_sshiftRight', BitVec.shiftLeft_eq', show ((Int32.ofInt 16 &&& 31).toBitVec.smod 32).toNat = 16 by decide]
  have e3 : y.toInt = Int.bmod (y.toBitVec.toNat : Int) (2 ^ 32) := BitVec.toInt_eq_toNat_bmod _
  rw [e2, Int16.toInt_toInt32, Int32.toInt_toInt16, BitVec.toInt_shiftLeft, e3]
  generalize y.toBitVec.toNat = N
  rw [Nat.shiftLeft_eq, Int.shiftRight_eq_div_pow]
  simp only [Int.bmod]
  repeat' split
  all_goals omega
theorem ma_feed {n : Nat} {σ : am_Mem} {p1 : Int} (R : mr_tape σ) : ∃ r σ1 σ2, f_X6_feed n p1 σ = some (r, σ1) ∧ f_X7_feed n p1 σ1 = some (r, σ2) ∧ mr_tape σ2 := by
  obtain ⟨h1, h2, h3, h4⟩ := R
  unfold f_X6_feed f_X4_put
  by_cases hb : 0 ≤ p1 ∧ p1 ≤ 255
  · by_cases hl : σ 75 6 < 120
    · simp (disch := omega) only [am_b2_some, am_b1_some, am_w_id, or_true, true_or, reduceIte, if_pos, if_neg, h1, ah_up_ne, mv_up_j, mv_up_eq]
      refine ⟨_, _, am_up (am_up (am_up (am_up σ 17 (σ 75 6) p1) 16 1 (σ 75 6 + 1)) 80 (σ 75 6) p1) 75 6 (σ 75 6 + 1), rfl, ?_, ?_⟩
      · unfold f_X7_feed
        simp (disch := omega) only [am_b2_some, am_b1_some, am_w_id, or_true, true_or, reduceIte, if_pos, if_neg, mv_in, ah_up_ne, mv_up_j, mv_up_eq]
      · refine ⟨?_, ?_, ?_, ?_⟩
        · simp (disch := omega) only [am_b2_some, am_b1_some, am_w_id, or_true, true_or, reduceIte, if_pos, if_neg, ah_up_ne, mv_up_j, mv_up_eq]
        · simp (disch := omega) only [am_b2_some, am_b1_some, am_w_id, or_true, true_or, reduceIte, if_pos, if_neg, ah_up_ne, mv_up_j, mv_up_eq]
          omega
        · simp (disch := omega) only [am_b2_some, am_b1_some, am_w_id, or_true, true_or, reduceIte, if_pos, if_neg, ah_up_ne, mv_up_j, mv_up_eq]
          omega
        · intro i i0 i1
          have i1 : i < σ 75 6 + 1 := by
            rw [mv_up_eq] at i1
            exact i1
          by_cases hi : i = σ 75 6
          · rw [hi]
            simp (disch := omega) only [am_b2_some, am_b1_some, am_w_id, or_true, true_or, reduceIte, if_pos, if_neg, ah_up_ne, mv_up_j, mv_up_eq]
            exact ⟨trivial, hb⟩
          · simp (disch := omega) only [am_b2_some, am_b1_some, am_w_id, or_true, true_or, reduceIte, if_pos, if_neg, ah_up_ne, mv_up_j, mv_up_eq]
            exact h4 i i0 (by omega)
    · simp (disch := omega) only [am_b2_some, am_b1_some, am_w_id, or_true, true_or, reduceIte, if_pos, if_neg, h1]
      refine ⟨_, _, σ, rfl, ?_, h1, h2, h3, h4⟩
      unfold f_X7_feed
      simp (disch := omega) only [am_b2_some, am_b1_some, am_w_id, or_true, true_or, reduceIte, if_pos, if_neg, mv_in]
  · refine ⟨-1000001, σ, σ, ?_, ?_, h1, h2, h3, h4⟩
    · by_cases h0 : p1 < 0
      · simp (disch := omega) only [am_b2_some, am_b1_some, am_w_id, or_true, true_or, reduceIte, if_pos, if_neg]
      · simp (disch := omega) only [am_b2_some, am_b1_some, am_w_id, or_true, true_or, reduceIte, if_pos, if_neg]
    · unfold f_X7_feed
      simp (disch := omega) only [am_b2_some, am_b1_some, am_w_id, or_true, true_or, reduceIte, if_pos, if_neg, mv_in]
theorem mv_cut {n : Nat} {σ : am_Mem} {l z : Int} (h : 0 ≤ l ∧ l ≤ 2) : f_X7_cut n l z σ = some (if l = 0 then am_b8 z else if l = 1 then am_b16 z else z, σ) := by
  unfold f_X7_cut
  rw [mv_b8, mv_b16]
  repeat' split
  all_goals rfl
theorem mv_put {n : Nat} {σ : am_Mem} {r i z : Int} (hr : 0 ≤ r ∧ r < 8) (hi : 0 ≤ i ∧ i < 40) (h : 0 ≤ σ 5 r ∧ σ 5 r ≤ 2) : f_X2_put n r i z σ = some (if σ 5 r = 0 then am_b8 z else if σ 5 r = 1 then am_b16 z else z, am_up σ (8 + r.toNat) i (if σ 5 r = 0 then am_b8 z else if σ 5 r = 1 then am_b16 z else z)) := by
  unfold f_X2_put
  rw [if_pos hr, if_pos hi, if_pos hi, if_pos hi]
  repeat' split
  all_goals rfl
theorem mv_fnd {n : Nat} {σ : am_Mem} {r i k : Int} (R : mr_rows σ) (h : 0 ≤ r ∧ r < 8) (hk : k ≤ 2147483647) : f_X2_findingOf n r i k σ = some (if σ 6 r = -1 then 1 else if 0 ≤ i ∧ 0 ≤ k ∧ i + k ≤ σ 6 r then 0 else 2, σ) := by
  unfold f_X2_findingOf
  rw [mv_mis6 h, am_b2_some]
  rcases R r h.1 h.2 with ⟨q1, q2⟩ | ⟨u1, u2, _⟩
  · simp (disch := omega) only [am_b2_some, am_b1_some, am_w_id, or_true, true_or, reduceIte, if_pos, if_neg]
  · rw [mv_spans h ⟨u1, u2⟩ hk, am_b2_some]
    by_cases hh : 0 ≤ i ∧ 0 ≤ k ∧ i + k ≤ σ 6 r
    · simp (disch := omega) only [am_b2_some, am_b1_some, am_w_id, or_true, true_or, reduceIte, if_pos, if_neg]
    · simp (disch := omega) only [am_b2_some, am_b1_some, am_w_id, or_true, true_or, reduceIte, if_pos, if_neg]
theorem mr_st_ff {σ τ : am_Mem} {k : Int} (R : mr_rows σ) (e : ∀ a : Nat, a ≠ 3 → τ a = σ a) (h : τ 3 8 = k) : mr_rows (am_up τ 75 4 k) ∧ mr_st (am_up τ 75 4 k) :=
  ⟨mr_rows_fr R (fun a ha => by rw [ah_up_ne _ _ _ (by omega)]; exact e a (by omega)), mr_st_up h⟩
theorem ma_set {n : Nat} {σ : am_Mem} {p1 p2 p3 : Int} (R : mr_rows σ) (R2 : mr_st σ) : ∃ r σ1 σ2, f_X6_set n p1 p2 p3 σ = some (r, σ1) ∧ f_X7_set n p1 p2 p3 σ1 = some (r, σ2) ∧ mr_rows σ2 ∧ mr_st σ2 := by
  unfold f_X6_set
  by_cases hr : 0 ≤ p1 ∧ p1 < 8
  · have hf := mv_fnd (n := n) (i := p2) (k := 1) R hr (by decide)
    rcases R p1 hr.1 hr.2 with ⟨q1, q2⟩ | ⟨u1, u2, u3, u4, u5, u6, u7⟩
    · simp (disch := omega) only [am_b2_some, am_b1_some, am_w_id, or_true, true_or, reduceIte, if_pos, if_neg, mv_isRow6, hf, mv_fd6]
      refine ⟨_, _, am_up (am_up σ 3 8 1) 75 4 1, rfl, ?_, mr_st_ff R (fun a ha => ah_up_ne _ _ _ ha) mv_up_eq⟩
      unfold f_X7_set
      simp (disch := omega) only [am_b2_some, am_b1_some, am_w_id, or_true, true_or, reduceIte, if_pos, if_neg, mv_isRow7, mv_mis7 hr, mv_fd7, ah_up_ne, mv_up_j, mv_up_eq]
    · by_cases hi : 0 ≤ p2 ∧ p2 + 1 ≤ σ 6 p1
      · have hz := mv_put (n := n) (z := p3) (i := p2) hr (by omega) (σ := σ) (by omega)
        simp (disch := omega) only [am_b2_some, am_b1_some, am_w_id, or_true, true_or, reduceIte, if_pos, if_neg, mv_isRow6, hf, hz, mv_un6]
        rw [u5]
        generalize hg : (if σ 76 p1 = 0 then am_b8 p3 else if σ 76 p1 = 1 then am_b16 p3 else p3) = z
        refine ⟨_, _, am_up (am_up (am_up (am_up σ (8 + p1.toNat) p2 z) 3 8 0) 78 (40 * p1 + p2) z) 75 4 0, rfl, ?_, ?_, ?_⟩
        · unfold f_X7_set
          have hc := mv_cut (n := n) (σ := am_up (am_up σ (8 + p1.toNat) p2 z) 3 8 0) (z := p3) ⟨u3, u4⟩
          rw [hg] at hc
          simp (disch := omega) only [am_b2_some, am_b1_some, am_w_id, or_true, true_or, reduceIte, if_pos, if_neg, mv_isRow7, mv_mis7 hr, mv_in, mv_we7, ah_up_ne, mv_up_j, mv_up_eq, u6, hc]
        · intro r r0 r1
          by_cases hh : r = p1
          · subst hh
            simp (disch := omega) only [am_b2_some, am_b1_some, am_w_id, or_true, true_or, reduceIte, if_pos, if_neg, ah_up_ne, mv_up_j, mv_up_eq]
            refine Or.inr ⟨u1, u2, u3, u4, u5, u6, fun i i0 i1 => ?_⟩
            by_cases hj : i = p2
            · subst hj
              simp (disch := omega) only [am_b2_some, am_b1_some, am_w_id, or_true, true_or, reduceIte, if_pos, if_neg, ah_up_ne, mv_up_j, mv_up_eq]
            · simp (disch := omega) only [am_b2_some, am_b1_some, am_w_id, or_true, true_or, reduceIte, if_pos, if_neg, ah_up_ne, mv_up_j, mv_up_eq]
              exact u7 i i0 i1
          · simp (disch := omega) only [am_b2_some, am_b1_some, am_w_id, or_true, true_or, reduceIte, if_pos, if_neg, ah_up_ne, mv_up_j, mv_up_eq]
            rcases R r r0 r1 with q | ⟨v1, v2, v3, v4, v5, v6, v7⟩
            · exact Or.inl q
            · refine Or.inr ⟨v1, v2, v3, v4, v5, v6, fun i i0 i1 => ?_⟩
              simp (disch := omega) only [am_b2_some, am_b1_some, am_w_id, or_true, true_or, reduceIte, if_pos, if_neg, ah_up_ne, mv_up_j, mv_up_eq]
              exact v7 i i0 i1
        · refine mr_st_up ?_
          simp (disch := omega) only [am_b2_some, am_b1_some, am_w_id, or_true, true_or, reduceIte, if_pos, if_neg, ah_up_ne, mv_up_j, mv_up_eq]
      · simp (disch := omega) only [am_b2_some, am_b1_some, am_w_id, or_true, true_or, reduceIte, if_pos, if_neg, mv_isRow6, hf, mv_fd6]
        refine ⟨_, _, am_up (am_up σ 3 8 2) 75 4 2, rfl, ?_, mr_st_ff R (fun a ha => ah_up_ne _ _ _ ha) mv_up_eq⟩
        unfold f_X7_set
        simp (disch := omega) only [am_b2_some, am_b1_some, am_w_id, or_true, true_or, reduceIte, if_pos, if_neg, mv_isRow7, mv_mis7 hr, mv_fd7, mv_in, ah_up_ne, mv_up_j, mv_up_eq]
  · simp (disch := omega) only [am_b2_some, am_b1_some, am_w_id, or_true, true_or, reduceIte, if_pos, if_neg, mv_isRow6]
    refine ⟨_, _, σ, rfl, ?_, R, R2⟩
    unfold f_X7_set
    simp (disch := omega) only [am_b2_some, am_b1_some, am_w_id, or_true, true_or, reduceIte, if_pos, if_neg, mv_isRow7]
theorem mv_cp129_go {n : Nat} {b j k : Int} (hb : 0 ≤ b ∧ b < 8) (hj : 0 ≤ j) (hk : 0 ≤ k) (hjk : j + k ≤ 40) : ∀ (m : Nat) (x : Int) (σ : am_Mem), 0 ≤ x → x ≤ k → k - x < m → ∃ σ', fl_X7_copy_129 n m b j k x σ = some (k, σ') ∧ (∀ t : Int, x ≤ t → t < k → σ' 78 (40 * b + j + t) = σ 79 t) ∧ (∀ q : Int, (q < 40 * b + j + x ∨ 40 * b + j + k ≤ q) → σ' 78 q = σ 78 q) ∧ σ' 75 4 = 0 ∧ ∀ a : Nat, a ≠ 78 → a ≠ 75 → σ' a = σ a := by
  intro m
  induction m with
  | zero => intro x σ _ _ h; omega
  | succ m ih =>
    intro x σ x0 xk hm
    unfold fl_X7_copy_129 fb_X7_copy_129
    by_cases hx : x < k
    · simp (disch := omega) only [am_b2_some, am_b1_some, am_w_id, or_true, true_or, reduceIte, if_pos, if_neg]
      obtain ⟨σ', e, q1, q2, q3, q4⟩ := ih (x + 1) (am_up σ 78 (40 * b + j + x) (σ 79 x)) (by omega) (by omega) (by omega)
      refine ⟨σ', e, ?_, ?_, q3, ?_⟩
      · intro t t0 t1
        by_cases ht : t = x
        · subst ht
          rw [q2 _ (by omega), mv_up_eq]
        · rw [q1 t (by omega) t1, ah_up_ne _ _ _ (by decide)]
      · intro q hq
        rw [q2 q (by omega), mv_up_j (by omega)]
      · intro a ha hb'
        rw [q4 a ha hb', ah_up_ne _ _ _ ha]
    · simp (disch := omega) only [am_b2_some, am_b1_some, am_w_id, or_true, true_or, reduceIte, if_pos, if_neg, mv_we7]
      refine ⟨_, rfl, ?_, ?_, mv_up_eq, ?_⟩
      · intro t t0 t1; omega
      · intro q _
        rw [ah_up_ne _ _ _ (by decide)]
      · intro a ha hb'
        rw [ah_up_ne _ _ _ hb']
theorem mv_cp92_go {n : Nat} {a i b j k : Int} (ha : 0 ≤ a ∧ a < 8) (hi : 0 ≤ i) (hk : 0 ≤ k) (hik : i + k ≤ 40) : ∀ (m : Nat) (x : Int) (σ : am_Mem), 0 ≤ x → x ≤ k → k - x < m → (∀ t : Int, 0 ≤ t → t < x → σ 79 t = σ 78 (40 * a + i + t)) → ∃ σ', fl_X7_copy_92 n m a i b j k x σ = fl_X7_copy_129 n n b j k 0 σ' ∧ (∀ t : Int, 0 ≤ t → t < k → σ' 79 t = σ 78 (40 * a + i + t)) ∧ ∀ c : Nat, c ≠ 79 → σ' c = σ c := by
  intro m
  induction m with
  | zero => intro x σ _ _ h; omega
  | succ m ih =>
    intro x σ x0 xk hm h0
    unfold fl_X7_copy_92 fb_X7_copy_92
    by_cases hx : x < k
    · simp (disch := omega) only [am_b2_some, am_b1_some, am_w_id, or_true, true_or, reduceIte, if_pos, if_neg]
      obtain ⟨σ', e, q1, q2⟩ := ih (x + 1) (am_up σ 79 x (σ 78 (40 * a + i + x))) (by omega) (by omega) (by omega) (by
        intro t t0 t1
        rw [ah_up_ne _ _ _ (show 78 ≠ 79 by decide)]
        by_cases ht : t = x
        · subst ht; rw [mv_up_eq]
        · rw [mv_up_j ht]; exact h0 t t0 (by omega))
      refine ⟨σ', e, ?_, ?_⟩
      · intro t t0 t1
        rw [q1 t t0 t1, ah_up_ne _ _ _ (show 78 ≠ 79 by decide)]
      · intro c hc
        rw [q2 c hc, ah_up_ne _ _ _ hc]
    · simp (disch := omega) only [am_b2_some, am_b1_some, am_w_id, or_true, true_or, reduceIte, if_pos, if_neg]
      exact ⟨σ, rfl, fun t t0 t1 => h0 t t0 (by omega), fun _ _ => rfl⟩
theorem mv_fm {n : Nat} {σ : am_Mem} {a i b j k : Int} (ha : 0 ≤ a ∧ a < 8) (hb : 0 ≤ b ∧ b < 8) (la : -1 ≤ σ 6 a ∧ σ 6 a ≤ 40) (lb : -1 ≤ σ 6 b ∧ σ 6 b ≤ 40) (hk : k ≤ 2147483647) : f_X2_findingOfMove n a i b j k σ = some (if σ 6 a = -1 then 1 else if σ 6 b = -1 then 1 else if σ 5 a = σ 5 b then (if (0 ≤ i ∧ 0 ≤ k ∧ i + k ≤ σ 6 a) then (if (0 ≤ j ∧ 0 ≤ k ∧ j + k ≤ σ 6 b) then 0 else 2) else 2) else 5, σ) := by
  unfold f_X2_findingOfMove
  rw [mv_mis6 ha, am_b2_some]
  by_cases h1 : σ 6 a = -1
  · simp (disch := omega) only [am_b2_some, am_b1_some, am_w_id, or_true, true_or, reduceIte, if_pos, if_neg]
  · rw [if_neg h1, if_pos rfl, if_neg h1, mv_mis6 hb, am_b2_some]
    by_cases h2 : σ 6 b = -1
    · simp (disch := omega) only [am_b2_some, am_b1_some, am_w_id, or_true, true_or, reduceIte, if_pos, if_neg]
    · rw [if_neg h2, if_pos rfl, if_neg h2, if_pos ha, if_pos hb]
      by_cases h3 : σ 5 a = σ 5 b
      · rw [if_pos h3, if_pos h3, mv_spans ha ⟨by omega, la.2⟩ hk, am_b2_some]
        by_cases h4 : 0 ≤ i ∧ 0 ≤ k ∧ i + k ≤ σ 6 a
        · rw [if_pos h4, if_pos h4, if_neg (by decide), mv_spans hb ⟨by omega, lb.2⟩ hk, am_b2_some]
          by_cases h5 : 0 ≤ j ∧ 0 ≤ k ∧ j + k ≤ σ 6 b
          · rw [if_pos h5, if_pos h5, if_neg (by decide)]
          · rw [if_neg h5, if_neg h5, if_pos rfl]
        · rw [if_neg h4, if_neg h4, if_pos rfl]
      · rw [if_neg h3, if_neg h3]
theorem mv_copy7 {n : Nat} {τ : am_Mem} {a i b j k : Int} (ha : 0 ≤ a ∧ a < 8) (hb : 0 ≤ b ∧ b < 8) (la : τ 76 a ≠ -1000000 → 0 ≤ τ 77 a ∧ τ 77 a ≤ 40) (lb : τ 76 b ≠ -1000000 → 0 ≤ τ 77 b ∧ τ 77 b ≤ 40) : f_X7_copy n a i b j k τ = (if τ 76 a = -1000000 then some (-1000011, am_up τ 75 4 1) else if τ 76 b = -1000000 then some (-1000011, am_up τ 75 4 1) else if τ 76 a = τ 76 b then (if (0 ≤ i ∧ 0 ≤ k ∧ i + k ≤ τ 77 a) then (if (0 ≤ j ∧ 0 ≤ k ∧ j + k ≤ τ 77 b) then fl_X7_copy_92 n n a i b j k 0 τ else some (-1000012, am_up τ 75 4 2)) else some (-1000012, am_up τ 75 4 2)) else some (-1000015, am_up τ 75 4 5)) := by
  have w1 : am_w (-1000010 - 1) = -1000011 := am_w_id (by decide)
  have w2 : am_w (-1000010 - 2) = -1000012 := am_w_id (by decide)
  have w5 : am_w (-1000010 - 5) = -1000015 := am_w_id (by decide)
  unfold f_X7_copy
  rw [mv_isRow7, am_b2_some, if_pos ha, if_neg (by decide), mv_isRow7, am_b2_some, if_pos hb, if_neg (by decide), mv_mis7 ha, am_b2_some]
  by_cases h1 : τ 76 a = -1000000
  · rw [if_pos h1, if_neg (by decide), if_pos h1, mv_fd7, am_b2_some, w1]
  · rw [if_neg h1, if_pos rfl, if_neg h1, mv_mis7 hb, am_b2_some]
    by_cases h2 : τ 76 b = -1000000
    · rw [if_pos h2, if_neg (by decide), if_pos h2, mv_fd7, am_b2_some, w1]
    · rw [if_neg h2, if_pos rfl, if_neg h2, if_pos ha, if_pos hb]
      by_cases h3 : τ 76 a = τ 76 b
      · rw [if_pos h3, if_pos h3, mv_isPart ha (la h1), am_b2_some]
        by_cases h4 : 0 ≤ i ∧ 0 ≤ k ∧ i + k ≤ τ 77 a
        · rw [if_pos h4, if_pos h4, if_neg (by decide), mv_isPart hb (lb h2), am_b2_some]
          by_cases h5 : 0 ≤ j ∧ 0 ≤ k ∧ j + k ≤ τ 77 b
          · rw [if_pos h5, if_pos h5, if_neg (by decide)]
          · rw [if_neg h5, if_neg h5, if_pos rfl, mv_fd7, am_b2_some, w2]
        · rw [if_neg h4, if_neg h4, if_pos rfl, mv_fd7, am_b2_some, w2]
      · rw [if_neg h3, if_neg h3, mv_fd7, am_b2_some, w5]
theorem ma_copy {n : Nat} {σ : am_Mem} {p1 p2 p3 p4 p5 : Int} (hn : 10000000000 ≤ n) (h5 : am_ok p5) (R : mr_rows σ) (R2 : mr_st σ) : ∃ r σ1 σ2, f_X6_copy n p1 p2 p3 p4 p5 σ = some (r, σ1) ∧ f_X7_copy n p1 p2 p3 p4 p5 σ1 = some (r, σ2) ∧ mr_rows σ2 ∧ mr_st σ2 := by
  have h52 := h5.2
  have w1 : am_w (-1000010 - 1) = -1000011 := am_w_id (by decide)
  have w2 : am_w (-1000010 - 2) = -1000012 := am_w_id (by decide)
  have w5 : am_w (-1000010 - 5) = -1000015 := am_w_id (by decide)
  by_cases hr : 0 ≤ p1 ∧ p1 < 8
  · by_cases hs : 0 ≤ p3 ∧ p3 < 8
    · have Ra := R p1 hr.1 hr.2
      have Rb := R p3 hs.1 hs.2
      have L : ∀ r : Int, 0 ≤ r → r < 8 → (-1 ≤ σ 6 r ∧ σ 6 r ≤ 40) ∧ (σ 6 r = -1 ↔ σ 76 r = -1000000) ∧ (σ 6 r ≠ -1 → σ 5 r = σ 76 r ∧ σ 77 r = σ 6 r) := by
        intro r r0 r1
        rcases R r r0 r1 with ⟨q1, q2⟩ | ⟨u1, u2, u3, u4, u5, u6, u7⟩
        · exact ⟨by omega, by omega, fun h => absurd q1 h⟩
        · exact ⟨by omega, by omega, fun _ => ⟨u5, u6⟩⟩
      obtain ⟨la, ma, na⟩ := L p1 hr.1 hr.2
      obtain ⟨lb, mb, nb⟩ := L p3 hs.1 hs.2
      unfold f_X6_copy
      rw [mv_isRow6, am_b2_some, if_pos hr, if_neg (by decide), mv_isRow6, am_b2_some, if_pos hs, if_neg (by decide), mv_fm hr hs la lb h52, am_b2_some]
      have K : ∀ k : Int, ∀ τ : am_Mem, (∀ a : Nat, a ≠ 3 → a ≠ 8 + p3.toNat → τ a = σ a) → f_X7_copy n p1 p2 p3 p4 p5 τ = _ := fun k τ hτ => mv_copy7 hr hs (fun h => by rw [hτ 76 (by decide) (by omega)] at h; rw [hτ 77 (by decide) (by omega)]; have := na (by omega); omega) (fun h => by rw [hτ 76 (by decide) (by omega)] at h; rw [hτ 77 (by decide) (by omega)]; have := nb (by omega); omega)
      by_cases c1 : σ 6 p1 = -1
      · rw [if_pos c1, if_neg (by decide), mv_fd6, am_b2_some, w1]
        refine ⟨_, _, am_up (am_up σ 3 8 1) 75 4 1, rfl, ?_, mr_st_ff R (fun a ha => ah_up_ne _ _ _ ha) mv_up_eq⟩
        rw [K 0 (am_up σ 3 8 1) (fun a ha _ => ah_up_ne _ _ _ ha), ah_up_ne _ _ _ (show 76 ≠ 3 by decide), if_pos (ma.1 c1)]
      · rw [if_neg c1]
        have d1 : ¬ σ 76 p1 = -1000000 := fun h => c1 (ma.2 h)
        by_cases c2 : σ 6 p3 = -1
        · rw [if_pos c2, if_neg (by decide), mv_fd6, am_b2_some, w1]
          refine ⟨_, _, am_up (am_up σ 3 8 1) 75 4 1, rfl, ?_, mr_st_ff R (fun a ha => ah_up_ne _ _ _ ha) mv_up_eq⟩
          rw [K 0 (am_up σ 3 8 1) (fun a ha _ => ah_up_ne _ _ _ ha), ah_up_ne _ _ _ (show 76 ≠ 3 by decide), if_neg d1, if_pos (mb.1 c2)]
        · rw [if_neg c2]
          have d2 : ¬ σ 76 p3 = -1000000 := fun h => c2 (mb.2 h)
          obtain ⟨na1, na2⟩ := na c1
          obtain ⟨nb1, nb2⟩ := nb c2
          rw [na1, nb1]
          by_cases c3 : σ 76 p1 = σ 76 p3
          · rw [if_pos c3]
            by_cases c4 : 0 ≤ p2 ∧ 0 ≤ p5 ∧ p2 + p5 ≤ σ 6 p1
            · rw [if_pos c4]
              by_cases c5 : 0 ≤ p4 ∧ 0 ≤ p5 ∧ p4 + p5 ≤ σ 6 p3
              · have e1 : f_X2_move n p1 p2 p3 p4 p5 σ = some (am_cpy σ (8 + p1.toNat) p2 (8 + p3.toNat) p4 p5) := by
                  unfold f_X2_move
                  rw [if_pos hr, if_pos hs, if_pos (by omega), am_b1_some]
                rw [if_pos c5, if_pos rfl, e1, am_b1_some, mv_un6, am_b2_some]
                have hτ : ∀ a : Nat, a ≠ 3 → a ≠ 8 + p3.toNat → am_up (am_cpy σ (8 + p1.toNat) p2 (8 + p3.toNat) p4 p5) 3 8 0 a = σ a := fun a h1 h2 => by rw [ah_up_ne _ _ _ h1, ah_cpy_ne _ _ _ _ _ h2]
                have hτ3 : am_up (am_cpy σ (8 + p1.toNat) p2 (8 + p3.toNat) p4 p5) 3 8 0 3 8 = 0 := mv_up_eq
                have hτr : am_up (am_cpy σ (8 + p1.toNat) p2 (8 + p3.toNat) p4 p5) 3 8 0 (8 + p3.toNat) = am_cpy σ (8 + p1.toNat) p2 (8 + p3.toNat) p4 p5 (8 + p3.toNat) := ah_up_ne _ _ _ (by omega)
                have KK := K 0 _ hτ
                generalize am_up (am_cpy σ (8 + p1.toNat) p2 (8 + p3.toNat) p4 p5) 3 8 0 = τ at hτ hτ3 hτr KK ⊢
                obtain ⟨σ3, f1, g1, g2⟩ := mv_cp92_go (n := n) (b := p3) (j := p4) hr c4.1 c4.2.1 (by omega) n 0 τ (by omega) (by omega) (by omega) (fun t t0 t1 => by omega)
                obtain ⟨σ4, f2, k1, k2, k3, k4⟩ := mv_cp129_go (n := n) hs c5.1 c5.2.1 (by omega) n 0 σ3 (by omega) (by omega) (by omega)
                refine ⟨_, _, σ4, rfl, ?_, ?_, ?_⟩
                · rw [KK, hτ 76 (by decide) (by omega), hτ 77 (by decide) (by omega), if_neg d1, if_neg d2, if_pos c3, na2, nb2, if_pos c4, if_pos c5, f1, f2]
                · clear KK K e1 f1 f2
                  have T : ∀ a : Nat, a ≠ 78 → a ≠ 75 → a ≠ 79 → a ≠ 3 → a ≠ 8 + p3.toNat → σ4 a = σ a := fun a h1 h2 h3 h4 h5 => by rw [k4 a h1 h2, g2 a h3, hτ a h4 h5]
                  have T78 : ∀ q : Int, (q < 40 * p3 + p4 + 0 ∨ 40 * p3 + p4 + p5 ≤ q) → σ4 78 q = σ 78 q := fun q hq => by rw [k2 q hq, g2 78 (by decide), hτ 78 (by decide) (by omega)]
                  intro r r0 r1
                  rw [T 6 (by decide) (by decide) (by decide) (by decide) (by omega), T 76 (by decide) (by decide) (by decide) (by decide) (by omega), T 5 (by decide) (by decide) (by decide) (by decide) (by omega), T 77 (by decide) (by decide) (by decide) (by decide) (by omega)]
                  by_cases hh : r = p3
                  · subst hh
                    rcases Rb with q | ⟨v1, v2, v3, v4, v5, v6, v7⟩
                    · exact Or.inl q
                    · refine Or.inr ⟨v1, v2, v3, v4, v5, v6, fun i i0 i1 => ?_⟩
                      rw [k4 _ (by omega) (by omega), g2 _ (by omega), hτr]
                      by_cases hin : p4 ≤ i ∧ i < p4 + p5
                      · rcases Ra with q | ⟨u1, u2, u3, u4, u5, u6, u7⟩
                        · omega
                        · rw [mv_cpy_at hin, show 40 * r + i = 40 * r + p4 + (i - p4) by omega, k1 _ (by omega) (by omega), g1 _ (by omega) (by omega), hτ 78 (by decide) (by omega), u7 _ (by omega) (by omega), Int.add_assoc]
                      · have e9 : am_cpy σ (8 + p1.toNat) p2 (8 + r.toNat) p4 p5 (8 + r.toNat) i = σ (8 + r.toNat) i := if_neg (fun q => hin q.2)
                        rw [e9, T78 _ (by omega)]
                        exact v7 i i0 i1
                  · rw [T (8 + r.toNat) (by omega) (by omega) (by omega) (by omega) (by omega)]
                    rcases R r r0 r1 with q | ⟨z1, z2, z3, z4, z5, z6, z7⟩
                    · exact Or.inl q
                    · refine Or.inr ⟨z1, z2, z3, z4, z5, z6, fun i i0 i1 => ?_⟩
                      rw [T78 _ (by omega)]
                      exact z7 i i0 i1
                · unfold mr_st
                  rw [k3, k4 3 (by decide) (by decide), g2 3 (by decide), hτ3]
              · rw [if_neg c5, if_neg (by decide), mv_fd6, am_b2_some, w2]
                refine ⟨_, _, am_up (am_up σ 3 8 2) 75 4 2, rfl, ?_, mr_st_ff R (fun a ha => ah_up_ne _ _ _ ha) mv_up_eq⟩
                rw [K 0 (am_up σ 3 8 2) (fun a ha _ => ah_up_ne _ _ _ ha), ah_up_ne _ _ _ (show 76 ≠ 3 by decide), ah_up_ne _ _ _ (show 77 ≠ 3 by decide), if_neg d1, if_neg d2, if_pos c3, na2, nb2, if_pos c4, if_neg c5]
            · rw [if_neg c4, if_neg (by decide), mv_fd6, am_b2_some, w2]
              refine ⟨_, _, am_up (am_up σ 3 8 2) 75 4 2, rfl, ?_, mr_st_ff R (fun a ha => ah_up_ne _ _ _ ha) mv_up_eq⟩
              rw [K 0 (am_up σ 3 8 2) (fun a ha _ => ah_up_ne _ _ _ ha), ah_up_ne _ _ _ (show 76 ≠ 3 by decide), ah_up_ne _ _ _ (show 77 ≠ 3 by decide), if_neg d1, if_neg d2, if_pos c3, na2, if_neg c4]
          · rw [if_neg c3, if_neg (by decide), mv_fd6, am_b2_some, w5]
            refine ⟨_, _, am_up (am_up σ 3 8 5) 75 4 5, rfl, ?_, mr_st_ff R (fun a ha => ah_up_ne _ _ _ ha) mv_up_eq⟩
            rw [K 0 (am_up σ 3 8 5) (fun a ha _ => ah_up_ne _ _ _ ha), ah_up_ne _ _ _ (show 76 ≠ 3 by decide), if_neg d1, if_neg d2, if_neg c3]
    · refine ⟨-1000001, σ, σ, ?_, ?_, R, R2⟩
      · unfold f_X6_copy
        rw [mv_isRow6, am_b2_some, if_pos hr, if_neg (by decide), mv_isRow6, am_b2_some, if_neg hs, if_pos rfl]
      · unfold f_X7_copy
        rw [mv_isRow7, am_b2_some, if_pos hr, if_neg (by decide), mv_isRow7, am_b2_some, if_neg hs, if_pos rfl]
  · refine ⟨-1000001, σ, σ, ?_, ?_, R, R2⟩
    · unfold f_X6_copy
      rw [mv_isRow6, am_b2_some, if_neg hr, if_pos rfl]
    · unfold f_X7_copy
      rw [mv_isRow7, am_b2_some, if_neg hr, if_pos rfl]
