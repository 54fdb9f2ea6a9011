/-! calls that only look -/
theorem mv_misC {n : Nat} {σ : am_Mem} {v : Int → Int} {x : Int} (r : mv_V0 σ 81 v) (w : mv_WF v) : f_X7_isCorner n x σ = some (if 0 ≤ x ∧ x < v 6 then 1 else 0, σ) := by
  have w1 := w.1
  unfold f_X7_isCorner
  rw [r 6 (by decide) (by decide), am_w_id (by omega), mv_in, am_b2_some]
  by_cases h : 0 ≤ x ∧ x < v 6
  · rw [if_pos (show 0 ≤ x ∧ x ≤ v 6 - 1 by omega), if_pos h, if_pos (Or.inr rfl)]
  · rw [if_neg (show ¬ (0 ≤ x ∧ x ≤ v 6 - 1) by omega), if_neg h, if_pos (Or.inl rfl)]
theorem mv_misS {n : Nat} {σ : am_Mem} {v : Int → Int} {x : Int} (r : mv_V0 σ 81 v) (w : mv_WF v) : f_X7_isStreet n x σ = some (if 0 ≤ x ∧ x < v 25 then 1 else 0, σ) := by
  have w1 := w.1
  unfold f_X7_isStreet
  rw [r 25 (by decide) (by decide), am_w_id (by omega), mv_in, am_b2_some]
  by_cases h : 0 ≤ x ∧ x < v 25
  · rw [if_pos (show 0 ≤ x ∧ x ≤ v 25 - 1 by omega), if_pos h, if_pos (Or.inr rfl)]
  · rw [if_neg (show ¬ (0 ≤ x ∧ x ≤ v 25 - 1) by omega), if_neg h, if_pos (Or.inl rfl)]
theorem mv_misT {n : Nat} {σ : am_Mem} {v : Int → Int} (r : mv_V0 σ 81 v) (w : mv_WF v) : f_X7_isTown n σ = some (if 0 < v 6 then 1 else 0, σ) := by
  have w1 := w.1
  have w2 := w.2.1
  unfold f_X7_isTown
  rw [r 0 (by decide) (by decide)]
  by_cases h : v 0 ≤ 0
  · rw [if_pos h, if_neg (by omega)]
  · rw [if_neg h, if_pos (by omega)]
theorem mv_kindIn {n : Nat} {σ : am_Mem} {v : Int → Int} {x : Int} (r : mv_V0 σ 81 v) (w : mv_WF v) (h : 0 ≤ x ∧ x < v 6) : f_X7_kindIn n x σ = some (v (7 + 3 * x), σ) := by
  have w1 := w.1
  unfold f_X7_kindIn
  rw [am_w_id (z := 3 * x) (by omega), am_w_id (by omega), if_pos (by omega), r _ (by omega) (by omega)]
theorem mv_or0 {z : Int} (h : am_ok z) : am_or z 0 = z := by
  unfold am_or
  rw [an_0, Int32.or_zero, an_id h]
theorem ma_status {n : Nat} {σ : am_Mem} (R : mr_st σ) : ∃ r, f_X6_status n σ = some (r, σ) ∧ f_X7_status n σ = some (r, σ) := ⟨σ 75 4, by unfold f_X6_status; rw [R], rfl⟩
theorem ma_fault {n : Nat} {σ : am_Mem} (R : mr_ft σ) : ∃ r, f_X6_fault n σ = some (r, σ) ∧ f_X7_fault n σ = some (r, σ) := ⟨σ 75 7, by unfold f_X6_fault; rw [R], rfl⟩
theorem ma_trace {n : Nat} {σ : am_Mem} {p1 : Int} (R : mr_tr σ) : ∃ r, f_X6_trace n p1 σ = some (r, σ) ∧ f_X7_trace n p1 σ = some (r, σ) := by
  obtain ⟨h1, h2, h3, h4⟩ := R
  unfold f_X6_trace f_X7_trace
  rw [h1, am_w_id (by omega), mv_in, am_b2_some]
  by_cases h : 0 ≤ p1 ∧ p1 < σ 75 31
  · rw [if_neg (by omega), if_pos h.2, if_pos (by omega), if_pos (show 0 ≤ p1 ∧ p1 ≤ σ 75 31 - 1 by omega), if_neg (by decide), if_pos (by omega), h4 p1 h.1 h.2]
    exact ⟨_, rfl, rfl⟩
  · rw [if_neg (show ¬ (0 ≤ p1 ∧ p1 ≤ σ 75 31 - 1) by omega), if_pos rfl]
    refine ⟨-1000000, ?_, rfl⟩
    by_cases h0 : p1 < 0
    · rw [if_pos h0]
    · rw [if_neg h0, if_neg (by omega)]
theorem ma_kind {n : Nat} {σ : am_Mem} {v : Int → Int} {p1 : Int} (R : mr_town σ v) : ∃ r, f_X6_kind n p1 σ = some (r, σ) ∧ f_X7_kind n p1 σ = some (r, σ) := by
  obtain ⟨w, _, r1, r2⟩ := R
  have w1 := w.1
  unfold f_X6_kind f_X7_kind
  rw [mv_hasC r1, am_b2_some, mv_misC r2 w, am_b2_some]
  by_cases h : 0 ≤ p1 ∧ p1 < v 6
  · simp (disch := omega) only [am_b2_some, am_b1_some, am_w_id, if_pos, if_neg, mv_kindIn r2 w h, (r1.2.1 p1 h.1 h.2).1]
    exact ⟨_, rfl, rfl⟩
  · simp (disch := omega) only [am_b2_some, am_b1_some, am_w_id, if_pos, if_neg]
    exact ⟨_, rfl, rfl⟩
theorem ma_count_go {n : Nat} {σ : am_Mem} (R : mr_rows σ) : ∀ (m : Nat) (a x : Int), 0 ≤ x → x ≤ 8 → 0 ≤ a → a ≤ x → 8 - x < m → ∃ r, fl_X2_howMany_4 n m a x σ = some (r, σ) ∧ fl_X7_count_58 n m a x σ = some (r, σ) := by
  intro m
  induction m with
  | zero => intro a x _ _ _ _ h; omega
  | succ m ih =>
    intro a x x0 x8 a0 ax hm
    unfold fl_X2_howMany_4 fl_X7_count_58 fb_X2_howMany_4 fb_X7_count_58
    by_cases hx : x < 8
    · unfold f_X2_isMissing f_X7_isMissing
      rcases R x x0 hx with ⟨q1, q2⟩ | ⟨q1, q2, q3, q4, _⟩
      · simp (disch := omega) only [am_b2_some, am_b1_some, am_w_id, if_pos, if_neg, Int.add_zero]
        exact ih a (x + 1) (by omega) (by omega) a0 (by omega) (by omega)
      · simp (disch := omega) only [am_b2_some, am_b1_some, am_w_id, if_pos, if_neg]
        exact ih (a + 1) (x + 1) (by omega) (by omega) (by omega) (by omega) (by omega)
    · simp (disch := omega) only [am_b2_some, am_b1_some, am_w_id, if_pos, if_neg]
      exact ⟨_, rfl, rfl⟩
theorem ma_count {n : Nat} {σ : am_Mem} {v : Int → Int} {p1 : Int} (hn : 10000000000 ≤ n) (R : mr_town σ v) (R2 : mr_acts σ v) (R3 : mr_rows σ) (R4 : mr_tape σ) : ∃ r, f_X6_count n p1 σ = some (r, σ) ∧ f_X7_count n p1 σ = some (r, σ) := by
  obtain ⟨w, _, r1, r2⟩ := R
  obtain ⟨s1, s2, s3, s4, s5, s6, s7, s8⟩ := r1.1
  unfold f_X6_count f_X7_count f_X2_howMany
  rw [s1, s2, s4, s5, s6, s7, s8, R2.1, R4.1, r2 6 (by decide) (by decide), r2 25 (by decide) (by decide), r2 3 (by decide) (by decide), r2 4 (by decide) (by decide), r2 1 (by decide) (by decide), r2 2 (by decide) (by decide), r2 5 (by decide) (by decide)]
  by_cases h0 : p1 = 0
  · rw [if_pos h0, if_pos h0]
    obtain ⟨r, e1, e2⟩ := ma_count_go (n := n) R3 n 0 0 (by omega) (by omega) (by omega) (by omega) (by omega)
    rw [e1, e2]
    exact ⟨_, rfl, rfl⟩
  · rw [if_neg h0, if_neg h0]
    repeat' split
    all_goals exact ⟨_, rfl, rfl⟩
theorem mv_ends_go {n q : Nat} {e c : Int} {σ : am_Mem} {v : Int → Int} (w : mv_WF v) (r1 : mv_TR σ 18 v) (r2 : mv_V0 σ 81 v) (he : 0 ≤ e ∧ e ≤ 1) (hq : ∀ x : Int, 0 ≤ x → x < v 25 → σ q x = v (26 + 2 * x + e)) : ∀ (m : Nat) (b x : Int), 0 ≤ x → x ≤ v 25 → am_ok b → v 25 - x < m → ∃ r, fl_X6_streetsAt_5 n q 8 m c b x σ = some (r, σ) ∧ fl_X7_ends_5 n m c e b x σ = some (r, σ) := by
  have w1 := w.1
  intro m
  induction m with
  | zero => intro b x _ _ _ h; omega
  | succ m ih =>
    intro b x x0 x1 hb hm
    unfold fl_X6_streetsAt_5 fl_X7_ends_5 fb_X6_streetsAt_5 fb_X7_ends_5
    rw [r1.1.2.1, r2 25 (by decide) (by decide)]
    by_cases hx : x < v 25
    · have k1 := r2 (26 + 2 * x + e) (by omega) (by omega)
      have k2 := hq x x0 hx
      by_cases hc : v (26 + 2 * x + e) = c
      · simp (disch := omega) only [am_b2_some, am_b1_some, am_w_id, if_pos, if_neg, k1, k2, mv_or0 hb, if_pos hc]
        exact ih _ _ (by omega) (by omega) (an_ok32 _) (by omega)
      · simp (disch := omega) only [am_b2_some, am_b1_some, am_w_id, if_pos, if_neg, k1, k2, mv_or0 hb, if_neg hc]
        exact ih _ _ (by omega) (by omega) hb (by omega)
    · simp (disch := omega) only [am_b2_some, am_b1_some, am_w_id, if_pos, if_neg]
      exact ⟨_, rfl, rfl⟩
theorem ma_corner {n : Nat} {σ : am_Mem} {v : Int → Int} {p1 p2 : Int} (hn : 10000000000 ≤ n) (R : mr_town σ v) : ∃ r, f_X6_corner n p1 p2 σ = some (r, σ) ∧ f_X7_corner n p1 p2 σ = some (r, σ) := by
  obtain ⟨w, _, r1, r2⟩ := R
  have w1 := w.1
  unfold f_X6_corner f_X7_corner f_X6_streetsAt f_X7_ends
  rw [mv_hasC r1, am_b2_some, mv_misC r2 w, am_b2_some]
  by_cases h : 0 ≤ p1 ∧ p1 < v 6
  · have q := r1.2.1 p1 h.1 h.2
    obtain ⟨b1, e1, f1⟩ := mv_ends_go (n := n) (q := 22) (e := 0) (c := p1) w r1 r2 (by omega) (fun x x0 x1 => by rw [Int.add_zero]; exact (r1.2.2 x x0 x1).1) n 0 0 (by omega) (by omega) (by decide) (by omega)
    obtain ⟨b2, e2, f2⟩ := mv_ends_go (n := n) (q := 23) (e := 1) (c := p1) w r1 r2 (by omega) (fun x x0 x1 => by rw [show 26 + 2 * x + 1 = 27 + 2 * x by omega]; exact (r1.2.2 x x0 x1).2) n 0 0 (by omega) (by omega) (by decide) (by omega)
    have k1 := mv_at r2 (k' := 8 + 3 * p1) (show 7 + 3 * p1 + 1 = 8 + 3 * p1 by omega) (by omega)
    have k2 := mv_at r2 (k' := 9 + 3 * p1) (show 7 + 3 * p1 + 2 = 9 + 3 * p1 by omega) (by omega)
    simp (disch := omega) only [am_b2_some, am_b1_some, am_w_id, if_pos, if_neg, e1, f1, e2, f2, r1.1.2.2.2.2.2.1, r1.1.2.2.2.2.2.2.2, r2 1 (by decide) (by decide), r2 3 (by decide) (by decide), mv_behind r1 w h.1 h.2, mv_mpassed r2 w h.1 h.2, q.2.1, q.2.2, k1, k2]
    repeat' split
    all_goals exact ⟨_, rfl, rfl⟩
  · simp (disch := omega) only [am_b2_some, am_b1_some, am_w_id, if_pos, if_neg]
    exact ⟨_, rfl, rfl⟩
theorem mv_bit01 (a x : Int) : am_and (am_shr a x) 1 = 0 ∨ am_and (am_shr a x) 1 = 1 := by
  unfold am_and
  have key : ∀ y : Int32, (y &&& 1).toInt = 0 ∨ (y &&& 1).toInt = 1 := by
    intro y
    have e : y &&& 1 = Int32.ofBitVec (y.toBitVec &&& 1) := rfl
    have h : y.toBitVec &&& 1 = 0 ∨ y.toBitVec &&& 1 = 1 := by
      have h2 : (y.toBitVec &&& 1).toNat = y.toBitVec.toNat % 2 := by
        rw [BitVec.toNat_and]
        exact Nat.and_one_is_mod _
      have h3 : y.toBitVec.toNat % 2 = 0 ∨ y.toBitVec.toNat % 2 = 1 := by omega
      rcases h3 with h3 | h3
      · exact Or.inl (BitVec.eq_of_toNat_eq (by rw [h2, h3]; rfl))
      · exact Or.inr (BitVec.eq_of_toNat_eq (by rw [h2, h3]; rfl))
    rw [e]
    rcases h with h | h
    · rw [h]; exact Or.inl rfl
    · rw [h]; exact Or.inr rfl
  exact key _
theorem ma_way {n : Nat} {σ : am_Mem} {v : Int → Int} {p1 p2 : Int} (R : mr_town σ v) : ∃ r, f_X6_way n p1 p2 σ = some (r, σ) ∧ f_X7_way n p1 p2 σ = some (r, σ) := by
  obtain ⟨w, _, r1, r2⟩ := R
  have w1 := w.1
  unfold f_X6_way f_X7_way
  rw [mv_has r1, am_b2_some, mv_misS r2 w, am_b2_some]
  by_cases h : 0 ≤ p1 ∧ p1 < v 25
  · have q := r1.2.2 p1 h.1 h.2
    have k1 := mv_at r2 (k' := 26 + 2 * p1) (show 26 + 2 * p1 + 0 = 26 + 2 * p1 by omega) (by omega)
    have k2 := mv_at r2 (k' := 27 + 2 * p1) (show 26 + 2 * p1 + 1 = 27 + 2 * p1 by omega) (by omega)
    by_cases h2 : 0 ≤ p2 ∧ p2 ≤ 2
    · have h3 : p2 = 0 ∨ p2 = 1 ∨ p2 = 2 := by omega
      rcases h3 with h3 | h3 | h3
      · subst h3
        simp (disch := omega) only [am_b2_some, am_b1_some, am_w_id, if_pos, if_neg, mv_in, mv_isOpen r1, q.1, q.2, k1]
        exact ⟨_, rfl, rfl⟩
      · subst h3
        simp (disch := omega) only [am_b2_some, am_b1_some, am_w_id, if_pos, if_neg, mv_in, mv_isOpen r1, q.1, q.2, k2]
        exact ⟨_, rfl, rfl⟩
      · subst h3
        rcases mv_bit01 (v 5) p1 with b | b
        · simp (disch := omega) only [am_b2_some, am_b1_some, am_w_id, if_pos, if_neg, mv_in, mv_isOpen r1, q.1, q.2, r2 5 (by decide) (by decide), b]
          exact ⟨_, rfl, rfl⟩
        · simp (disch := omega) only [am_b2_some, am_b1_some, am_w_id, if_pos, if_neg, mv_in, mv_isOpen r1, q.1, q.2, r2 5 (by decide) (by decide), b]
          exact ⟨_, rfl, rfl⟩
    · simp (disch := omega) only [am_b2_some, am_b1_some, am_w_id, if_pos, if_neg, mv_in]
      exact ⟨_, rfl, rfl⟩
  · simp (disch := omega) only [am_b2_some, am_b1_some, am_w_id, if_pos, if_neg]
    exact ⟨_, rfl, rfl⟩
theorem ma_would {n : Nat} {σ : am_Mem} {v : Int → Int} {p1 p2 : Int} (R : mr_town σ v) : ∃ r, f_X6_would n p1 p2 σ = some (r, σ) ∧ f_X7_would n p1 p2 σ = some (r, σ) := by
  obtain ⟨w, _, r1, r2⟩ := R
  have w1 := w.1
  unfold f_X6_would f_X7_would
  rw [mv_has r1, am_b2_some, mv_misS r2 w, am_b2_some]
  by_cases h : 0 ≤ p1 ∧ p1 < v 25
  · have wx := w.2.2.2.2.2 p1 h.1 h.2
    have k2 := mv_at r2 (k' := 27 + 2 * p1) (show 26 + 2 * p1 + 1 = 27 + 2 * p1 by omega) (by omega)
    by_cases h2 : 0 ≤ p2 ∧ p2 ≤ 1
    · rcases mv_goesi01 v p1 (v 4) with hg | hg
      · simp (disch := omega) only [am_b2_some, am_b1_some, am_w_id, if_pos, if_neg, mv_in, mv_leads r1 w, mv_mgoes r2 w, r2 4 (by decide) (by decide), hg]
        exact ⟨_, rfl, rfl⟩
      · simp (disch := omega) only [am_b2_some, am_b1_some, am_w_id, if_pos, if_neg, mv_in, mv_leads r1 w, mv_mgoes r2 w, r2 4 (by decide) (by decide), hg, mv_moodBy r1 w h.1 h.2, mv_costBy r1 w h.1 h.2, k2, r2 1 (by decide) (by decide), r2 3 (by decide) (by decide), mv_mpassed r2 w wx.2.2.1 wx.2.2.2, mv_mcost r2 w wx.2.2.1 wx.2.2.2]
        split
        all_goals exact ⟨_, rfl, rfl⟩
    · simp (disch := omega) only [am_b2_some, am_b1_some, am_w_id, if_pos, if_neg, mv_in]
      refine ⟨-1000001, ?_, rfl⟩
      by_cases h3 : p2 < 0
      · simp (disch := omega) only [am_b2_some, am_b1_some, am_w_id, if_pos, if_neg]
      · simp (disch := omega) only [am_b2_some, am_b1_some, am_w_id, if_pos, if_neg]
  · simp (disch := omega) only [am_b2_some, am_b1_some, am_w_id, if_pos, if_neg]
    exact ⟨_, rfl, rfl⟩
