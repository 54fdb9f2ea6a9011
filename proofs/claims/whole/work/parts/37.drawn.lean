/-! drawn -/
def mf_cnt (v : Int → Int) : Nat → Int → Int
  | 0, _ => 0
  | m + 1, x => mf_cnt v m (x + 1) + mv_goesi v x (v 4)
def mf_nth (v : Int → Int) : Nat → Int → Int → Int
  | 0, _, _ => -1000000
  | m + 1, a, x => if mv_goesi v x (v 4) = 0 then mf_nth v m a (x + 1) else if a = 0 then x else mf_nth v m (a - 1) (x + 1)
theorem mf_cnt_in (v : Int → Int) : ∀ (m : Nat) (x : Int), 0 ≤ mf_cnt v m x ∧ mf_cnt v m x ≤ m := by
  intro m
  induction m with
  | zero => intro x; exact ⟨Int.le_refl _, Int.le_refl _⟩
  | succ m ih =>
    intro x
    have := ih (x + 1)
    unfold mf_cnt
    rcases mv_goesi01 v x (v 4) with h | h <;> rw [h] <;> omega
theorem mf_nth_no (v : Int → Int) : ∀ (m : Nat) (a x : Int), 0 ≤ x → 0 ≤ a → (mf_nth v m a x = -1000000 ↔ mf_cnt v m x ≤ a) := by
  intro m
  induction m with
  | zero =>
    intro a x x0 a0
    exact ⟨fun _ => a0, fun _ => rfl⟩
  | succ m ih =>
    intro a x x0 a0
    have c := mf_cnt_in v m (x + 1)
    unfold mf_nth mf_cnt
    rcases mv_goesi01 v x (v 4) with h | h
    · rw [h, if_pos rfl, Int.add_zero]
      exact ih a (x + 1) (by omega) a0
    · rw [h, if_neg (by decide)]
      by_cases h0 : a = 0
      · rw [if_pos h0]
        constructor
        · intro q; omega
        · intro q; omega
      · rw [if_neg h0, ih (a - 1) (x + 1) (by omega) (by omega)]
        constructor
        · intro q; omega
        · intro q; omega
theorem mf_nth_yes (v : Int → Int) : ∀ (m : Nat) (a x : Int), 0 ≤ x → 0 ≤ a → a < mf_cnt v m x → mv_goesi v (mf_nth v m a x) (v 4) = 1 := by
  intro m
  induction m with
  | zero =>
    intro a x x0 a0 h
    have : mf_cnt v 0 x = 0 := rfl
    omega
  | succ m ih =>
    intro a x x0 a0 hc
    unfold mf_cnt at hc
    unfold mf_nth
    rcases mv_goesi01 v x (v 4) with h | h
    · rw [h, if_pos rfl]
      rw [h] at hc
      exact ih a (x + 1) (by omega) a0 (by omega)
    · rw [h] at hc
      by_cases h0 : a = 0
      · rw [if_neg (by omega), if_pos h0]
        exact h
      · rw [if_neg (by omega), if_neg h0]
        exact ih (a - 1) (x + 1) (by omega) (by omega) (by omega)
theorem mf_after {n : Nat} {σ : am_Mem} {v : Int → Int} (r : mv_V0 σ 83 v) (w : mv_WF v) : ∀ (m fu : Nat) (a x : Int), 0 ≤ x → x + m = v 25 → m < fu → 0 ≤ a → a ≤ 100 → fl_X7_streetAfter_4 n fu a x σ = some (mf_nth v m a x, σ) := by
  have w1 := w.1
  intro m
  induction m with
  | zero =>
    intro fu a x x0 hx hf a0 a1
    obtain ⟨fu, rfl⟩ : ∃ q, fu = q + 1 := ⟨fu - 1, by omega⟩
    show fb_X7_streetAfter_4 n _ a x σ = _
    unfold fb_X7_streetAfter_4
    rw [r 25 (by decide) (by decide), if_neg (show ¬ x < v 25 by omega)]
    rfl
  | succ m ih =>
    intro fu a x x0 hx hf a0 a1
    obtain ⟨fu, rfl⟩ : ∃ q, fu = q + 1 := ⟨fu - 1, by omega⟩
    show fb_X7_streetAfter_4 n (fun y1 y2 σ => fl_X7_streetAfter_4 n fu y1 y2 σ) a x σ = _
    unfold fb_X7_streetAfter_4 mf_nth
    rw [r 25 (by decide) (by decide), if_pos (show x < v 25 by omega), r 4 (by decide) (by decide), mv_mgoes r w, am_b2_some, am_w_id (z := x + 1) (by omega)]
    rcases mv_goesi01 v x (v 4) with h | h
    · rw [h, if_pos rfl, if_pos rfl]
      exact ih fu a (x + 1) (by omega) (by omega) (by omega) a0 a1
    · rw [h, if_neg (show ¬ (1 : Int) = 0 by decide), if_neg (show ¬ (1 : Int) = 0 by decide)]
      by_cases h0 : a = 0
      · rw [if_pos h0, if_pos h0]
      · rw [if_neg h0, if_neg h0, am_w_id (z := a + -1) (by omega), show a + -1 = a - 1 by omega]
        exact ih fu (a - 1) (x + 1) (by omega) (by omega) (by omega) (by omega) (by omega)
theorem mf_go57 {n : Nat} {σ : am_Mem} {v : Int → Int} (r : mv_TR σ 24 v) (w : mv_WF v) : ∀ (m fu : Nat) (a x : Int), 0 ≤ x → x + m = v 25 → m < fu → 0 ≤ a → a ≤ 100 → a < mf_cnt v m x → fl_X5_goByDraw_57 n 24 fu a x σ = am_b1 (f_X5_goBy n 24 (mf_nth v m a x) σ) fun τ => some τ := by
  have w1 := w.1
  intro m
  induction m with
  | zero =>
    intro fu a x x0 hx hf a0 a1 hc
    have : mf_cnt v 0 x = 0 := rfl
    omega
  | succ m ih =>
    intro fu a x x0 hx hf a0 a1 hc
    obtain ⟨fu, rfl⟩ : ∃ q, fu = q + 1 := ⟨fu - 1, by omega⟩
    unfold mf_cnt at hc
    show fb_X5_goByDraw_57 n 24 (fun y1 y2 σ => fl_X5_goByDraw_57 n 24 fu y1 y2 σ) a x σ = _
    unfold fb_X5_goByDraw_57 mf_nth
    rw [r.1.2.1, if_pos (show x < v 25 by omega), mv_leads r w, am_b2_some, am_w_id (z := x + 1) (by omega)]
    rcases mv_goesi01 v x (v 4) with h | h
    · rw [h] at hc
      rw [h, if_pos rfl, if_pos rfl]
      exact ih fu a (x + 1) (by omega) (by omega) (by omega) a0 a1 (by omega)
    · rw [h] at hc
      rw [h, if_neg (show ¬ (1 : Int) = 0 by decide), if_neg (show ¬ (1 : Int) = 0 by decide)]
      by_cases h0 : a = 0
      · rw [if_pos h0, if_pos h0]
      · rw [if_neg h0, if_neg h0, am_w_id (z := a + -1) (by omega), show a + -1 = a - 1 by omega]
        exact ih fu (a - 1) (x + 1) (by omega) (by omega) (by omega) (by omega) (by omega) (by omega)
theorem mf_go5 {n : Nat} {σ : am_Mem} {v : Int → Int} {p : Int} (r : mv_TR σ 24 v) (w : mv_WF v) : ∀ (m fu : Nat) (c x : Int), 0 ≤ x → x + m = v 25 → m < fu → 0 ≤ c → c ≤ x → fl_X5_goByDraw_5 n 24 fu p c x σ = (if c + mf_cnt v m x = 0 then (am_b1 (some (am_up σ 24 12 (am_w ((σ 24 12) + 1)))) fun σ7 => some σ7) else (if c + mf_cnt v m x ≠ 0 then fl_X5_goByDraw_57 n 24 n (am_w (Int.tmod p (c + mf_cnt v m x))) 0 σ else none)) := by
  have w1 := w.1
  intro m
  induction m with
  | zero =>
    intro fu c x x0 hx hf c0 c1
    obtain ⟨fu, rfl⟩ : ∃ q, fu = q + 1 := ⟨fu - 1, by omega⟩
    show fb_X5_goByDraw_5 n 24 _ p c x σ = _
    unfold fb_X5_goByDraw_5
    have e : mf_cnt v 0 x = 0 := rfl
    rw [r.1.2.1, if_neg (show ¬ x < v 25 by omega), e, Int.add_zero]
  | succ m ih =>
    intro fu c x x0 hx hf c0 c1
    obtain ⟨fu, rfl⟩ : ∃ q, fu = q + 1 := ⟨fu - 1, by omega⟩
    show fb_X5_goByDraw_5 n 24 (fun y0 y1 y2 σ => fl_X5_goByDraw_5 n 24 fu y0 y1 y2 σ) p c x σ = _
    unfold fb_X5_goByDraw_5 mf_cnt
    rw [r.1.2.1, if_pos (show x < v 25 by omega), mv_leads r w, am_b2_some, am_w_id (z := x + 1) (by omega), am_w_id (z := c + 1) (by omega)]
    rcases mv_goesi01 v x (v 4) with h | h
    · rw [h, if_pos rfl, Int.add_zero]
      exact ih fu c (x + 1) (by omega) (by omega) (by omega) c0 (by omega)
    · rw [h, if_neg (by decide), show c + (mf_cnt v m (x + 1) + 1) = c + 1 + mf_cnt v m (x + 1) by omega]
      exact ih fu (c + 1) (x + 1) (by omega) (by omega) (by omega) (by omega) (by omega)
