/-! towns as vectors of 42 numbers -/
def mv_TR (σ : am_Mem) (t : Nat) (v : Int → Int) : Prop :=
  (σ t 5 = v 6 ∧ σ t 6 = v 25 ∧ σ t 7 = v 0 ∧ σ t 8 = v 5 ∧ σ t 9 = v 4 ∧ σ t 10 = v 1 ∧ σ t 11 = v 2 ∧ σ t 12 = v 3)
  ∧ (∀ c : Int, 0 ≤ c → c < v 6 → σ (t + 1) c = v (7 + 3 * c) ∧ σ (t + 2) c = v (8 + 3 * c) ∧ σ (t + 3) c = v (9 + 3 * c))
  ∧ (∀ x : Int, 0 ≤ x → x < v 25 → σ (t + 4) x = v (26 + 2 * x) ∧ σ (t + 5) x = v (27 + 2 * x))
def mv_V0 (σ : am_Mem) (a : Nat) (v : Int → Int) : Prop := ∀ k : Int, 0 ≤ k → k < 42 → σ a k = v k
def mv_VR (σ : am_Mem) (a : Nat) (o : Int) (v : Int → Int) : Prop := ∀ k : Int, 0 ≤ k → k < 42 → σ a (o + k) = v k
def mv_WF (v : Int → Int) : Prop :=
  (0 ≤ v 6 ∧ v 6 ≤ 6 ∧ 0 ≤ v 25 ∧ v 25 ≤ 8 ∧ 0 ≤ v 0 ∧ v 0 ≤ 9 ∧ 0 ≤ v 1 ∧ v 1 ≤ 9 ∧ 0 ≤ v 2 ∧ v 2 ≤ 9999 ∧ 0 ≤ v 3 ∧ 0 ≤ v 4 ∧ 0 ≤ v 5)
  ∧ (v 0 = 0 ↔ v 6 = 0) ∧ (0 < v 6 → v 4 < v 6) ∧ v 5 < 2 ^ (v 25).toNat
  ∧ (∀ c : Int, 0 ≤ c → c < v 6 → 1 ≤ v (7 + 3 * c) ∧ v (7 + 3 * c) ≤ 5 ∧ 0 ≤ v (8 + 3 * c) ∧ v (8 + 3 * c) ≤ 9 ∧ 0 ≤ v (9 + 3 * c) ∧ v (9 + 3 * c) ≤ 9)
  ∧ (∀ x : Int, 0 ≤ x → x < v 25 → 0 ≤ v (26 + 2 * x) ∧ v (26 + 2 * x) < v 6 ∧ 0 ≤ v (27 + 2 * x) ∧ v (27 + 2 * x) < v 6)
def mv_passed (v : Int → Int) (c m s : Int) : Int :=
  if v (7 + 3 * c) = 1 then (if m + v (8 + 3 * c) < 9 then m + v (8 + 3 * c) else 9)
  else if v (7 + 3 * c) = 2 then (if m ≤ 4 then (if m + v (8 + 3 * c) < 9 then m + v (8 + 3 * c) else 9) else (if m + 2 * v (8 + 3 * c) < 9 then m + 2 * v (8 + 3 * c) else 9))
  else if v (7 + 3 * c) = 3 then (if Int.tmod s 2 = 1 then (if m + v (8 + 3 * c) < 9 then m + v (8 + 3 * c) else 9) else m)
  else if v (7 + 3 * c) = 4 then (if 0 < m - v (8 + 3 * c) then m - v (8 + 3 * c) else 0)
  else (if 0 < m - v (8 + 3 * c) then (m - v (8 + 3 * c)) / 2 else 0)
def mv_cost (v : Int → Int) (c m s : Int) : Int :=
  (if m ≤ mv_passed v c m s then mv_passed v c m s - m else m - mv_passed v c m s) * v 0 + v (9 + 3 * c)
def mv_open (v : Int → Int) (x : Int) : Prop := am_and (am_shr (v 5) x) 1 = 1
def mv_goes (v : Int → Int) (x c : Int) : Prop := 0 ≤ x ∧ x < v 25 ∧ am_and (am_shr (v 5) x) 1 = 1 ∧ v (26 + 2 * x) = c
def mv_goesi (v : Int → Int) (x c : Int) : Int := if 0 ≤ x ∧ x < v 25 ∧ am_and (am_shr (v 5) x) 1 = 1 ∧ v (26 + 2 * x) = c then 1 else 0
theorem mv_half {a : Int} (h : 0 ≤ a) : Int.tdiv a 2 = a / 2 := Int.tdiv_eq_ediv_of_nonneg h
theorem mv_pass_in {v : Int → Int} {c m s : Int} (w : mv_WF v) (h0 : 0 ≤ c) (h1 : c < v 6) (m0 : 0 ≤ m) (m9 : m ≤ 9) : 0 ≤ mv_passed v c m s ∧ mv_passed v c m s ≤ 9 := by
  obtain ⟨_, _, _, _, w5, _⟩ := w
  have q := w5 c h0 h1
  unfold mv_passed
  repeat' split
  all_goals omega
theorem mv_cost_in {v : Int → Int} {c m s : Int} (w : mv_WF v) (h0 : 0 ≤ c) (h1 : c < v 6) (m0 : 0 ≤ m) (m9 : m ≤ 9) : 0 ≤ mv_cost v c m s ∧ mv_cost v c m s ≤ 90 := by
  have q := mv_pass_in (s := s) w h0 h1 m0 m9
  obtain ⟨⟨_, _, _, _, a0, a9, _⟩, _, _, _, w5, _⟩ := w
  have q5 := w5 c h0 h1
  unfold mv_cost
  have key : ∀ a b : Int, 0 ≤ a → a ≤ 9 → 0 ≤ b → b ≤ 9 → 0 ≤ a * b ∧ a * b ≤ 81 := by
    intro a b ha ha9 hb hb9
    refine ⟨Int.mul_nonneg ha hb, ?_⟩
    exact Int.le_trans (Int.mul_le_mul_of_nonneg_right ha9 hb) (by omega)
  split
  · have := key (mv_passed v c m s - m) (v 0) (by omega) (by omega) a0 a9
    omega
  · have := key (m - mv_passed v c m s) (v 0) (by omega) (by omega) a0 a9
    omega
theorem mv_behind {n t : Nat} {σ : am_Mem} {v : Int → Int} {c m s : Int} (r : mv_TR σ t v) (w : mv_WF v) (h0 : 0 ≤ c) (h1 : c < v 6) (m0 : 0 ≤ m) (m9 : m ≤ 9) : f_X5_moodBehind n t c m s σ = some (mv_passed v c m s, σ) := by
  obtain ⟨_, r2, _⟩ := r
  obtain ⟨⟨_, _, _⟩, _, _, _, w5, _⟩ := w
  have q := w5 c h0 h1
  have rr := r2 c h0 h1
  unfold f_X5_moodBehind mv_passed
  rw [if_pos ⟨h0, by omega⟩, rr.1, rr.2.1]
  simp (disch := omega) only [am_w_id]
  repeat' split
  all_goals first | rfl | omega | (simp (disch := omega) only [mv_half, am_w_id])
theorem mv_at {σ : am_Mem} {a : Nat} {v : Int → Int} (r : mv_V0 σ a v) {k k' : Int} (e : k = k') (h : 0 ≤ k ∧ k < 42) : σ a k = v k' := by
  rw [r k h.1 h.2, e]
theorem mv_has {n t : Nat} {σ : am_Mem} {v : Int → Int} {x : Int} (r : mv_TR σ t v) : f_X5_hasStreet n t x σ = some (if 0 ≤ x ∧ x < v 25 then 1 else 0, σ) := by
  obtain ⟨⟨_, r6, _⟩, _, _⟩ := r
  unfold f_X5_hasStreet
  rw [r6]
  repeat' split
  all_goals first | rfl | omega
theorem mv_hasC {n t : Nat} {σ : am_Mem} {v : Int → Int} {x : Int} (r : mv_TR σ t v) : f_X5_hasCorner n t x σ = some (if 0 ≤ x ∧ x < v 6 then 1 else 0, σ) := by
  obtain ⟨⟨r5, _⟩, _, _⟩ := r
  unfold f_X5_hasCorner
  rw [r5]
  repeat' split
  all_goals first | rfl | omega
theorem mv_stands {n t : Nat} {σ : am_Mem} {v : Int → Int} (r : mv_TR σ t v) : f_X5_stands n t σ = some (if 0 < v 6 then 1 else 0, σ) := by
  obtain ⟨⟨r5, _⟩, _, _⟩ := r
  unfold f_X5_stands
  rw [r5]
  repeat' split
  all_goals first | rfl | omega
theorem mv_isOpen {n t : Nat} {σ : am_Mem} {v : Int → Int} {x : Int} (r : mv_TR σ t v) : f_X5_isOpen n t x σ = some (if am_and (am_shr (v 5) x) 1 = 1 then 1 else 0, σ) := by
  obtain ⟨⟨_, _, _, r8, _⟩, _, _⟩ := r
  unfold f_X5_isOpen
  rw [r8]
  split <;> rfl
theorem mv_leadsFrom {n t : Nat} {σ : am_Mem} {v : Int → Int} {x c : Int} (r : mv_TR σ t v) (w : mv_WF v) : f_X5_leadsFrom n t c x σ = some (mv_goesi v x c, σ) := by
  unfold f_X5_leadsFrom mv_goesi
  rw [mv_has r, am_b2_some]
  by_cases hx : 0 ≤ x ∧ x < v 25
  · rw [if_pos hx, if_neg (by decide), mv_isOpen r, am_b2_some]
    by_cases ho : am_and (am_shr (v 5) x) 1 = 1
    · rw [if_pos ho, if_neg (by decide), if_pos ⟨hx.1, by have := w.1; omega⟩, (r.2.2 x hx.1 hx.2).1]
      by_cases hc : v (26 + 2 * x) = c
      · rw [if_pos hc, if_pos ⟨hx.1, hx.2, ho, hc⟩]
      · rw [if_neg hc, if_neg (fun q => hc q.2.2.2)]
    · rw [if_neg ho, if_pos rfl, if_neg (fun q => ho q.2.2.1)]
  · rw [if_neg hx, if_pos rfl, if_neg (fun q => hx ⟨q.1, q.2.1⟩)]
theorem mv_goesi01 (v : Int → Int) (x c : Int) : mv_goesi v x c = 0 ∨ mv_goesi v x c = 1 := by
  unfold mv_goesi
  split
  · exact Or.inr rfl
  · exact Or.inl rfl
theorem mv_goesi1 {v : Int → Int} {x c : Int} : mv_goesi v x c = 1 ↔ (0 ≤ x ∧ x < v 25 ∧ am_and (am_shr (v 5) x) 1 = 1 ∧ v (26 + 2 * x) = c) := by
  unfold mv_goesi
  split
  · rename_i h; exact ⟨fun _ => h, fun _ => rfl⟩
  · rename_i h; exact ⟨fun q => absurd q (by decide), fun q => absurd q h⟩
theorem mv_leads {n t : Nat} {σ : am_Mem} {v : Int → Int} {x : Int} (r : mv_TR σ t v) (w : mv_WF v) : f_X5_leads n t x σ = some (mv_goesi v x (v 4), σ) := by
  unfold f_X5_leads
  rw [mv_leadsFrom r w, am_b2_some, if_pos (mv_goesi01 _ _ _), r.1.2.2.2.2.1]
theorem mv_between {n t : Nat} {σ : am_Mem} {v : Int → Int} {c m s : Int} (r : mv_TR σ t v) (w : mv_WF v) (h0 : 0 ≤ c) (h1 : c < v 6) (m0 : 0 ≤ m) (m9 : m ≤ 9) : f_X5_costBetween n t c m (mv_passed v c m s) σ = some (mv_cost v c m s, σ) := by
  have q := mv_pass_in (s := s) w h0 h1 m0 m9
  have k := mv_cost_in (s := s) w h0 h1 m0 m9
  have rr := (r.2.1 c h0 h1).2.2
  have r7 := r.1.2.2.1
  have w0 := w.2.2.2.2.1 c h0 h1
  unfold mv_cost at k
  unfold f_X5_costBetween mv_cost
  rw [if_pos ⟨h0, by have := w.1; omega⟩, rr, r7]
  by_cases hm : m ≤ mv_passed v c m s
  · rw [if_pos hm] at k
    rw [if_pos hm]
    rw [am_w_id (z := mv_passed v c m s - m) (by omega), if_pos (by omega)]
    simp (disch := omega) only [am_w_id]
  · rw [if_neg hm] at k
    rw [if_neg hm]
    rw [am_w_id (z := mv_passed v c m s - m) (by omega), if_neg (by omega), am_w_id (z := 0 - (mv_passed v c m s - m)) (by omega)]
    have e : 0 - (mv_passed v c m s - m) = m - mv_passed v c m s := by omega
    rw [e]
    simp (disch := omega) only [am_w_id]
theorem mv_moodBy {n t : Nat} {σ : am_Mem} {v : Int → Int} {x : Int} (r : mv_TR σ t v) (w : mv_WF v) (h0 : 0 ≤ x) (h1 : x < v 25) : f_X5_moodBy n t x σ = some (mv_passed v (v (27 + 2 * x)) (v 1) (v 3), σ) := by
  have w1 := w.1
  have wx := w.2.2.2.2.2 x h0 h1
  unfold f_X5_moodBy
  rw [if_pos ⟨h0, by omega⟩, (r.2.2 x h0 h1).2, r.1.2.2.2.2.2.1, r.1.2.2.2.2.2.2.2, mv_behind r w wx.2.2.1 wx.2.2.2 (by omega) (by omega)]
  rfl
theorem mv_costBy {n t : Nat} {σ : am_Mem} {v : Int → Int} {x : Int} (r : mv_TR σ t v) (w : mv_WF v) (h0 : 0 ≤ x) (h1 : x < v 25) : f_X5_costBy n t x σ = some (mv_cost v (v (27 + 2 * x)) (v 1) (v 3), σ) := by
  have w1 := w.1
  have wx := w.2.2.2.2.2 x h0 h1
  unfold f_X5_costBy
  rw [if_pos ⟨h0, by omega⟩, mv_moodBy r w h0 h1, am_b2_some, (r.2.2 x h0 h1).2, r.1.2.2.2.2.2.1, mv_between r w wx.2.2.1 wx.2.2.2 (by omega) (by omega)]
  rfl
/-! the model's -/
theorem mv_in {n : Nat} {σ : am_Mem} {a b c : Int} : f_X7_in n a b c σ = some (if b ≤ a ∧ a ≤ c then 1 else 0, σ) := by
  unfold f_X7_in
  repeat' split
  all_goals first | rfl | omega
theorem mv_mhas {n : Nat} {σ : am_Mem} {a x : Int} : f_X7_has n a x σ = some (if am_and (am_shr a x) 1 = 1 then 1 else 0, σ) := by
  unfold f_X7_has
  split <;> rfl
theorem mv_mgoes {n p : Nat} {σ : am_Mem} {v : Int → Int} {x c : Int} (r : mv_V0 σ p v) (w : mv_WF v) : f_X7_goes n p 42 x c σ = some (mv_goesi v x c, σ) := by
  have w1 := w.1
  unfold f_X7_goes mv_goesi
  rw [if_pos ⟨by decide, by decide⟩, r 25 (by decide) (by decide), am_w_id (by omega), mv_in, am_b2_some]
  by_cases hx : 0 ≤ x ∧ x < v 25
  · rw [if_pos (show 0 ≤ x ∧ x ≤ v 25 - 1 by omega), if_neg (by decide), if_pos ⟨by decide, by decide⟩, mv_mhas, am_b2_some, r 5 (by decide) (by decide)]
    by_cases ho : am_and (am_shr (v 5) x) 1 = 1
    · rw [if_pos ho, if_neg (by decide), am_w_id (z := 2 * x) (by omega), am_w_id (by omega), if_pos (by omega), r _ (by omega) (by omega)]
      by_cases hc : v (26 + 2 * x) = c
      · rw [if_pos hc, if_pos ⟨hx.1, hx.2, ho, hc⟩]
      · rw [if_neg hc, if_neg (fun q => hc q.2.2.2)]
    · rw [if_neg ho, if_pos rfl, if_neg (fun q => ho q.2.2.1)]
  · rw [if_neg (show ¬ (0 ≤ x ∧ x ≤ v 25 - 1) by omega), if_pos rfl, if_neg (fun q => hx ⟨q.1, q.2.1⟩)]
theorem mv_mpassed {n p : Nat} {σ : am_Mem} {v : Int → Int} {c m s : Int} (r : mv_V0 σ p v) (w : mv_WF v) (h0 : 0 ≤ c) (h1 : c < v 6) (m0 : 0 ≤ m) (m9 : m ≤ 9) : f_X7_passed n p 42 c m s σ = some (mv_passed v c m s, σ) := by
  obtain ⟨⟨_, _, _⟩, _, _, _, w5, _⟩ := w
  have q := w5 c h0 h1
  have k1 : σ p (7 + 3 * c) = v (7 + 3 * c) := r _ (by omega) (by omega)
  have k2 : σ p (7 + 3 * c + 1) = v (8 + 3 * c) := mv_at r (by omega) (by omega)
  unfold f_X7_passed fb_X7_passed_126 mv_passed
  rw [am_w_id (z := 3 * c) (by omega), am_w_id (z := 7 + 3 * c) (by omega), am_w_id (z := 7 + 3 * c + 1) (by omega), if_pos (by omega), if_pos (by omega), k1, k2]
  have hk : v (7 + 3 * c) = 1 ∨ v (7 + 3 * c) = 2 ∨ v (7 + 3 * c) = 3 ∨ v (7 + 3 * c) = 4 ∨ v (7 + 3 * c) = 5 := by omega
  generalize v (7 + 3 * c) = kd at *
  generalize v (8 + 3 * c) = mu at *
  rcases hk with hk | hk | hk | hk | hk
  all_goals subst hk
  all_goals simp (disch := omega) only [am_w_id, Int.reduceEq, reduceIte]
  all_goals rw [if_pos (show (0 : Int) ≤ 7 + 3 * c ∧ 7 + 3 * c < ((42 : Nat) : Int) by omega)]
  all_goals repeat' split
  all_goals first | rfl | omega | (simp only [Option.some.injEq, Prod.mk.injEq, and_true]; omega) | (simp (disch := omega) only [mv_half, am_w_id, Option.some.injEq, Prod.mk.injEq, and_true]; done) | (simp (disch := omega) only [mv_half, am_w_id, Option.some.injEq, Prod.mk.injEq, and_true]; omega)
theorem mv_mcost {n p : Nat} {σ : am_Mem} {v : Int → Int} {c m s : Int} (r : mv_V0 σ p v) (w : mv_WF v) (h0 : 0 ≤ c) (h1 : c < v 6) (m0 : 0 ≤ m) (m9 : m ≤ 9) : f_X7_cost n p 42 c m s σ = some (mv_cost v c m s, σ) := by
  have q := mv_pass_in (s := s) w h0 h1 m0 m9
  have k := mv_cost_in (s := s) w h0 h1 m0 m9
  have w0 := w.2.2.2.2.1 c h0 h1
  have w1 := w.1
  have k1 : σ p 0 = v 0 := r _ (by omega) (by omega)
  have k2 : σ p (7 + 3 * c + 2) = v (9 + 3 * c) := mv_at r (by omega) (by omega)
  unfold mv_cost at k
  unfold f_X7_cost mv_cost
  rw [mv_mpassed r w h0 h1 m0 m9, am_b2_some, am_w_id (z := 3 * c) (by omega), am_w_id (z := 7 + 3 * c) (by omega), am_w_id (z := 7 + 3 * c + 2) (by omega), k1, k2]
  have g1 : (0 : Int) ≤ 0 ∧ 0 < ((42 : Nat) : Int) := by omega
  have g2 : (0 : Int) ≤ 7 + 3 * c + 2 ∧ 7 + 3 * c + 2 < ((42 : Nat) : Int) := by omega
  by_cases hm : mv_passed v c m s ≤ m
  · rw [if_pos hm, if_pos g1, if_pos g2]
    by_cases he : m ≤ mv_passed v c m s
    · rw [if_pos he] at k
      rw [if_pos he, am_w_id (z := m - mv_passed v c m s) (by omega)]
      have e2 : m - mv_passed v c m s = mv_passed v c m s - m := by omega
      rw [e2]
      simp (disch := omega) only [am_w_id]
    · rw [if_neg he] at k
      rw [if_neg he, am_w_id (z := m - mv_passed v c m s) (by omega)]
      simp (disch := omega) only [am_w_id]
  · rw [if_neg hm, if_pos g1, if_pos g2]
    rw [if_pos (by omega)] at k
    rw [if_pos (show m ≤ mv_passed v c m s by omega), am_w_id (z := mv_passed v c m s - m) (by omega)]
    simp (disch := omega) only [am_w_id]
