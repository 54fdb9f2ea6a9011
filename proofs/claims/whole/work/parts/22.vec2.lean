/-! towns change -/
def mv_set (v : Int → Int) (k z : Int) : Int → Int := fun j => if j = k then z else v j
theorem mv_set_ne {v : Int → Int} {k z j : Int} (h : j ≠ k) : mv_set v k z j = v j := if_neg h
theorem mv_set_eq {v : Int → Int} {k z : Int} : mv_set v k z k = z := if_pos rfl
theorem mv_up_eq {σ : am_Mem} {a : Nat} {j z : Int} : am_up σ a j z a j = z := if_pos ⟨rfl, rfl⟩
theorem mv_up_j {σ : am_Mem} {a : Nat} {j z k : Int} (h : k ≠ j) : am_up σ a j z a k = σ a k := if_neg (fun q => h q.2)
theorem mv_WF_scal {v v' : Int → Int} (w : mv_WF v) (e : ∀ k : Int, (5 ≤ k ∨ k = 0) → v' k = v k) (h1 : 0 ≤ v' 1 ∧ v' 1 ≤ 9) (h2 : 0 ≤ v' 2 ∧ v' 2 ≤ 9999) (h3 : 0 ≤ v' 3) (h4 : 0 ≤ v' 4 ∧ (0 < v 6 → v' 4 < v 6)) : mv_WF v' := by
  obtain ⟨w1, w2, w3, w4, w5, w6⟩ := w
  have e0 := e 0 (by omega)
  have e5 := e 5 (by omega)
  have e6 := e 6 (by omega)
  have e25 := e 25 (by omega)
  unfold mv_WF
  rw [e0, e5, e6, e25]
  refine ⟨by omega, w2, h4.2, w4, ?_, ?_⟩
  · intro c c0 c1
    rw [e (7 + 3 * c) (by omega), e (8 + 3 * c) (by omega), e (9 + 3 * c) (by omega)]
    exact w5 c c0 c1
  · intro x x0 x1
    rw [e (26 + 2 * x) (by omega), e (27 + 2 * x) (by omega)]
    exact w6 x x0 x1
theorem mv_passed_eq {v v' : Int → Int} {c m s : Int} (e1 : v' (7 + 3 * c) = v (7 + 3 * c)) (e2 : v' (8 + 3 * c) = v (8 + 3 * c)) : mv_passed v' c m s = mv_passed v c m s := by
  unfold mv_passed
  rw [e1, e2]
theorem mv_cost_eq {v v' : Int → Int} {c m s : Int} (e0 : v' 0 = v 0) (e1 : v' (7 + 3 * c) = v (7 + 3 * c)) (e2 : v' (8 + 3 * c) = v (8 + 3 * c)) (e3 : v' (9 + 3 * c) = v (9 + 3 * c)) : mv_cost v' c m s = mv_cost v c m s := by
  unfold mv_cost
  rw [mv_passed_eq e1 e2, e0, e3]
theorem mv_TR_fr {σ σ' : am_Mem} {t : Nat} {v : Int → Int} (r : mv_TR σ t v) (e0 : σ' t = σ t) (e1 : σ' (t + 1) = σ (t + 1)) (e2 : σ' (t + 2) = σ (t + 2)) (e3 : σ' (t + 3) = σ (t + 3)) (e4 : σ' (t + 4) = σ (t + 4)) (e5 : σ' (t + 5) = σ (t + 5)) : mv_TR σ' t v := by
  unfold mv_TR
  rw [e0, e1, e2, e3, e4, e5]
  exact r
theorem mv_TR_v {σ : am_Mem} {t : Nat} {v v' : Int → Int} (r : mv_TR σ t v) (w : mv_WF v) (e : ∀ k : Int, 0 ≤ k → k < 42 → v' k = v k) : mv_TR σ t v' := by
  have w1 := w.1
  unfold mv_TR
  rw [e 0 (by decide) (by decide), e 1 (by decide) (by decide), e 2 (by decide) (by decide), e 3 (by decide) (by decide), e 4 (by decide) (by decide), e 5 (by decide) (by decide), e 6 (by decide) (by decide), e 25 (by decide) (by decide)]
  refine ⟨r.1, ?_, ?_⟩
  · intro c c0 c1
    rw [e _ (by omega) (by omega), e _ (by omega) (by omega), e _ (by omega) (by omega)]
    exact r.2.1 c c0 c1
  · intro x x0 x1
    rw [e _ (by omega) (by omega), e _ (by omega) (by omega)]
    exact r.2.2 x x0 x1
theorem mv_WF_v {v v' : Int → Int} (w : mv_WF v) (e : ∀ k : Int, 0 ≤ k → k < 42 → v' k = v k) : mv_WF v' := by
  have w1 := w.1
  unfold mv_WF
  rw [e 0 (by decide) (by decide), e 1 (by decide) (by decide), e 2 (by decide) (by decide), e 3 (by decide) (by decide), e 4 (by decide) (by decide), e 5 (by decide) (by decide), e 6 (by decide) (by decide), e 25 (by decide) (by decide)]
  refine ⟨w.1, w.2.1, w.2.2.1, w.2.2.2.1, ?_, ?_⟩
  · intro c c0 c1
    rw [e _ (by omega) (by omega), e _ (by omega) (by omega), e _ (by omega) (by omega)]
    exact w.2.2.2.2.1 c c0 c1
  · intro x x0 x1
    rw [e _ (by omega) (by omega), e _ (by omega) (by omega)]
    exact w.2.2.2.2.2 x x0 x1
theorem mv_TR_up7 {σ : am_Mem} {t : Nat} {v : Int → Int} {z : Int} (r : mv_TR σ t v) : mv_TR (am_up σ t 7 z) t (mv_set v 0 z) := by
  refine ⟨⟨?_, ?_, ?_, ?_, ?_, ?_, ?_, ?_⟩, ?_, ?_⟩
  · rw [mv_up_j (by decide), mv_set_ne (by decide)]; exact r.1.1
  · rw [mv_up_j (by decide), mv_set_ne (by decide)]; exact r.1.2.1
  · rw [mv_up_eq, mv_set_eq]
  · rw [mv_up_j (by decide), mv_set_ne (by decide)]; exact r.1.2.2.2.1
  · rw [mv_up_j (by decide), mv_set_ne (by decide)]; exact r.1.2.2.2.2.1
  · rw [mv_up_j (by decide), mv_set_ne (by decide)]; exact r.1.2.2.2.2.2.1
  · rw [mv_up_j (by decide), mv_set_ne (by decide)]; exact r.1.2.2.2.2.2.2.1
  · rw [mv_up_j (by decide), mv_set_ne (by decide)]; exact r.1.2.2.2.2.2.2.2
  · intro c c0 c1
    have c1 : c < v 6 := c1
    rw [ah_up_ne _ _ _ (by omega), ah_up_ne _ _ _ (by omega), ah_up_ne _ _ _ (by omega), mv_set_ne (by omega), mv_set_ne (by omega), mv_set_ne (by omega)]
    exact r.2.1 c c0 c1
  · intro x x0 x1
    have x1 : x < v 25 := x1
    rw [ah_up_ne _ _ _ (by omega), ah_up_ne _ _ _ (by omega), mv_set_ne (by omega), mv_set_ne (by omega)]
    exact r.2.2 x x0 x1
theorem mv_TR_up8 {σ : am_Mem} {t : Nat} {v : Int → Int} {z : Int} (r : mv_TR σ t v) : mv_TR (am_up σ t 8 z) t (mv_set v 5 z) := by
  refine ⟨⟨?_, ?_, ?_, ?_, ?_, ?_, ?_, ?_⟩, ?_, ?_⟩
  · rw [mv_up_j (by decide), mv_set_ne (by decide)]; exact r.1.1
  · rw [mv_up_j (by decide), mv_set_ne (by decide)]; exact r.1.2.1
  · rw [mv_up_j (by decide), mv_set_ne (by decide)]; exact r.1.2.2.1
  · rw [mv_up_eq, mv_set_eq]
  · rw [mv_up_j (by decide), mv_set_ne (by decide)]; exact r.1.2.2.2.2.1
  · rw [mv_up_j (by decide), mv_set_ne (by decide)]; exact r.1.2.2.2.2.2.1
  · rw [mv_up_j (by decide), mv_set_ne (by decide)]; exact r.1.2.2.2.2.2.2.1
  · rw [mv_up_j (by decide), mv_set_ne (by decide)]; exact r.1.2.2.2.2.2.2.2
  · intro c c0 c1
    have c1 : c < v 6 := c1
    rw [ah_up_ne _ _ _ (by omega), ah_up_ne _ _ _ (by omega), ah_up_ne _ _ _ (by omega), mv_set_ne (by omega), mv_set_ne (by omega), mv_set_ne (by omega)]
    exact r.2.1 c c0 c1
  · intro x x0 x1
    have x1 : x < v 25 := x1
    rw [ah_up_ne _ _ _ (by omega), ah_up_ne _ _ _ (by omega), mv_set_ne (by omega), mv_set_ne (by omega)]
    exact r.2.2 x x0 x1
theorem mv_TR_up9 {σ : am_Mem} {t : Nat} {v : Int → Int} {z : Int} (r : mv_TR σ t v) : mv_TR (am_up σ t 9 z) t (mv_set v 4 z) := by
  refine ⟨⟨?_, ?_, ?_, ?_, ?_, ?_, ?_, ?_⟩, ?_, ?_⟩
  · rw [mv_up_j (by decide), mv_set_ne (by decide)]; exact r.1.1
  · rw [mv_up_j (by decide), mv_set_ne (by decide)]; exact r.1.2.1
  · rw [mv_up_j (by decide), mv_set_ne (by decide)]; exact r.1.2.2.1
  · rw [mv_up_j (by decide), mv_set_ne (by decide)]; exact r.1.2.2.2.1
  · rw [mv_up_eq, mv_set_eq]
  · rw [mv_up_j (by decide), mv_set_ne (by decide)]; exact r.1.2.2.2.2.2.1
  · rw [mv_up_j (by decide), mv_set_ne (by decide)]; exact r.1.2.2.2.2.2.2.1
  · rw [mv_up_j (by decide), mv_set_ne (by decide)]; exact r.1.2.2.2.2.2.2.2
  · intro c c0 c1
    have c1 : c < v 6 := c1
    rw [ah_up_ne _ _ _ (by omega), ah_up_ne _ _ _ (by omega), ah_up_ne _ _ _ (by omega), mv_set_ne (by omega), mv_set_ne (by omega), mv_set_ne (by omega)]
    exact r.2.1 c c0 c1
  · intro x x0 x1
    have x1 : x < v 25 := x1
    rw [ah_up_ne _ _ _ (by omega), ah_up_ne _ _ _ (by omega), mv_set_ne (by omega), mv_set_ne (by omega)]
    exact r.2.2 x x0 x1
theorem mv_TR_up10 {σ : am_Mem} {t : Nat} {v : Int → Int} {z : Int} (r : mv_TR σ t v) : mv_TR (am_up σ t 10 z) t (mv_set v 1 z) := by
  refine ⟨⟨?_, ?_, ?_, ?_, ?_, ?_, ?_, ?_⟩, ?_, ?_⟩
  · rw [mv_up_j (by decide), mv_set_ne (by decide)]; exact r.1.1
  · rw [mv_up_j (by decide), mv_set_ne (by decide)]; exact r.1.2.1
  · rw [mv_up_j (by decide), mv_set_ne (by decide)]; exact r.1.2.2.1
  · rw [mv_up_j (by decide), mv_set_ne (by decide)]; exact r.1.2.2.2.1
  · rw [mv_up_j (by decide), mv_set_ne (by decide)]; exact r.1.2.2.2.2.1
  · rw [mv_up_eq, mv_set_eq]
  · rw [mv_up_j (by decide), mv_set_ne (by decide)]; exact r.1.2.2.2.2.2.2.1
  · rw [mv_up_j (by decide), mv_set_ne (by decide)]; exact r.1.2.2.2.2.2.2.2
  · intro c c0 c1
    have c1 : c < v 6 := c1
    rw [ah_up_ne _ _ _ (by omega), ah_up_ne _ _ _ (by omega), ah_up_ne _ _ _ (by omega), mv_set_ne (by omega), mv_set_ne (by omega), mv_set_ne (by omega)]
    exact r.2.1 c c0 c1
  · intro x x0 x1
    have x1 : x < v 25 := x1
    rw [ah_up_ne _ _ _ (by omega), ah_up_ne _ _ _ (by omega), mv_set_ne (by omega), mv_set_ne (by omega)]
    exact r.2.2 x x0 x1
theorem mv_TR_up11 {σ : am_Mem} {t : Nat} {v : Int → Int} {z : Int} (r : mv_TR σ t v) : mv_TR (am_up σ t 11 z) t (mv_set v 2 z) := by
  refine ⟨⟨?_, ?_, ?_, ?_, ?_, ?_, ?_, ?_⟩, ?_, ?_⟩
  · rw [mv_up_j (by decide), mv_set_ne (by decide)]; exact r.1.1
  · rw [mv_up_j (by decide), mv_set_ne (by decide)]; exact r.1.2.1
  · rw [mv_up_j (by decide), mv_set_ne (by decide)]; exact r.1.2.2.1
  · rw [mv_up_j (by decide), mv_set_ne (by decide)]; exact r.1.2.2.2.1
  · rw [mv_up_j (by decide), mv_set_ne (by decide)]; exact r.1.2.2.2.2.1
  · rw [mv_up_j (by decide), mv_set_ne (by decide)]; exact r.1.2.2.2.2.2.1
  · rw [mv_up_eq, mv_set_eq]
  · rw [mv_up_j (by decide), mv_set_ne (by decide)]; exact r.1.2.2.2.2.2.2.2
  · intro c c0 c1
    have c1 : c < v 6 := c1
    rw [ah_up_ne _ _ _ (by omega), ah_up_ne _ _ _ (by omega), ah_up_ne _ _ _ (by omega), mv_set_ne (by omega), mv_set_ne (by omega), mv_set_ne (by omega)]
    exact r.2.1 c c0 c1
  · intro x x0 x1
    have x1 : x < v 25 := x1
    rw [ah_up_ne _ _ _ (by omega), ah_up_ne _ _ _ (by omega), mv_set_ne (by omega), mv_set_ne (by omega)]
    exact r.2.2 x x0 x1
theorem mv_TR_up12 {σ : am_Mem} {t : Nat} {v : Int → Int} {z : Int} (r : mv_TR σ t v) : mv_TR (am_up σ t 12 z) t (mv_set v 3 z) := by
  refine ⟨⟨?_, ?_, ?_, ?_, ?_, ?_, ?_, ?_⟩, ?_, ?_⟩
  · rw [mv_up_j (by decide), mv_set_ne (by decide)]; exact r.1.1
  · rw [mv_up_j (by decide), mv_set_ne (by decide)]; exact r.1.2.1
  · rw [mv_up_j (by decide), mv_set_ne (by decide)]; exact r.1.2.2.1
  · rw [mv_up_j (by decide), mv_set_ne (by decide)]; exact r.1.2.2.2.1
  · rw [mv_up_j (by decide), mv_set_ne (by decide)]; exact r.1.2.2.2.2.1
  · rw [mv_up_j (by decide), mv_set_ne (by decide)]; exact r.1.2.2.2.2.2.1
  · rw [mv_up_j (by decide), mv_set_ne (by decide)]; exact r.1.2.2.2.2.2.2.1
  · rw [mv_up_eq, mv_set_eq]
  · intro c c0 c1
    have c1 : c < v 6 := c1
    rw [ah_up_ne _ _ _ (by omega), ah_up_ne _ _ _ (by omega), ah_up_ne _ _ _ (by omega), mv_set_ne (by omega), mv_set_ne (by omega), mv_set_ne (by omega)]
    exact r.2.1 c c0 c1
  · intro x x0 x1
    have x1 : x < v 25 := x1
    rw [ah_up_ne _ _ _ (by omega), ah_up_ne _ _ _ (by omega), mv_set_ne (by omega), mv_set_ne (by omega)]
    exact r.2.2 x x0 x1
def mv_rides (v : Int → Int) (x : Int) : Int → Int :=
  mv_set (mv_set (mv_set (mv_set v 2 (if v 2 + mv_cost v (v (27 + 2 * x)) (v 1) (v 3) < 9999 then v 2 + mv_cost v (v (27 + 2 * x)) (v 1) (v 3) else 9999)) 1 (mv_passed v (v (27 + 2 * x)) (v 1) (v 3))) 4 (v (27 + 2 * x))) 3 (v 3 + 1)
theorem mv_rides_WF {v : Int → Int} {x : Int} (w : mv_WF v) (h0 : 0 ≤ x) (h1 : x < v 25) : mv_WF (mv_rides v x) := by
  have w1 := w.1
  have wx := w.2.2.2.2.2 x h0 h1
  have kc := mv_cost_in (s := v 3) w wx.2.2.1 wx.2.2.2 (m := v 1) (by omega) (by omega)
  have kp := mv_pass_in (s := v 3) w wx.2.2.1 wx.2.2.2 (m := v 1) (by omega) (by omega)
  unfold mv_rides
  refine mv_WF_scal w ?_ ?_ ?_ ?_ ?_
  · intro k hk
    rw [mv_set_ne (by omega), mv_set_ne (by omega), mv_set_ne (by omega), mv_set_ne (by omega)]
  · rw [mv_set_ne (by decide), mv_set_ne (by decide), mv_set_eq]
    exact kp
  · rw [mv_set_ne (by decide), mv_set_ne (by decide), mv_set_ne (by decide), mv_set_eq]
    split <;> omega
  · rw [mv_set_eq]
    omega
  · rw [mv_set_ne (by decide), mv_set_eq]
    exact ⟨wx.2.2.1, fun _ => wx.2.2.2⟩
theorem mv_goBy {n t : Nat} {σ : am_Mem} {v : Int → Int} {x : Int} (r : mv_TR σ t v) (w : mv_WF v) (h0 : 0 ≤ x) (h1 : x < v 25) (hs : v 3 ≤ 100000) : ∃ σ', f_X5_goBy n t x σ = some σ' ∧ mv_TR σ' t (mv_rides v x) := by
  have w1 := w.1
  have wx := w.2.2.2.2.2 x h0 h1
  have kc := mv_cost_in (s := v 3) w wx.2.2.1 wx.2.2.2 (m := v 1) (by omega) (by omega)
  unfold f_X5_goBy mv_rides
  rw [mv_costBy r w h0 h1, am_b2_some, am_b1_some, r.1.2.2.2.2.2.2.1, am_w_id (z := v 2 + mv_cost v (v (27 + 2 * x)) (v 1) (v 3)) (by omega)]
  have hz : 0 ≤ (if v 2 + mv_cost v (v (27 + 2 * x)) (v 1) (v 3) < 9999 then v 2 + mv_cost v (v (27 + 2 * x)) (v 1) (v 3) else 9999) ∧ (if v 2 + mv_cost v (v (27 + 2 * x)) (v 1) (v 3) < 9999 then v 2 + mv_cost v (v (27 + 2 * x)) (v 1) (v 3) else 9999) ≤ 9999 := by
    split <;> omega
  generalize (if v 2 + mv_cost v (v (27 + 2 * x)) (v 1) (v 3) < 9999 then v 2 + mv_cost v (v (27 + 2 * x)) (v 1) (v 3) else 9999) = z at hz
  have r4 : mv_TR (am_up σ t 11 z) t (mv_set v 2 z) := mv_TR_up11 r
  have w4 : mv_WF (mv_set v 2 z) := mv_WF_scal w (fun k hk => mv_set_ne (by omega)) (by rw [mv_set_ne (by decide)]; omega) (by rw [mv_set_eq]; exact hz) (by rw [mv_set_ne (by decide)]; omega) (by rw [mv_set_ne (by decide)]; exact ⟨by omega, w.2.2.1⟩)
  have em := mv_moodBy (n := n) r4 w4 h0 (show x < mv_set v 2 z 25 from h1)
  rw [mv_set_ne (k := 2) (j := 27 + 2 * x) (by omega), mv_set_ne (k := 2) (j := 1) (by decide), mv_set_ne (k := 2) (j := 3) (by decide), mv_passed_eq (v := v) (mv_set_ne (by omega)) (mv_set_ne (by omega))] at em
  rw [em, am_b2_some, am_b1_some, if_pos ⟨h0, by omega⟩, am_b1_some, am_b1_some]
  have r9 := mv_TR_up10 (z := mv_passed v (v (27 + 2 * x)) (v 1) (v 3)) r4
  have q5 := (r9.2.2 x h0 (show x < v 25 from h1)).2
  rw [mv_set_ne (k := 1) (j := 27 + 2 * x) (by omega), mv_set_ne (k := 2) (j := 27 + 2 * x) (by omega)] at q5
  rw [q5]
  have r12 := mv_TR_up9 (z := v (27 + 2 * x)) r9
  have q12 := r12.1.2.2.2.2.2.2.2
  rw [mv_set_ne (k := 4) (j := 3) (by decide), mv_set_ne (k := 1) (j := 3) (by decide), mv_set_ne (k := 2) (j := 3) (by decide)] at q12
  rw [q12, am_w_id (by omega)]
  exact ⟨_, rfl, mv_TR_up12 r12⟩
theorem mv_V0_up {σ : am_Mem} {p : Nat} {v : Int → Int} {k z : Int} (r : mv_V0 σ p v) : mv_V0 (am_up σ p k z) p (mv_set v k z) := by
  intro j j0 j1
  by_cases h : j = k
  · subst h
    rw [mv_up_eq, mv_set_eq]
  · rw [mv_up_j h, mv_set_ne h]
    exact r j j0 j1
theorem mv_mrides {n p : Nat} {σ : am_Mem} {v : Int → Int} {x : Int} (r : mv_V0 σ p v) (w : mv_WF v) (h0 : 0 ≤ x) (h1 : x < v 25) (hs : v 3 ≤ 100000) : ∃ σ', f_X7_rides n p 42 x σ = some σ' ∧ mv_V0 σ' p (mv_rides v x) := by
  have w1 := w.1
  have wx := w.2.2.2.2.2 x h0 h1
  have kc := mv_cost_in (s := v 3) w wx.2.2.1 wx.2.2.2 (m := v 1) (by omega) (by omega)
  have k27 : σ p (26 + 2 * x + 1) = v (27 + 2 * x) := mv_at r (by omega) (by omega)
  have k1 : σ p 1 = v 1 := mv_at r rfl (by omega)
  have k2 : σ p 2 = v 2 := mv_at r rfl (by omega)
  have k3 : σ p 3 = v 3 := mv_at r rfl (by omega)
  have G : ∀ z : Int, 0 ≤ z → z ≤ 9999 → ∃ σ', fb_X7_rides_43 n p 42 (v (27 + 2 * x)) z 2 σ = some σ' ∧ mv_V0 σ' p (mv_set (mv_set (mv_set (mv_set v 2 z) 1 (mv_passed v (v (27 + 2 * x)) (v 1) (v 3))) 4 (v (27 + 2 * x))) 3 (v 3 + 1)) := by
    intro z z0 z1
    have r4 : mv_V0 (am_up σ p 2 z) p (mv_set v 2 z) := mv_V0_up r
    have w4 : mv_WF (mv_set v 2 z) := mv_WF_scal w (fun k hk => mv_set_ne (by omega)) (by rw [mv_set_ne (by decide)]; omega) (by rw [mv_set_eq]; exact ⟨z0, z1⟩) (by rw [mv_set_ne (by decide)]; omega) (by rw [mv_set_ne (by decide)]; exact ⟨by omega, w.2.2.1⟩)
    have em := mv_mpassed (n := n) (s := v 3) r4 w4 wx.2.2.1 (show v (27 + 2 * x) < mv_set v 2 z 6 from wx.2.2.2) (m := v 1) (by omega) (by omega)
    rw [mv_passed_eq (v := v) (mv_set_ne (by omega)) (mv_set_ne (by omega))] at em
    unfold fb_X7_rides_43
    rw [if_pos ⟨by decide, by decide⟩, am_b1_some, if_pos ⟨by decide, by decide⟩, if_pos ⟨by decide, by decide⟩, mv_up_j (by decide), mv_up_j (by decide), k1, k3, em, am_b2_some, am_b1_some, if_pos ⟨by decide, by decide⟩, am_b1_some, am_b1_some]
    rw [mv_up_j (j := 4) (by decide), mv_up_j (j := 1) (by decide), mv_up_j (j := 2) (by decide), k3, am_w_id (by omega)]
    exact ⟨_, rfl, mv_V0_up (mv_V0_up (mv_V0_up r4))⟩
  unfold f_X7_rides mv_rides
  rw [am_w_id (z := 2 * x) (by omega), am_w_id (z := 26 + 2 * x) (by omega), am_w_id (z := 26 + 2 * x + 1) (by omega), if_pos (by omega), if_pos ⟨by decide, by decide⟩, if_pos ⟨by decide, by decide⟩, if_pos ⟨by decide, by decide⟩, k27, k1, k2, k3, mv_mcost r w wx.2.2.1 wx.2.2.2 (by omega) (by omega), am_b2_some, am_w_id (by omega)]
  by_cases hc : v 2 + mv_cost v (v (27 + 2 * x)) (v 1) (v 3) ≤ 9999
  · rw [if_pos hc]
    by_cases hd : v 2 + mv_cost v (v (27 + 2 * x)) (v 1) (v 3) < 9999
    · rw [if_pos hd]
      exact G _ (by omega) (by omega)
    · rw [if_neg hd]
      have e : v 2 + mv_cost v (v (27 + 2 * x)) (v 1) (v 3) = 9999 := by omega
      rw [e]
      exact G _ (by omega) (by omega)
  · rw [if_neg hc, if_neg (by omega)]
    exact G _ (by omega) (by omega)
theorem mv_cpy_at {σ : am_Mem} {a b : Nat} {i j m k : Int} (h : j ≤ k ∧ k < j + m) : am_cpy σ a i b j m b k = σ a (i + (k - j)) := if_pos ⟨rfl, h⟩
theorem mv_become {n t u : Nat} {σ : am_Mem} {v : Int → Int} (hu : u + 6 ≤ t ∨ t + 6 ≤ u) (r : mv_TR σ u v) (w : mv_WF v) : ∃ σ', f_X5_become n t u σ = some σ' ∧ mv_TR σ' t v := by
  have w1 := w.1
  unfold f_X5_become
  simp only [am_b1_some]
  refine ⟨_, rfl, ?_⟩
  refine ⟨⟨?_, ?_, ?_, ?_, ?_, ?_, ?_, ?_⟩, ?_, ?_⟩
  · simp (disch := omega) only [mv_up_eq, mv_up_j, ah_up_ne, ah_cpy_ne]; exact r.1.1
  · simp (disch := omega) only [mv_up_eq, mv_up_j, ah_up_ne, ah_cpy_ne]; exact r.1.2.1
  · simp (disch := omega) only [mv_up_eq, mv_up_j, ah_up_ne, ah_cpy_ne]; exact r.1.2.2.1
  · simp (disch := omega) only [mv_up_eq, mv_up_j, ah_up_ne, ah_cpy_ne]; exact r.1.2.2.2.1
  · simp (disch := omega) only [mv_up_eq, mv_up_j, ah_up_ne, ah_cpy_ne]; exact r.1.2.2.2.2.1
  · simp (disch := omega) only [mv_up_eq, mv_up_j, ah_up_ne, ah_cpy_ne]; exact r.1.2.2.2.2.2.1
  · simp (disch := omega) only [mv_up_eq, mv_up_j, ah_up_ne, ah_cpy_ne]; exact r.1.2.2.2.2.2.2.1
  · simp (disch := omega) only [mv_up_eq, mv_up_j, ah_up_ne, ah_cpy_ne]; exact r.1.2.2.2.2.2.2.2
  · intro c c0 c1
    have q := r.2.1 c c0 c1
    refine ⟨?_, ?_, ?_⟩
    · simp (disch := omega) only [ah_up_ne, ah_cpy_ne, mv_cpy_at]; rw [show (0 : Int) + (c - 0) = c by omega]; exact q.1
    · simp (disch := omega) only [ah_up_ne, ah_cpy_ne, mv_cpy_at]; rw [show (0 : Int) + (c - 0) = c by omega]; exact q.2.1
    · simp (disch := omega) only [ah_up_ne, ah_cpy_ne, mv_cpy_at]; rw [show (0 : Int) + (c - 0) = c by omega]; exact q.2.2
  · intro x x0 x1
    have q := r.2.2 x x0 x1
    refine ⟨?_, ?_⟩
    · simp (disch := omega) only [ah_up_ne, ah_cpy_ne, mv_cpy_at]; rw [show (0 : Int) + (x - 0) = x by omega]; exact q.1
    · simp (disch := omega) only [ah_up_ne, ah_cpy_ne, mv_cpy_at]; rw [show (0 : Int) + (x - 0) = x by omega]; exact q.2

theorem mv_copies_go {n p q : Nat} {pn qn : Nat} {σ0 : am_Mem} (hpq : p ≠ q ∨ p = q) : ∀ (m : Nat) (σ : am_Mem) (a b k : Int), p ≠ q → 0 ≤ a → a + 42 ≤ pn → 0 ≤ b → b + 42 ≤ qn → (qn : Int) ≤ 100000 → (pn : Int) ≤ 100000 → 0 ≤ k → k ≤ 42 → 42 - k < m → (∀ j : Int, 0 ≤ j → j < k → σ q (b + j) = σ0 p (a + j)) → (∀ j : Int, (j < b ∨ b + 42 ≤ j) → σ q j = σ0 q j) → σ p = σ0 p →
    ∃ σ', fl_X7_copies_3 n p pn q qn m a b k σ = some σ' ∧ (∀ j : Int, 0 ≤ j → j < 42 → σ' q (b + j) = σ0 p (a + j)) ∧ (∀ j : Int, (j < b ∨ b + 42 ≤ j) → σ' q j = σ0 q j) := by
  intro m
  induction m with
  | zero => intro σ a b k _ _ _ _ _ _ _ h0 h1 hm; omega
  | succ m ih =>
    intro σ a b k hne a0 a1 b0 b1 hq hp h0 h1 hm h2 h3 h4
    unfold fl_X7_copies_3 fb_X7_copies_3
    by_cases hk : k < 42
    · rw [if_pos hk, am_w_id (z := a + k) (by omega), am_w_id (z := b + k) (by omega), if_pos (by omega), if_pos (by omega), am_b1_some, am_w_id (z := k + 1) (by omega)]
      refine ih _ a b (k + 1) hne a0 a1 b0 b1 hq hp (by omega) (by omega) (by omega) ?_ ?_ ?_
      · intro j j0 j1
        by_cases hj : j = k
        · subst hj
          rw [mv_up_eq, h4]
        · rw [mv_up_j (by omega)]
          exact h2 j j0 (by omega)
      · intro j hj
        rw [mv_up_j (by omega)]
        exact h3 j hj
      · rw [ah_up_ne _ _ _ hne]
        exact h4
    · rw [if_neg hk]
      exact ⟨σ, rfl, fun j j0 j1 => h2 j j0 (by omega), h3⟩
theorem mv_copies {n p q pn qn : Nat} {σ : am_Mem} {a b : Int} (hn : 50 ≤ n) (hne : p ≠ q) (a0 : 0 ≤ a) (a1 : a + 42 ≤ pn) (b0 : 0 ≤ b) (b1 : b + 42 ≤ qn) (hq : (qn : Int) ≤ 100000) (hp : (pn : Int) ≤ 100000) :
    ∃ σ', f_X7_copies n p pn q qn a b σ = some σ' ∧ (∀ j : Int, 0 ≤ j → j < 42 → σ' q (b + j) = σ p (a + j)) ∧ (∀ j : Int, (j < b ∨ b + 42 ≤ j) → σ' q j = σ q j) :=
  mv_copies_go (Or.inl hne) n σ a b 0 hne a0 a1 b0 b1 hq hp (by omega) (by omega) (by omega) (fun j j0 j1 => by omega) (fun _ _ => rfl) rfl
