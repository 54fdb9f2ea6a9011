/-! rides told in rows -/
def mf_so (paid str : Int → Int) : Nat → Int → (Int → Int) → Int
  | 0, _, _ => 1
  | m + 1, k, v => if mv_goesi v (str k) (v 4) = 1 then (if mv_cost v (v (27 + 2 * str k)) (v 1) (v 3) = paid k then mf_so paid str m (k + 1) (mv_rides v (str k)) else 0) else 0
theorem mf_so01 (paid str : Int → Int) : ∀ (m : Nat) (k : Int) (v : Int → Int), mf_so paid str m k v = 0 ∨ mf_so paid str m k v = 1 := by
  intro m
  induction m with
  | zero => intro k v; exact Or.inr rfl
  | succ m ih =>
    intro k v
    unfold mf_so
    split
    · split
      · exact ih _ _
      · exact Or.inl rfl
    · exact Or.inl rfl
theorem mf_rides3 (v : Int → Int) (x : Int) : mv_rides v x 3 = v 3 + 1 := by
  unfold mv_rides
  rw [mv_set_eq]
theorem mf_isSo {n : Nat} {a i b j N : Int} {paid str : Int → Int} (ha : 0 ≤ a ∧ a < 8) (hb : 0 ≤ b ∧ b < 8) (hi : 0 ≤ i) (hj : 0 ≤ j) (hN : N ≤ 8) (hiN : i + N ≤ 40) (hjN : j + N ≤ 40) : ∀ (m fu : Nat) (k : Int) (σ : am_Mem) (v : Int → Int), 0 ≤ k → k + m = N → m < fu → mv_TR σ 24 v → mv_WF v → v 3 + m ≤ 3000 → (∀ t : Int, 0 ≤ t → t < N → σ (8 + b.toNat) (j + t) = str t) → (∀ t : Int, 0 ≤ t → t < N → σ (8 + a.toNat) (i + t) = paid t) → ∃ σ', fl_X6_isSo_3 n fu a i b j N k σ = some (mf_so paid str m k v, σ') := by
  intro m
  induction m with
  | zero =>
    intro fu k σ v k0 hk hf r w h3 hs hp
    obtain ⟨fu, rfl⟩ : ∃ q, fu = q + 1 := ⟨fu - 1, by omega⟩
    refine ⟨σ, ?_⟩
    show fb_X6_isSo_3 n _ a i b j N k σ = _
    unfold fb_X6_isSo_3
    rw [if_neg (show ¬ k < N by omega)]
    rfl
  | succ m ih =>
    intro fu k σ v k0 hk hf r w h3 hs hp
    obtain ⟨fu, rfl⟩ : ∃ q, fu = q + 1 := ⟨fu - 1, by omega⟩
    show ∃ σ', fb_X6_isSo_3 n (fun y1 y2 y3 y4 y5 y6 σ => fl_X6_isSo_3 n fu y1 y2 y3 y4 y5 y6 σ) a i b j N k σ = some (mf_so paid str (m + 1) k v, σ')
    unfold fb_X6_isSo_3 mf_so
    rw [if_pos (show k < N by omega), if_pos hb, am_w_id (z := j + k) (by omega), if_pos (show (0 : Int) ≤ j + k ∧ j + k < 40 by omega), hs k k0 (by omega), mv_leads r w, am_b2_some]
    rcases mv_goesi01 v (str k) (v 4) with hg | hg
    · rw [hg, if_pos rfl, if_neg (by decide)]
      exact ⟨_, rfl⟩
    · have g := mv_goesi1.1 hg
      rw [hg, if_neg (by decide), if_pos rfl, mv_costBy r w g.1 g.2.1, am_b2_some, if_pos ha, am_w_id (z := i + k) (by omega), if_pos (show (0 : Int) ≤ i + k ∧ i + k < 40 by omega), hp k k0 (by omega)]
      by_cases hc : mv_cost v (v (27 + 2 * str k)) (v 1) (v 3) = paid k
      · rw [if_pos hc, if_pos hc]
        obtain ⟨τ, e, r'⟩ := mv_goBy (n := n) r w g.1 g.2.1 (by omega)
        have F := w_X5_goBy e
        have F' : ∀ c : Nat, c ≠ 24 → τ c = σ c := fun c hc => F c (by unfold nw_X5_goBy; omega)
        rw [e, am_b1_some, am_w_id (z := k + 1) (by omega)]
        refine ih fu (k + 1) τ (mv_rides v (str k)) (by omega) (by omega) (by omega) r' (mv_rides_WF w g.1 g.2.1) (by rw [mf_rides3]; omega) ?_ ?_
        · rw [F' _ (by omega)]; exact hs
        · rw [F' _ (by omega)]; exact hp
      · rw [if_neg hc, if_neg hc]
        exact ⟨_, rfl⟩
theorem mf_gs0 {n fu : Nat} {x1 x2 N k : Int} {σ : am_Mem} : fl_X7_goesSo_6 n (fu + 1) x1 x2 N 0 k σ = some (0, σ) := by
  show fb_X7_goesSo_6 n _ x1 x2 N 0 k σ = _
  unfold fb_X7_goesSo_6
  split
  · rfl
  · rfl
theorem mf_goesSo {n : Nat} {pa fr N : Int} {paid str : Int → Int} (hp0 : 0 ≤ pa) (hf0 : 0 ≤ fr) (hN : N ≤ 8) (hpN : pa + N ≤ 320) (hfN : fr + N ≤ 320) : ∀ (m fu : Nat) (k : Int) (σ : am_Mem) (v : Int → Int), 0 ≤ k → k + m = N → m < fu → mv_V0 σ 83 v → mv_WF v → v 3 + m ≤ 3000 → (∀ t : Int, 0 ≤ t → t < N → σ 78 (fr + t) = str t) → (∀ t : Int, 0 ≤ t → t < N → σ 78 (pa + t) = paid t) → ∃ σ', fl_X7_goesSo_6 n fu pa fr N 1 k σ = some (mf_so paid str m k v, σ') := by
  intro m
  induction m with
  | zero =>
    intro fu k σ v k0 hk hf r w h3 hs hp
    obtain ⟨fu, rfl⟩ : ∃ q, fu = q + 1 := ⟨fu - 1, by omega⟩
    refine ⟨σ, ?_⟩
    show fb_X7_goesSo_6 n _ pa fr N 1 k σ = _
    unfold fb_X7_goesSo_6
    rw [if_neg (show ¬ k < N by omega), if_pos (Or.inr rfl)]
    rfl
  | succ m ih =>
    intro fu k σ v k0 hk hf r w h3 hs hp
    have w1 := w.1
    obtain ⟨fu, rfl⟩ : ∃ q, fu = q + 1 + 1 := ⟨fu - 2, by omega⟩
    show ∃ σ', fb_X7_goesSo_6 n (fun y1 y2 y3 y4 y5 σ => fl_X7_goesSo_6 n (fu + 1) y1 y2 y3 y4 y5 σ) pa fr N 1 k σ = some (mf_so paid str (m + 1) k v, σ')
    unfold fb_X7_goesSo_6 mf_so
    rw [if_pos (show k < N by omega), if_neg (by decide), am_w_id (z := fr + k) (by omega), if_pos (show (0 : Int) ≤ fr + k ∧ fr + k < 320 by omega), hs k k0 (by omega), r 4 (by decide) (by decide), mv_mgoes r w, am_b2_some]
    rcases mv_goesi01 v (str k) (v 4) with hg | hg
    · rw [hg, if_pos rfl, if_neg (by decide)]
      exact ⟨_, mf_gs0⟩
    · have g := mv_goesi1.1 hg
      have wx := w.2.2.2.2.2 (str k) g.1 g.2.1
      rw [hg, if_neg (by decide), if_pos rfl, am_w_id (z := 2 * str k) (by omega), am_w_id (z := 26 + 2 * str k) (by omega), am_w_id (z := 26 + 2 * str k + 1) (by omega), if_pos (show (0 : Int) ≤ 26 + 2 * str k + 1 ∧ 26 + 2 * str k + 1 < 42 by omega), mv_at r (k' := 27 + 2 * str k) (show 26 + 2 * str k + 1 = 27 + 2 * str k by omega) (by omega), r 1 (by decide) (by decide), r 3 (by decide) (by decide), mv_mcost r w wx.2.2.1 wx.2.2.2 (by omega) (by omega), am_b2_some, am_w_id (z := pa + k) (by omega), if_pos (show (0 : Int) ≤ pa + k ∧ pa + k < 320 by omega), hp k k0 (by omega)]
      by_cases hc : mv_cost v (v (27 + 2 * str k)) (v 1) (v 3) = paid k
      · rw [if_pos hc, if_pos hc]
        obtain ⟨τ, e, r'⟩ := mv_mrides (n := n) r w g.1 g.2.1 (by omega)
        have F := w_X7_rides e
        have F' : ∀ c : Nat, c ≠ 83 → τ c = σ c := fun c hc => F c (by unfold nw_X7_rides; omega)
        rw [e, am_b1_some, am_w_id (z := k + 1) (by omega)]
        refine ih (fu + 1) (k + 1) τ (mv_rides v (str k)) (by omega) (by omega) (by omega) r' (mv_rides_WF w g.1 g.2.1) (by rw [mf_rides3]; omega) ?_ ?_
        · rw [F' 78 (by decide)]; exact hs
        · rw [F' 78 (by decide)]; exact hp
      · rw [if_neg hc, if_neg hc]
        exact ⟨_, mf_gs0⟩
