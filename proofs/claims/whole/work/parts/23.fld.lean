theorem ab_fuj {σ σ' : am_Mem} {a : Nat} {j z k : Int} (h : some (am_up σ a j z) = some σ') (hb : k ≠ j) : σ' a k = σ a k := by
  cases h
  exact if_neg (fun q => hb q.2)
def nf3_X6_found (k : Int) : Prop := k ≠ 8
theorem v3_X6_found {n : Nat} {p1 : Int} {σ σr : am_Mem} {rr : Int} (h : f_X6_found n p1 σ = some (rr, σr)) : ∀ k : Int, nf3_X6_found k → σr 3 k = σ 3 k := by
  unfold f_X6_found at h
  have fr : ∀ k : Int, nf3_X6_found k → σ 3 k = σ 3 k := fun _ _ => rfl
  obtain ⟨σ1, e2, h⟩ := ab_1 h
  have fr := fun (k : Int) (hk : nf3_X6_found k) => (ab_fuj e2 (show k ≠ 8 by unfold nf3_X6_found at hk; omega)).trans (fr k hk)
  obtain ⟨q1, q2⟩ := ab_r2 h
  exact fun k hk => (congrFun (congrFun q2.symm 3) k).trans (fr k hk)
def nf3_X6_unfound (k : Int) : Prop := k ≠ 8
theorem v3_X6_unfound {n : Nat} {p1 : Int} {σ σr : am_Mem} {rr : Int} (h : f_X6_unfound n p1 σ = some (rr, σr)) : ∀ k : Int, nf3_X6_unfound k → σr 3 k = σ 3 k := by
  unfold f_X6_unfound at h
  have fr : ∀ k : Int, nf3_X6_unfound k → σ 3 k = σ 3 k := fun _ _ => rfl
  obtain ⟨σ1, e2, h⟩ := ab_1 h
  have fr := fun (k : Int) (hk : nf3_X6_unfound k) => (ab_fuj e2 (show k ≠ 8 by unfold nf3_X6_unfound at hk; omega)).trans (fr k hk)
  obtain ⟨q1, q2⟩ := ab_r2 h
  exact fun k hk => (congrFun (congrFun q2.symm 3) k).trans (fr k hk)
def nf3_X6_row (k : Int) : Prop := k ≠ 8
theorem v3_X6_row {n : Nat} {p1 : Int} {p2 : Int} {p3 : Int} {σ σr : am_Mem} {rr : Int} (h : f_X6_row n p1 p2 p3 σ = some (rr, σr)) : ∀ k : Int, nf3_X6_row k → σr 3 k = σ 3 k := by
  unfold f_X6_row at h
  have fr : ∀ k : Int, nf3_X6_row k → σ 3 k = σ 3 k := fun _ _ => rfl
  obtain ⟨r2, σ3, e1, h⟩ := ab_2 h
  have fr := fun (k : Int) (hk : nf3_X6_row k) => (congrFun (congrFun (u_X2_isRow e1) 3) k).trans (fr k hk)
  rcases ab_i h with ⟨c4, h⟩ | ⟨c4, h⟩
  · obtain ⟨q1, q2⟩ := ab_r2 h
    exact fun k hk => (congrFun (congrFun q2.symm 3) k).trans (fr k hk)
  · rcases ab_i h with ⟨c5, h⟩ | ⟨c5, h⟩
    · obtain ⟨q1, q2⟩ := ab_r2 h
      exact fun k hk => (congrFun (congrFun q2.symm 3) k).trans (fr k hk)
    · rcases ab_i h with ⟨c6, h⟩ | ⟨c6, h⟩
      · rcases ab_i h with ⟨c7, h⟩ | ⟨c7, h⟩
        · rcases ab_i h with ⟨c8, h⟩ | ⟨c8, h⟩
          · obtain ⟨r10, σ11, e9, h⟩ := ab_2 h
            have fr := fun (k : Int) (hk : nf3_X6_row k) => (v3_X6_found e9 k (by unfold nf3_X6_row at hk; unfold nf3_X6_found; omega)).trans (fr k hk)
            obtain ⟨q1, q2⟩ := ab_r2 h
            exact fun k hk => (congrFun (congrFun q2.symm 3) k).trans (fr k hk)
          · obtain ⟨σ14, e12, h⟩ := ab_1 h
            have fr := fun (k : Int) (hk : nf3_X6_row k) => (congrFun (w_X2_lay e12 3 (by unfold nw_X2_lay; omega)) k).trans (fr k hk)
            obtain ⟨r16, σ17, e15, h⟩ := ab_2 h
            have fr := fun (k : Int) (hk : nf3_X6_row k) => (v3_X6_unfound e15 k (by unfold nf3_X6_row at hk; unfold nf3_X6_unfound; omega)).trans (fr k hk)
            obtain ⟨q1, q2⟩ := ab_r2 h
            exact fun k hk => (congrFun (congrFun q2.symm 3) k).trans (fr k hk)
        · obtain ⟨q1, q2⟩ := ab_r2 h
          exact fun k hk => (congrFun (congrFun q2.symm 3) k).trans (fr k hk)
      · obtain ⟨q1, q2⟩ := ab_r2 h
        exact fun k hk => (congrFun (congrFun q2.symm 3) k).trans (fr k hk)
def nf3_X6_set (k : Int) : Prop := k ≠ 8
theorem v3_X6_set {n : Nat} {p1 : Int} {p2 : Int} {p3 : Int} {σ σr : am_Mem} {rr : Int} (h : f_X6_set n p1 p2 p3 σ = some (rr, σr)) : ∀ k : Int, nf3_X6_set k → σr 3 k = σ 3 k := by
  unfold f_X6_set at h
  have fr : ∀ k : Int, nf3_X6_set k → σ 3 k = σ 3 k := fun _ _ => rfl
  obtain ⟨r2, σ3, e1, h⟩ := ab_2 h
  have fr := fun (k : Int) (hk : nf3_X6_set k) => (congrFun (congrFun (u_X2_isRow e1) 3) k).trans (fr k hk)
  rcases ab_i h with ⟨c4, h⟩ | ⟨c4, h⟩
  · obtain ⟨q1, q2⟩ := ab_r2 h
    exact fun k hk => (congrFun (congrFun q2.symm 3) k).trans (fr k hk)
  · obtain ⟨r6, σ7, e5, h⟩ := ab_2 h
    have fr := fun (k : Int) (hk : nf3_X6_set k) => (congrFun (congrFun (u_X2_findingOf e5) 3) k).trans (fr k hk)
    rcases ab_i h with ⟨c8, h⟩ | ⟨c8, h⟩
    · obtain ⟨r10, σ11, e9, h⟩ := ab_2 h
      have fr := fun (k : Int) (hk : nf3_X6_set k) => (congrFun (w_X2_put e9 3 (by unfold nw_X2_put; omega)) k).trans (fr k hk)
      obtain ⟨r13, σ14, e12, h⟩ := ab_2 h
      have fr := fun (k : Int) (hk : nf3_X6_set k) => (v3_X6_unfound e12 k (by unfold nf3_X6_set at hk; unfold nf3_X6_unfound; omega)).trans (fr k hk)
      obtain ⟨q1, q2⟩ := ab_r2 h
      exact fun k hk => (congrFun (congrFun q2.symm 3) k).trans (fr k hk)
    · obtain ⟨r16, σ17, e15, h⟩ := ab_2 h
      have fr := fun (k : Int) (hk : nf3_X6_set k) => (v3_X6_found e15 k (by unfold nf3_X6_set at hk; unfold nf3_X6_found; omega)).trans (fr k hk)
      obtain ⟨q1, q2⟩ := ab_r2 h
      exact fun k hk => (congrFun (congrFun q2.symm 3) k).trans (fr k hk)
def nf3_X6_copy (k : Int) : Prop := k ≠ 8
theorem v3_X6_copy {n : Nat} {p1 : Int} {p2 : Int} {p3 : Int} {p4 : Int} {p5 : Int} {σ σr : am_Mem} {rr : Int} (h : f_X6_copy n p1 p2 p3 p4 p5 σ = some (rr, σr)) : ∀ k : Int, nf3_X6_copy k → σr 3 k = σ 3 k := by
  unfold f_X6_copy at h
  have fr : ∀ k : Int, nf3_X6_copy k → σ 3 k = σ 3 k := fun _ _ => rfl
  obtain ⟨r2, σ3, e1, h⟩ := ab_2 h
  have fr := fun (k : Int) (hk : nf3_X6_copy k) => (congrFun (congrFun (u_X2_isRow e1) 3) k).trans (fr k hk)
  rcases ab_i h with ⟨c4, h⟩ | ⟨c4, h⟩
  · obtain ⟨q1, q2⟩ := ab_r2 h
    exact fun k hk => (congrFun (congrFun q2.symm 3) k).trans (fr k hk)
  · obtain ⟨r6, σ7, e5, h⟩ := ab_2 h
    have fr := fun (k : Int) (hk : nf3_X6_copy k) => (congrFun (congrFun (u_X2_isRow e5) 3) k).trans (fr k hk)
    rcases ab_i h with ⟨c8, h⟩ | ⟨c8, h⟩
    · obtain ⟨q1, q2⟩ := ab_r2 h
      exact fun k hk => (congrFun (congrFun q2.symm 3) k).trans (fr k hk)
    · obtain ⟨r10, σ11, e9, h⟩ := ab_2 h
      have fr := fun (k : Int) (hk : nf3_X6_copy k) => (congrFun (congrFun (u_X2_findingOfMove e9) 3) k).trans (fr k hk)
      rcases ab_i h with ⟨c12, h⟩ | ⟨c12, h⟩
      · obtain ⟨σ15, e13, h⟩ := ab_1 h
        have fr := fun (k : Int) (hk : nf3_X6_copy k) => (congrFun (w_X2_move e13 3 (by unfold nw_X2_move; omega)) k).trans (fr k hk)
        obtain ⟨r17, σ18, e16, h⟩ := ab_2 h
        have fr := fun (k : Int) (hk : nf3_X6_copy k) => (v3_X6_unfound e16 k (by unfold nf3_X6_copy at hk; unfold nf3_X6_unfound; omega)).trans (fr k hk)
        obtain ⟨q1, q2⟩ := ab_r2 h
        exact fun k hk => (congrFun (congrFun q2.symm 3) k).trans (fr k hk)
      · obtain ⟨r20, σ21, e19, h⟩ := ab_2 h
        have fr := fun (k : Int) (hk : nf3_X6_copy k) => (v3_X6_found e19 k (by unfold nf3_X6_copy at hk; unfold nf3_X6_found; omega)).trans (fr k hk)
        obtain ⟨q1, q2⟩ := ab_r2 h
        exact fun k hk => (congrFun (congrFun q2.symm 3) k).trans (fr k hk)
def nf3_X6_drop (k : Int) : Prop := k ≠ 8
theorem v3_X6_drop {n : Nat} {p1 : Int} {σ σr : am_Mem} {rr : Int} (h : f_X6_drop n p1 σ = some (rr, σr)) : ∀ k : Int, nf3_X6_drop k → σr 3 k = σ 3 k := by
  unfold f_X6_drop at h
  have fr : ∀ k : Int, nf3_X6_drop k → σ 3 k = σ 3 k := fun _ _ => rfl
  obtain ⟨r2, σ3, e1, h⟩ := ab_2 h
  have fr := fun (k : Int) (hk : nf3_X6_drop k) => (congrFun (congrFun (u_X2_isRow e1) 3) k).trans (fr k hk)
  rcases ab_i h with ⟨c4, h⟩ | ⟨c4, h⟩
  · obtain ⟨q1, q2⟩ := ab_r2 h
    exact fun k hk => (congrFun (congrFun q2.symm 3) k).trans (fr k hk)
  · obtain ⟨r6, σ7, e5, h⟩ := ab_2 h
    have fr := fun (k : Int) (hk : nf3_X6_drop k) => (congrFun (congrFun (u_X2_isMissing e5) 3) k).trans (fr k hk)
    rcases ab_i h with ⟨c8, h⟩ | ⟨c8, h⟩
    · obtain ⟨r10, σ11, e9, h⟩ := ab_2 h
      have fr := fun (k : Int) (hk : nf3_X6_drop k) => (congrFun (w_X2_lose e9 3 (by unfold nw_X2_lose; omega)) k).trans (fr k hk)
      obtain ⟨r13, σ14, e12, h⟩ := ab_2 h
      have fr := fun (k : Int) (hk : nf3_X6_drop k) => (v3_X6_unfound e12 k (by unfold nf3_X6_drop at hk; unfold nf3_X6_unfound; omega)).trans (fr k hk)
      obtain ⟨q1, q2⟩ := ab_r2 h
      exact fun k hk => (congrFun (congrFun q2.symm 3) k).trans (fr k hk)
    · obtain ⟨r16, σ17, e15, h⟩ := ab_2 h
      have fr := fun (k : Int) (hk : nf3_X6_drop k) => (v3_X6_found e15 k (by unfold nf3_X6_drop at hk; unfold nf3_X6_found; omega)).trans (fr k hk)
      obtain ⟨q1, q2⟩ := ab_r2 h
      exact fun k hk => (congrFun (congrFun q2.symm 3) k).trans (fr k hk)
def nf3_X6_town (k : Int) : Prop := k ≠ 9
theorem v3_X6_town {n : Nat} {σ σr : am_Mem} {rr : Int} (h : f_X6_town n σ = some (rr, σr)) : ∀ k : Int, nf3_X6_town k → σr 3 k = σ 3 k := by
  unfold f_X6_town at h
  have fr : ∀ k : Int, nf3_X6_town k → σ 3 k = σ 3 k := fun _ _ => rfl
  obtain ⟨r2, σ3, e1, h⟩ := ab_2 h
  have fr := fun (k : Int) (hk : nf3_X6_town k) => (congrFun (w_X4_readInto e1 3 (by unfold nw_X4_readInto; omega)) k).trans (fr k hk)
  obtain ⟨σ4, e5, h⟩ := ab_1 h
  have fr := fun (k : Int) (hk : nf3_X6_town k) => (congrFun (ab_fu e5 (show 3 ≠ 16 by omega)) k).trans (fr k hk)
  rcases ab_i h with ⟨c6, h⟩ | ⟨c6, h⟩
  · obtain ⟨σ7, e8, h⟩ := ab_1 h
    have fr := fun (k : Int) (hk : nf3_X6_town k) => (ab_fuj e8 (show k ≠ 9 by unfold nf3_X6_town at hk; omega)).trans (fr k hk)
    obtain ⟨q1, q2⟩ := ab_r2 h
    exact fun k hk => (congrFun (congrFun q2.symm 3) k).trans (fr k hk)
  · obtain ⟨σ11, e9, h⟩ := ab_1 h
    have fr := fun (k : Int) (hk : nf3_X6_town k) => (congrFun (w_X5_become e9 3 (by unfold nw_X5_become; omega)) k).trans (fr k hk)
    obtain ⟨σ14, e12, h⟩ := ab_1 h
    have fr := fun (k : Int) (hk : nf3_X6_town k) => (congrFun (w_X0_forget e12 3 (by unfold nw_X0_forget; omega)) k).trans (fr k hk)
    obtain ⟨q1, q2⟩ := ab_r2 h
    exact fun k hk => (congrFun (congrFun q2.symm 3) k).trans (fr k hk)
def nf3_X6_fits (k : Int) : Prop := k ≠ 8
theorem v3b_X6_fits_130 {n : Nat} {kh86 : Int → Int → Int → Int → Int → Int → Int → Int → Int → am_Mem → Option (Int × am_Mem)} {x1 : Int} {x2 : Int} {x3 : Int} {x4 : Int} {x5 : Int} {x6 : Int} {x8 : Int} {x10 : Int} {x11 : Int} {σ σr : am_Mem} {rr : Int} (hk86 : ∀ (y1 : Int) (y2 : Int) (y3 : Int) (y4 : Int) (y5 : Int) (y6 : Int) (y8 : Int) (y10 : Int) (y11 : Int) (σ : am_Mem), kh86 y1 y2 y3 y4 y5 y6 y8 y10 y11 σ = some (rr, σr) → ∀ k : Int, nf3_X6_fits k → σr 3 k = σ 3 k) (h : fb_X6_fits_130 n kh86 x1 x2 x3 x4 x5 x6 x8 x10 x11 σ = some (rr, σr)) : ∀ k : Int, nf3_X6_fits k → σr 3 k = σ 3 k := by
  unfold fb_X6_fits_130 at h
  have fr : ∀ k : Int, nf3_X6_fits k → σ 3 k = σ 3 k := fun _ _ => rfl
  obtain ⟨r23, σ24, e22, h⟩ := ab_2 h
  have fr := fun (k : Int) (hk : nf3_X6_fits k) => (congrFun (w_X6_isSo e22 3 (by unfold nw_X6_isSo; omega)) k).trans (fr k hk)
  rcases ab_i h with ⟨c25, h⟩ | ⟨c25, h⟩
  · exact fun k hk => (hk86 _ _ _ _ _ _ _ _ _ _ h k hk).trans (fr k hk)
  · exact fun k hk => (hk86 _ _ _ _ _ _ _ _ _ _ h k hk).trans (fr k hk)
theorem v3b_X6_fits_86 {n : Nat} {kh86 : Int → Int → Int → Int → Int → Int → Int → Int → Int → am_Mem → Option (Int × am_Mem)} {x1 : Int} {x2 : Int} {x3 : Int} {x4 : Int} {x5 : Int} {x6 : Int} {x8 : Int} {x10 : Int} {x11 : Int} {σ σr : am_Mem} {rr : Int} (hk86 : ∀ (y1 : Int) (y2 : Int) (y3 : Int) (y4 : Int) (y5 : Int) (y6 : Int) (y8 : Int) (y10 : Int) (y11 : Int) (σ : am_Mem), kh86 y1 y2 y3 y4 y5 y6 y8 y10 y11 σ = some (rr, σr) → ∀ k : Int, nf3_X6_fits k → σr 3 k = σ 3 k) (h : fb_X6_fits_86 n kh86 x1 x2 x3 x4 x5 x6 x8 x10 x11 σ = some (rr, σr)) : ∀ k : Int, nf3_X6_fits k → σr 3 k = σ 3 k := by
  unfold fb_X6_fits_86 at h
  have fr : ∀ k : Int, nf3_X6_fits k → σ 3 k = σ 3 k := fun _ _ => rfl
  rcases ab_i h with ⟨c15, h⟩ | ⟨c15, h⟩
  · obtain ⟨σ18, e16, h⟩ := ab_1 h
    have fr := fun (k : Int) (hk : nf3_X6_fits k) => (congrFun (w_X5_become e16 3 (by unfold nw_X5_become; omega)) k).trans (fr k hk)
    rcases ab_i h with ⟨c19, h⟩ | ⟨c19, h⟩
    · obtain ⟨σ20, e21, h⟩ := ab_1 h
      have fr := fun (k : Int) (hk : nf3_X6_fits k) => (congrFun (ab_fu e21 (show 3 ≠ 24 by omega)) k).trans (fr k hk)
      exact fun k hk => (v3b_X6_fits_130 hk86 h k hk).trans (fr k hk)
    · obtain ⟨σ26, e27, h⟩ := ab_1 h
      have fr := fun (k : Int) (hk : nf3_X6_fits k) => (congrFun (ab_fu e27 (show 3 ≠ 24 by omega)) k).trans (fr k hk)
      exact fun k hk => (v3b_X6_fits_130 hk86 h k hk).trans (fr k hk)
  · obtain ⟨r29, σ30, e28, h⟩ := ab_2 h
    have fr := fun (k : Int) (hk : nf3_X6_fits k) => (v3_X6_unfound e28 k (by unfold nf3_X6_fits at hk; unfold nf3_X6_unfound; omega)).trans (fr k hk)
    obtain ⟨q1, q2⟩ := ab_r2 h
    exact fun k hk => (congrFun (congrFun q2.symm 3) k).trans (fr k hk)
theorem v3l_X6_fits_86 {n : Nat} {σr : am_Mem} {rr : Int} : ∀ (m : Nat) (x1 : Int) (x2 : Int) (x3 : Int) (x4 : Int) (x5 : Int) (x6 : Int) (x8 : Int) (x10 : Int) (x11 : Int) (σ : am_Mem), fl_X6_fits_86 n m x1 x2 x3 x4 x5 x6 x8 x10 x11 σ = some (rr, σr) → ∀ k : Int, nf3_X6_fits k → σr 3 k = σ 3 k := by
  intro m
  induction m with
  | zero => intro x1 x2 x3 x4 x5 x6 x8 x10 x11 σ h; cases h
  | succ m ih =>
    intro x1 x2 x3 x4 x5 x6 x8 x10 x11 σ h
    exact v3b_X6_fits_86 (fun x1 x2 x3 x4 x5 x6 x8 x10 x11 σ h => ih x1 x2 x3 x4 x5 x6 x8 x10 x11 σ h) h
theorem v3_X6_fits {n : Nat} {p1 : Int} {p2 : Int} {p3 : Int} {p4 : Int} {p5 : Int} {p6 : Int} {σ σr : am_Mem} {rr : Int} (h : f_X6_fits n p1 p2 p3 p4 p5 p6 σ = some (rr, σr)) : ∀ k : Int, nf3_X6_fits k → σr 3 k = σ 3 k := by
  unfold f_X6_fits at h
  have fr : ∀ k : Int, nf3_X6_fits k → σ 3 k = σ 3 k := fun _ _ => rfl
  obtain ⟨r2, σ3, e1, h⟩ := ab_2 h
  have fr := fun (k : Int) (hk : nf3_X6_fits k) => (congrFun (congrFun (u_X5_stands e1) 3) k).trans (fr k hk)
  rcases ab_i h with ⟨c4, h⟩ | ⟨c4, h⟩
  · obtain ⟨q1, q2⟩ := ab_r2 h
    exact fun k hk => (congrFun (congrFun q2.symm 3) k).trans (fr k hk)
  · obtain ⟨r6, σ7, e5, h⟩ := ab_2 h
    have fr := fun (k : Int) (hk : nf3_X6_fits k) => (congrFun (congrFun (u_X6_areFitting e5) 3) k).trans (fr k hk)
    rcases ab_i h with ⟨c8, h⟩ | ⟨c8, h⟩
    · obtain ⟨q1, q2⟩ := ab_r2 h
      exact fun k hk => (congrFun (congrFun q2.symm 3) k).trans (fr k hk)
    · obtain ⟨r10, σ11, e9, h⟩ := ab_2 h
      have fr := fun (k : Int) (hk : nf3_X6_fits k) => (congrFun (congrFun (u_X6_findingOfTwo e9) 3) k).trans (fr k hk)
      rcases ab_i h with ⟨c12, h⟩ | ⟨c12, h⟩
      · rcases ab_i h with ⟨c13, h⟩ | ⟨c13, h⟩
        · rcases ab_i h with ⟨c14, h⟩ | ⟨c14, h⟩
          · exact fun k hk => (v3l_X6_fits_86 n _ _ _ _ _ _ _ _ _ _ h k hk).trans (fr k hk)
          · exact fun k hk => (v3l_X6_fits_86 n _ _ _ _ _ _ _ _ _ _ h k hk).trans (fr k hk)
        · rcases ab_i h with ⟨c31, h⟩ | ⟨c31, h⟩
          · exact fun k hk => (v3l_X6_fits_86 n _ _ _ _ _ _ _ _ _ _ h k hk).trans (fr k hk)
          · exact fun k hk => (v3l_X6_fits_86 n _ _ _ _ _ _ _ _ _ _ h k hk).trans (fr k hk)
      · obtain ⟨r33, σ34, e32, h⟩ := ab_2 h
        have fr := fun (k : Int) (hk : nf3_X6_fits k) => (v3_X6_found e32 k (by unfold nf3_X6_fits at hk; unfold nf3_X6_found; omega)).trans (fr k hk)
        obtain ⟨q1, q2⟩ := ab_r2 h
        exact fun k hk => (congrFun (congrFun q2.symm 3) k).trans (fr k hk)
def nf3_X6_fitsOf (k : Int) : Prop := k ≠ 8
theorem v3b_X6_fitsOf_133 {n : Nat} {kh85 : Int → Int → Int → Int → Int → Int → Int → Int → Int → Int → am_Mem → Option (Int × am_Mem)} {x1 : Int} {x2 : Int} {x3 : Int} {x4 : Int} {x5 : Int} {x6 : Int} {x7 : Int} {x9 : Int} {x11 : Int} {x12 : Int} {σ σr : am_Mem} {rr : Int} (hk85 : ∀ (y1 : Int) (y2 : Int) (y3 : Int) (y4 : Int) (y5 : Int) (y6 : Int) (y7 : Int) (y9 : Int) (y11 : Int) (y12 : Int) (σ : am_Mem), kh85 y1 y2 y3 y4 y5 y6 y7 y9 y11 y12 σ = some (rr, σr) → ∀ k : Int, nf3_X6_fitsOf k → σr 3 k = σ 3 k) (h : fb_X6_fitsOf_133 n kh85 x1 x2 x3 x4 x5 x6 x7 x9 x11 x12 σ = some (rr, σr)) : ∀ k : Int, nf3_X6_fitsOf k → σr 3 k = σ 3 k := by
  unfold fb_X6_fitsOf_133 at h
  have fr : ∀ k : Int, nf3_X6_fitsOf k → σ 3 k = σ 3 k := fun _ _ => rfl
  obtain ⟨r24, σ25, e23, h⟩ := ab_2 h
  have fr := fun (k : Int) (hk : nf3_X6_fitsOf k) => (congrFun (w_X6_isSo e23 3 (by unfold nw_X6_isSo; omega)) k).trans (fr k hk)
  rcases ab_i h with ⟨c26, h⟩ | ⟨c26, h⟩
  · exact fun k hk => (hk85 _ _ _ _ _ _ _ _ _ _ _ h k hk).trans (fr k hk)
  · exact fun k hk => (hk85 _ _ _ _ _ _ _ _ _ _ _ h k hk).trans (fr k hk)
theorem v3b_X6_fitsOf_85 {n : Nat} {kh85 : Int → Int → Int → Int → Int → Int → Int → Int → Int → Int → am_Mem → Option (Int × am_Mem)} {x1 : Int} {x2 : Int} {x3 : Int} {x4 : Int} {x5 : Int} {x6 : Int} {x7 : Int} {x9 : Int} {x11 : Int} {x12 : Int} {σ σr : am_Mem} {rr : Int} (hk85 : ∀ (y1 : Int) (y2 : Int) (y3 : Int) (y4 : Int) (y5 : Int) (y6 : Int) (y7 : Int) (y9 : Int) (y11 : Int) (y12 : Int) (σ : am_Mem), kh85 y1 y2 y3 y4 y5 y6 y7 y9 y11 y12 σ = some (rr, σr) → ∀ k : Int, nf3_X6_fitsOf k → σr 3 k = σ 3 k) (h : fb_X6_fitsOf_85 n kh85 x1 x2 x3 x4 x5 x6 x7 x9 x11 x12 σ = some (rr, σr)) : ∀ k : Int, nf3_X6_fitsOf k → σr 3 k = σ 3 k := by
  unfold fb_X6_fitsOf_85 at h
  have fr : ∀ k : Int, nf3_X6_fitsOf k → σ 3 k = σ 3 k := fun _ _ => rfl
  rcases ab_i h with ⟨c15, h⟩ | ⟨c15, h⟩
  · obtain ⟨σ18, e16, h⟩ := ab_1 h
    have fr := fun (k : Int) (hk : nf3_X6_fitsOf k) => (congrFun (w_X5_become e16 3 (by unfold nw_X5_become; omega)) k).trans (fr k hk)
    rcases ab_i h with ⟨c19, h⟩ | ⟨c19, h⟩
    · obtain ⟨g20, h⟩ := ab_g h
      obtain ⟨σ21, e22, h⟩ := ab_1 h
      have fr := fun (k : Int) (hk : nf3_X6_fitsOf k) => (congrFun (ab_fu e22 (show 3 ≠ 25 by omega)) k).trans (fr k hk)
      exact fun k hk => (v3b_X6_fitsOf_133 hk85 h k hk).trans (fr k hk)
    · obtain ⟨g27, h⟩ := ab_g h
      obtain ⟨σ28, e29, h⟩ := ab_1 h
      have fr := fun (k : Int) (hk : nf3_X6_fitsOf k) => (congrFun (ab_fu e29 (show 3 ≠ 26 by omega)) k).trans (fr k hk)
      exact fun k hk => (v3b_X6_fitsOf_133 hk85 h k hk).trans (fr k hk)
  · obtain ⟨r31, σ32, e30, h⟩ := ab_2 h
    have fr := fun (k : Int) (hk : nf3_X6_fitsOf k) => (v3_X6_unfound e30 k (by unfold nf3_X6_fitsOf at hk; unfold nf3_X6_unfound; omega)).trans (fr k hk)
    obtain ⟨q1, q2⟩ := ab_r2 h
    exact fun k hk => (congrFun (congrFun q2.symm 3) k).trans (fr k hk)
theorem v3l_X6_fitsOf_85 {n : Nat} {σr : am_Mem} {rr : Int} : ∀ (m : Nat) (x1 : Int) (x2 : Int) (x3 : Int) (x4 : Int) (x5 : Int) (x6 : Int) (x7 : Int) (x9 : Int) (x11 : Int) (x12 : Int) (σ : am_Mem), fl_X6_fitsOf_85 n m x1 x2 x3 x4 x5 x6 x7 x9 x11 x12 σ = some (rr, σr) → ∀ k : Int, nf3_X6_fitsOf k → σr 3 k = σ 3 k := by
  intro m
  induction m with
  | zero => intro x1 x2 x3 x4 x5 x6 x7 x9 x11 x12 σ h; cases h
  | succ m ih =>
    intro x1 x2 x3 x4 x5 x6 x7 x9 x11 x12 σ h
    exact v3b_X6_fitsOf_85 (fun x1 x2 x3 x4 x5 x6 x7 x9 x11 x12 σ h => ih x1 x2 x3 x4 x5 x6 x7 x9 x11 x12 σ h) h
theorem v3_X6_fitsOf {n : Nat} {p1 : Int} {p2 : Int} {p3 : Int} {p4 : Int} {p5 : Int} {p6 : Int} {p7 : Int} {σ σr : am_Mem} {rr : Int} (h : f_X6_fitsOf n p1 p2 p3 p4 p5 p6 p7 σ = some (rr, σr)) : ∀ k : Int, nf3_X6_fitsOf k → σr 3 k = σ 3 k := by
  unfold f_X6_fitsOf at h
  have fr : ∀ k : Int, nf3_X6_fitsOf k → σ 3 k = σ 3 k := fun _ _ => rfl
  obtain ⟨r2, σ3, e1, h⟩ := ab_2 h
  have fr := fun (k : Int) (hk : nf3_X6_fitsOf k) => (congrFun (congrFun (u_X5_hasCorner e1) 3) k).trans (fr k hk)
  rcases ab_i h with ⟨c4, h⟩ | ⟨c4, h⟩
  · obtain ⟨q1, q2⟩ := ab_r2 h
    exact fun k hk => (congrFun (congrFun q2.symm 3) k).trans (fr k hk)
  · obtain ⟨r6, σ7, e5, h⟩ := ab_2 h
    have fr := fun (k : Int) (hk : nf3_X6_fitsOf k) => (congrFun (congrFun (u_X6_areFitting e5) 3) k).trans (fr k hk)
    rcases ab_i h with ⟨c8, h⟩ | ⟨c8, h⟩
    · obtain ⟨q1, q2⟩ := ab_r2 h
      exact fun k hk => (congrFun (congrFun q2.symm 3) k).trans (fr k hk)
    · obtain ⟨r10, σ11, e9, h⟩ := ab_2 h
      have fr := fun (k : Int) (hk : nf3_X6_fitsOf k) => (congrFun (congrFun (u_X6_findingOfTwo e9) 3) k).trans (fr k hk)
      rcases ab_i h with ⟨c12, h⟩ | ⟨c12, h⟩
      · rcases ab_i h with ⟨c13, h⟩ | ⟨c13, h⟩
        · rcases ab_i h with ⟨c14, h⟩ | ⟨c14, h⟩
          · exact fun k hk => (v3l_X6_fitsOf_85 n _ _ _ _ _ _ _ _ _ _ _ h k hk).trans (fr k hk)
          · exact fun k hk => (v3l_X6_fitsOf_85 n _ _ _ _ _ _ _ _ _ _ _ h k hk).trans (fr k hk)
        · rcases ab_i h with ⟨c33, h⟩ | ⟨c33, h⟩
          · exact fun k hk => (v3l_X6_fitsOf_85 n _ _ _ _ _ _ _ _ _ _ _ h k hk).trans (fr k hk)
          · exact fun k hk => (v3l_X6_fitsOf_85 n _ _ _ _ _ _ _ _ _ _ _ h k hk).trans (fr k hk)
      · obtain ⟨r35, σ36, e34, h⟩ := ab_2 h
        have fr := fun (k : Int) (hk : nf3_X6_fitsOf k) => (v3_X6_found e34 k (by unfold nf3_X6_fitsOf at hk; unfold nf3_X6_found; omega)).trans (fr k hk)
        obtain ⟨q1, q2⟩ := ab_r2 h
        exact fun k hk => (congrFun (congrFun q2.symm 3) k).trans (fr k hk)
def nf3_X6_share (k : Int) : Prop := k ≠ 8
theorem v3_X6_share {n : Nat} {p1 : Int} {p2 : Int} {p3 : Int} {p4 : Int} {σ σr : am_Mem} {rr : Int} (h : f_X6_share n p1 p2 p3 p4 σ = some (rr, σr)) : ∀ k : Int, nf3_X6_share k → σr 3 k = σ 3 k := by
  unfold f_X6_share at h
  have fr : ∀ k : Int, nf3_X6_share k → σ 3 k = σ 3 k := fun _ _ => rfl
  obtain ⟨r2, σ3, e1, h⟩ := ab_2 h
  have fr := fun (k : Int) (hk : nf3_X6_share k) => (congrFun (congrFun (u_X5_stands e1) 3) k).trans (fr k hk)
  rcases ab_i h with ⟨c4, h⟩ | ⟨c4, h⟩
  · obtain ⟨q1, q2⟩ := ab_r2 h
    exact fun k hk => (congrFun (congrFun q2.symm 3) k).trans (fr k hk)
  · obtain ⟨r6, σ7, e5, h⟩ := ab_2 h
    have fr := fun (k : Int) (hk : nf3_X6_share k) => (congrFun (congrFun (u_X2_isRow e5) 3) k).trans (fr k hk)
    rcases ab_i h with ⟨c8, h⟩ | ⟨c8, h⟩
    · obtain ⟨q1, q2⟩ := ab_r2 h
      exact fun k hk => (congrFun (congrFun q2.symm 3) k).trans (fr k hk)
    · rcases ab_i h with ⟨c9, h⟩ | ⟨c9, h⟩
      · obtain ⟨q1, q2⟩ := ab_r2 h
        exact fun k hk => (congrFun (congrFun q2.symm 3) k).trans (fr k hk)
      · rcases ab_i h with ⟨c10, h⟩ | ⟨c10, h⟩
        · rcases ab_i h with ⟨c11, h⟩ | ⟨c11, h⟩
          · obtain ⟨q1, q2⟩ := ab_r2 h
            exact fun k hk => (congrFun (congrFun q2.symm 3) k).trans (fr k hk)
          · rcases ab_i h with ⟨c12, h⟩ | ⟨c12, h⟩
            · obtain ⟨r14, σ15, e13, h⟩ := ab_2 h
              have fr := fun (k : Int) (hk : nf3_X6_share k) => (congrFun (congrFun (u_X2_findingOf e13) 3) k).trans (fr k hk)
              rcases ab_i h with ⟨c16, h⟩ | ⟨c16, h⟩
              · obtain ⟨r18, σ19, e17, h⟩ := ab_2 h
                have fr := fun (k : Int) (hk : nf3_X6_share k) => (congrFun (w_X6_owedFrom e17 3 (by unfold nw_X6_owedFrom; omega)) k).trans (fr k hk)
                obtain ⟨r21, σ22, e20, h⟩ := ab_2 h
                have fr := fun (k : Int) (hk : nf3_X6_share k) => (v3_X6_unfound e20 k (by unfold nf3_X6_share at hk; unfold nf3_X6_unfound; omega)).trans (fr k hk)
                obtain ⟨q1, q2⟩ := ab_r2 h
                exact fun k hk => (congrFun (congrFun q2.symm 3) k).trans (fr k hk)
              · obtain ⟨r24, σ25, e23, h⟩ := ab_2 h
                have fr := fun (k : Int) (hk : nf3_X6_share k) => (v3_X6_found e23 k (by unfold nf3_X6_share at hk; unfold nf3_X6_found; omega)).trans (fr k hk)
                obtain ⟨q1, q2⟩ := ab_r2 h
                exact fun k hk => (congrFun (congrFun q2.symm 3) k).trans (fr k hk)
            · obtain ⟨q1, q2⟩ := ab_r2 h
              exact fun k hk => (congrFun (congrFun q2.symm 3) k).trans (fr k hk)
        · obtain ⟨q1, q2⟩ := ab_r2 h
          exact fun k hk => (congrFun (congrFun q2.symm 3) k).trans (fr k hk)
def nf3_X6_as (k : Int) : Prop := k ≠ 8
theorem v3_X6_as {n : Nat} {p1 : Int} {p2 : Int} {σ σr : am_Mem} {rr : Int} (h : f_X6_as n p1 p2 σ = some (rr, σr)) : ∀ k : Int, nf3_X6_as k → σr 3 k = σ 3 k := by
  unfold f_X6_as at h
  have fr : ∀ k : Int, nf3_X6_as k → σ 3 k = σ 3 k := fun _ _ => rfl
  obtain ⟨r2, σ3, e1, h⟩ := ab_2 h
  have fr := fun (k : Int) (hk : nf3_X6_as k) => (congrFun (congrFun (u_X5_hasCorner e1) 3) k).trans (fr k hk)
  rcases ab_i h with ⟨c4, h⟩ | ⟨c4, h⟩
  · obtain ⟨q1, q2⟩ := ab_r2 h
    exact fun k hk => (congrFun (congrFun q2.symm 3) k).trans (fr k hk)
  · rcases ab_i h with ⟨c5, h⟩ | ⟨c5, h⟩
    · obtain ⟨q1, q2⟩ := ab_r2 h
      exact fun k hk => (congrFun (congrFun q2.symm 3) k).trans (fr k hk)
    · rcases ab_i h with ⟨c6, h⟩ | ⟨c6, h⟩
      · obtain ⟨g7, h⟩ := ab_g h
        obtain ⟨r9, σ10, e8, h⟩ := ab_2 h
        have fr := fun (k : Int) (hk : nf3_X6_as k) => (congrFun (congrFun (u_X6_isOfKind e8) 3) k).trans (fr k hk)
        rcases ab_i h with ⟨c11, h⟩ | ⟨c11, h⟩
        · obtain ⟨r13, σ14, e12, h⟩ := ab_2 h
          have fr := fun (k : Int) (hk : nf3_X6_as k) => (v3_X6_found e12 k (by unfold nf3_X6_as at hk; unfold nf3_X6_found; omega)).trans (fr k hk)
          obtain ⟨q1, q2⟩ := ab_r2 h
          exact fun k hk => (congrFun (congrFun q2.symm 3) k).trans (fr k hk)
        · obtain ⟨r16, σ17, e15, h⟩ := ab_2 h
          have fr := fun (k : Int) (hk : nf3_X6_as k) => (v3_X6_unfound e15 k (by unfold nf3_X6_as at hk; unfold nf3_X6_unfound; omega)).trans (fr k hk)
          obtain ⟨q1, q2⟩ := ab_r2 h
          exact fun k hk => (congrFun (congrFun q2.symm 3) k).trans (fr k hk)
      · obtain ⟨q1, q2⟩ := ab_r2 h
        exact fun k hk => (congrFun (congrFun q2.symm 3) k).trans (fr k hk)
def nf75_X7_found (k : Int) : Prop := k ≠ 4
theorem v75_X7_found {n : Nat} {p1 : Int} {σ σr : am_Mem} {rr : Int} (h : f_X7_found n p1 σ = some (rr, σr)) : ∀ k : Int, nf75_X7_found k → σr 75 k = σ 75 k := by
  unfold f_X7_found at h
  have fr : ∀ k : Int, nf75_X7_found k → σ 75 k = σ 75 k := fun _ _ => rfl
  obtain ⟨σ1, e2, h⟩ := ab_1 h
  have fr := fun (k : Int) (hk : nf75_X7_found k) => (ab_fuj e2 (show k ≠ 4 by unfold nf75_X7_found at hk; omega)).trans (fr k hk)
  obtain ⟨q1, q2⟩ := ab_r2 h
  exact fun k hk => (congrFun (congrFun q2.symm 75) k).trans (fr k hk)
def nf75_X7_well (k : Int) : Prop := k ≠ 4
theorem v75_X7_well {n : Nat} {p1 : Int} {σ σr : am_Mem} {rr : Int} (h : f_X7_well n p1 σ = some (rr, σr)) : ∀ k : Int, nf75_X7_well k → σr 75 k = σ 75 k := by
  unfold f_X7_well at h
  have fr : ∀ k : Int, nf75_X7_well k → σ 75 k = σ 75 k := fun _ _ => rfl
  obtain ⟨σ1, e2, h⟩ := ab_1 h
  have fr := fun (k : Int) (hk : nf75_X7_well k) => (ab_fuj e2 (show k ≠ 4 by unfold nf75_X7_well at hk; omega)).trans (fr k hk)
  obtain ⟨q1, q2⟩ := ab_r2 h
  exact fun k hk => (congrFun (congrFun q2.symm 75) k).trans (fr k hk)
def nf75_X7_row (k : Int) : Prop := k ≠ 4
theorem v75b_X7_row_52 {n : Nat} {kh52 : Int → Int → Int → am_Mem → Option (Int × am_Mem)} {x1 : Int} {x3 : Int} {x4 : Int} {σ σr : am_Mem} {rr : Int} (hk52 : ∀ (y1 : Int) (y3 : Int) (y4 : Int) (σ : am_Mem), kh52 y1 y3 y4 σ = some (rr, σr) → ∀ k : Int, nf75_X7_row k → σr 75 k = σ 75 k) (h : fb_X7_row_52 n kh52 x1 x3 x4 σ = some (rr, σr)) : ∀ k : Int, nf75_X7_row k → σr 75 k = σ 75 k := by
  unfold fb_X7_row_52 at h
  have fr : ∀ k : Int, nf75_X7_row k → σ 75 k = σ 75 k := fun _ _ => rfl
  rcases ab_i h with ⟨c19, h⟩ | ⟨c19, h⟩
  · obtain ⟨g20, h⟩ := ab_g h
    obtain ⟨σ21, e22, h⟩ := ab_1 h
    have fr := fun (k : Int) (hk : nf75_X7_row k) => (congrFun (ab_fu e22 (show 75 ≠ 78 by omega)) k).trans (fr k hk)
    exact fun k hk => (hk52 _ _ _ _ h k hk).trans (fr k hk)
  · obtain ⟨r24, σ25, e23, h⟩ := ab_2 h
    have fr := fun (k : Int) (hk : nf75_X7_row k) => (v75_X7_well e23 k (by unfold nf75_X7_row at hk; unfold nf75_X7_well; omega)).trans (fr k hk)
    obtain ⟨q1, q2⟩ := ab_r2 h
    exact fun k hk => (congrFun (congrFun q2.symm 75) k).trans (fr k hk)
theorem v75l_X7_row_52 {n : Nat} {σr : am_Mem} {rr : Int} : ∀ (m : Nat) (x1 : Int) (x3 : Int) (x4 : Int) (σ : am_Mem), fl_X7_row_52 n m x1 x3 x4 σ = some (rr, σr) → ∀ k : Int, nf75_X7_row k → σr 75 k = σ 75 k := by
  intro m
  induction m with
  | zero => intro x1 x3 x4 σ h; cases h
  | succ m ih =>
    intro x1 x3 x4 σ h
    exact v75b_X7_row_52 (fun x1 x3 x4 σ h => ih x1 x3 x4 σ h) h
theorem v75_X7_row {n : Nat} {p1 : Int} {p2 : Int} {p3 : Int} {σ σr : am_Mem} {rr : Int} (h : f_X7_row n p1 p2 p3 σ = some (rr, σr)) : ∀ k : Int, nf75_X7_row k → σr 75 k = σ 75 k := by
  unfold f_X7_row at h
  have fr : ∀ k : Int, nf75_X7_row k → σ 75 k = σ 75 k := fun _ _ => rfl
  obtain ⟨r2, σ3, e1, h⟩ := ab_2 h
  have fr := fun (k : Int) (hk : nf75_X7_row k) => (congrFun (congrFun (u_X7_isRow e1) 75) k).trans (fr k hk)
  rcases ab_i h with ⟨c4, h⟩ | ⟨c4, h⟩
  · obtain ⟨q1, q2⟩ := ab_r2 h
    exact fun k hk => (congrFun (congrFun q2.symm 75) k).trans (fr k hk)
  · obtain ⟨r6, σ7, e5, h⟩ := ab_2 h
    have fr := fun (k : Int) (hk : nf75_X7_row k) => (congrFun (congrFun (u_X7_in e5) 75) k).trans (fr k hk)
    rcases ab_i h with ⟨c8, h⟩ | ⟨c8, h⟩
    · obtain ⟨q1, q2⟩ := ab_r2 h
      exact fun k hk => (congrFun (congrFun q2.symm 75) k).trans (fr k hk)
    · rcases ab_i h with ⟨c9, h⟩ | ⟨c9, h⟩
      · rcases ab_i h with ⟨c10, h⟩ | ⟨c10, h⟩
        · obtain ⟨r12, σ13, e11, h⟩ := ab_2 h
          have fr := fun (k : Int) (hk : nf75_X7_row k) => (v75_X7_found e11 k (by unfold nf75_X7_row at hk; unfold nf75_X7_found; omega)).trans (fr k hk)
          obtain ⟨q1, q2⟩ := ab_r2 h
          exact fun k hk => (congrFun (congrFun q2.symm 75) k).trans (fr k hk)
        · obtain ⟨g14, h⟩ := ab_g h
          obtain ⟨σ15, e16, h⟩ := ab_1 h
          have fr := fun (k : Int) (hk : nf75_X7_row k) => (congrFun (ab_fu e16 (show 75 ≠ 76 by omega)) k).trans (fr k hk)
          obtain ⟨σ17, e18, h⟩ := ab_1 h
          have fr := fun (k : Int) (hk : nf75_X7_row k) => (congrFun (ab_fu e18 (show 75 ≠ 77 by omega)) k).trans (fr k hk)
          exact fun k hk => (v75l_X7_row_52 n _ _ _ _ h k hk).trans (fr k hk)
      · obtain ⟨q1, q2⟩ := ab_r2 h
        exact fun k hk => (congrFun (congrFun q2.symm 75) k).trans (fr k hk)
def nf75_X7_set (k : Int) : Prop := k ≠ 4
theorem v75_X7_set {n : Nat} {p1 : Int} {p2 : Int} {p3 : Int} {σ σr : am_Mem} {rr : Int} (h : f_X7_set n p1 p2 p3 σ = some (rr, σr)) : ∀ k : Int, nf75_X7_set k → σr 75 k = σ 75 k := by
  unfold f_X7_set at h
  have fr : ∀ k : Int, nf75_X7_set k → σ 75 k = σ 75 k := fun _ _ => rfl
  obtain ⟨r2, σ3, e1, h⟩ := ab_2 h
  have fr := fun (k : Int) (hk : nf75_X7_set k) => (congrFun (congrFun (u_X7_isRow e1) 75) k).trans (fr k hk)
  rcases ab_i h with ⟨c4, h⟩ | ⟨c4, h⟩
  · obtain ⟨q1, q2⟩ := ab_r2 h
    exact fun k hk => (congrFun (congrFun q2.symm 75) k).trans (fr k hk)
  · obtain ⟨r6, σ7, e5, h⟩ := ab_2 h
    have fr := fun (k : Int) (hk : nf75_X7_set k) => (congrFun (congrFun (u_X7_isMissing e5) 75) k).trans (fr k hk)
    rcases ab_i h with ⟨c8, h⟩ | ⟨c8, h⟩
    · obtain ⟨g9, h⟩ := ab_g h
      obtain ⟨r11, σ12, e10, h⟩ := ab_2 h
      have fr := fun (k : Int) (hk : nf75_X7_set k) => (congrFun (congrFun (u_X7_in e10) 75) k).trans (fr k hk)
      rcases ab_i h with ⟨c13, h⟩ | ⟨c13, h⟩
      · obtain ⟨r15, σ16, e14, h⟩ := ab_2 h
        have fr := fun (k : Int) (hk : nf75_X7_set k) => (v75_X7_found e14 k (by unfold nf75_X7_set at hk; unfold nf75_X7_found; omega)).trans (fr k hk)
        obtain ⟨q1, q2⟩ := ab_r2 h
        exact fun k hk => (congrFun (congrFun q2.symm 75) k).trans (fr k hk)
      · obtain ⟨r18, σ19, e17, h⟩ := ab_2 h
        have fr := fun (k : Int) (hk : nf75_X7_set k) => (congrFun (congrFun (u_X7_cut e17) 75) k).trans (fr k hk)
        obtain ⟨g20, h⟩ := ab_g h
        obtain ⟨σ21, e22, h⟩ := ab_1 h
        have fr := fun (k : Int) (hk : nf75_X7_set k) => (congrFun (ab_fu e22 (show 75 ≠ 78 by omega)) k).trans (fr k hk)
        obtain ⟨r24, σ25, e23, h⟩ := ab_2 h
        have fr := fun (k : Int) (hk : nf75_X7_set k) => (v75_X7_well e23 k (by unfold nf75_X7_set at hk; unfold nf75_X7_well; omega)).trans (fr k hk)
        obtain ⟨q1, q2⟩ := ab_r2 h
        exact fun k hk => (congrFun (congrFun q2.symm 75) k).trans (fr k hk)
    · obtain ⟨r27, σ28, e26, h⟩ := ab_2 h
      have fr := fun (k : Int) (hk : nf75_X7_set k) => (v75_X7_found e26 k (by unfold nf75_X7_set at hk; unfold nf75_X7_found; omega)).trans (fr k hk)
      obtain ⟨q1, q2⟩ := ab_r2 h
      exact fun k hk => (congrFun (congrFun q2.symm 75) k).trans (fr k hk)
def nf75_X7_copy (k : Int) : Prop := k ≠ 4
theorem v75b_X7_copy_129 {n : Nat} {kh129 : Int → Int → Int → Int → am_Mem → Option (Int × am_Mem)} {x3 : Int} {x4 : Int} {x5 : Int} {x6 : Int} {σ σr : am_Mem} {rr : Int} (hk129 : ∀ (y3 : Int) (y4 : Int) (y5 : Int) (y6 : Int) (σ : am_Mem), kh129 y3 y4 y5 y6 σ = some (rr, σr) → ∀ k : Int, nf75_X7_copy k → σr 75 k = σ 75 k) (h : fb_X7_copy_129 n kh129 x3 x4 x5 x6 σ = some (rr, σr)) : ∀ k : Int, nf75_X7_copy k → σr 75 k = σ 75 k := by
  unfold fb_X7_copy_129 at h
  have fr : ∀ k : Int, nf75_X7_copy k → σ 75 k = σ 75 k := fun _ _ => rfl
  rcases ab_i h with ⟨c39, h⟩ | ⟨c39, h⟩
  · obtain ⟨g40, h⟩ := ab_g h
    obtain ⟨g41, h⟩ := ab_g h
    obtain ⟨σ42, e43, h⟩ := ab_1 h
    have fr := fun (k : Int) (hk : nf75_X7_copy k) => (congrFun (ab_fu e43 (show 75 ≠ 78 by omega)) k).trans (fr k hk)
    exact fun k hk => (hk129 _ _ _ _ _ h k hk).trans (fr k hk)
  · obtain ⟨r45, σ46, e44, h⟩ := ab_2 h
    have fr := fun (k : Int) (hk : nf75_X7_copy k) => (v75_X7_well e44 k (by unfold nf75_X7_copy at hk; unfold nf75_X7_well; omega)).trans (fr k hk)
    obtain ⟨q1, q2⟩ := ab_r2 h
    exact fun k hk => (congrFun (congrFun q2.symm 75) k).trans (fr k hk)
theorem v75l_X7_copy_129 {n : Nat} {σr : am_Mem} {rr : Int} : ∀ (m : Nat) (x3 : Int) (x4 : Int) (x5 : Int) (x6 : Int) (σ : am_Mem), fl_X7_copy_129 n m x3 x4 x5 x6 σ = some (rr, σr) → ∀ k : Int, nf75_X7_copy k → σr 75 k = σ 75 k := by
  intro m
  induction m with
  | zero => intro x3 x4 x5 x6 σ h; cases h
  | succ m ih =>
    intro x3 x4 x5 x6 σ h
    exact v75b_X7_copy_129 (fun x3 x4 x5 x6 σ h => ih x3 x4 x5 x6 σ h) h
theorem v75b_X7_copy_92 {n : Nat} {kh92 : Int → Int → Int → Int → Int → Int → am_Mem → Option (Int × am_Mem)} {x1 : Int} {x2 : Int} {x3 : Int} {x4 : Int} {x5 : Int} {x6 : Int} {σ σr : am_Mem} {rr : Int} (hk92 : ∀ (y1 : Int) (y2 : Int) (y3 : Int) (y4 : Int) (y5 : Int) (y6 : Int) (σ : am_Mem), kh92 y1 y2 y3 y4 y5 y6 σ = some (rr, σr) → ∀ k : Int, nf75_X7_copy k → σr 75 k = σ 75 k) (h : fb_X7_copy_92 n kh92 x1 x2 x3 x4 x5 x6 σ = some (rr, σr)) : ∀ k : Int, nf75_X7_copy k → σr 75 k = σ 75 k := by
  unfold fb_X7_copy_92 at h
  have fr : ∀ k : Int, nf75_X7_copy k → σ 75 k = σ 75 k := fun _ _ => rfl
  rcases ab_i h with ⟨c34, h⟩ | ⟨c34, h⟩
  · obtain ⟨g35, h⟩ := ab_g h
    obtain ⟨g36, h⟩ := ab_g h
    obtain ⟨σ37, e38, h⟩ := ab_1 h
    have fr := fun (k : Int) (hk : nf75_X7_copy k) => (congrFun (ab_fu e38 (show 75 ≠ 79 by omega)) k).trans (fr k hk)
    exact fun k hk => (hk92 _ _ _ _ _ _ _ h k hk).trans (fr k hk)
  · exact fun k hk => (v75l_X7_copy_129 n _ _ _ _ _ h k hk).trans (fr k hk)
theorem v75l_X7_copy_92 {n : Nat} {σr : am_Mem} {rr : Int} : ∀ (m : Nat) (x1 : Int) (x2 : Int) (x3 : Int) (x4 : Int) (x5 : Int) (x6 : Int) (σ : am_Mem), fl_X7_copy_92 n m x1 x2 x3 x4 x5 x6 σ = some (rr, σr) → ∀ k : Int, nf75_X7_copy k → σr 75 k = σ 75 k := by
  intro m
  induction m with
  | zero => intro x1 x2 x3 x4 x5 x6 σ h; cases h
  | succ m ih =>
    intro x1 x2 x3 x4 x5 x6 σ h
    exact v75b_X7_copy_92 (fun x1 x2 x3 x4 x5 x6 σ h => ih x1 x2 x3 x4 x5 x6 σ h) h
theorem v75_X7_copy {n : Nat} {p1 : Int} {p2 : Int} {p3 : Int} {p4 : Int} {p5 : Int} {σ σr : am_Mem} {rr : Int} (h : f_X7_copy n p1 p2 p3 p4 p5 σ = some (rr, σr)) : ∀ k : Int, nf75_X7_copy k → σr 75 k = σ 75 k := by
  unfold f_X7_copy at h
  have fr : ∀ k : Int, nf75_X7_copy k → σ 75 k = σ 75 k := fun _ _ => rfl
  obtain ⟨r2, σ3, e1, h⟩ := ab_2 h
  have fr := fun (k : Int) (hk : nf75_X7_copy k) => (congrFun (congrFun (u_X7_isRow e1) 75) k).trans (fr k hk)
  rcases ab_i h with ⟨c4, h⟩ | ⟨c4, h⟩
  · obtain ⟨q1, q2⟩ := ab_r2 h
    exact fun k hk => (congrFun (congrFun q2.symm 75) k).trans (fr k hk)
  · obtain ⟨r6, σ7, e5, h⟩ := ab_2 h
    have fr := fun (k : Int) (hk : nf75_X7_copy k) => (congrFun (congrFun (u_X7_isRow e5) 75) k).trans (fr k hk)
    rcases ab_i h with ⟨c8, h⟩ | ⟨c8, h⟩
    · obtain ⟨q1, q2⟩ := ab_r2 h
      exact fun k hk => (congrFun (congrFun q2.symm 75) k).trans (fr k hk)
    · obtain ⟨r10, σ11, e9, h⟩ := ab_2 h
      have fr := fun (k : Int) (hk : nf75_X7_copy k) => (congrFun (congrFun (u_X7_isMissing e9) 75) k).trans (fr k hk)
      rcases ab_i h with ⟨c12, h⟩ | ⟨c12, h⟩
      · obtain ⟨r14, σ15, e13, h⟩ := ab_2 h
        have fr := fun (k : Int) (hk : nf75_X7_copy k) => (congrFun (congrFun (u_X7_isMissing e13) 75) k).trans (fr k hk)
        rcases ab_i h with ⟨c16, h⟩ | ⟨c16, h⟩
        · obtain ⟨g17, h⟩ := ab_g h
          obtain ⟨g18, h⟩ := ab_g h
          rcases ab_i h with ⟨c19, h⟩ | ⟨c19, h⟩
          · obtain ⟨r21, σ22, e20, h⟩ := ab_2 h
            have fr := fun (k : Int) (hk : nf75_X7_copy k) => (congrFun (congrFun (u_X7_isPart e20) 75) k).trans (fr k hk)
            rcases ab_i h with ⟨c23, h⟩ | ⟨c23, h⟩
            · obtain ⟨r25, σ26, e24, h⟩ := ab_2 h
              have fr := fun (k : Int) (hk : nf75_X7_copy k) => (v75_X7_found e24 k (by unfold nf75_X7_copy at hk; unfold nf75_X7_found; omega)).trans (fr k hk)
              obtain ⟨q1, q2⟩ := ab_r2 h
              exact fun k hk => (congrFun (congrFun q2.symm 75) k).trans (fr k hk)
            · obtain ⟨r28, σ29, e27, h⟩ := ab_2 h
              have fr := fun (k : Int) (hk : nf75_X7_copy k) => (congrFun (congrFun (u_X7_isPart e27) 75) k).trans (fr k hk)
              rcases ab_i h with ⟨c30, h⟩ | ⟨c30, h⟩
              · obtain ⟨r32, σ33, e31, h⟩ := ab_2 h
                have fr := fun (k : Int) (hk : nf75_X7_copy k) => (v75_X7_found e31 k (by unfold nf75_X7_copy at hk; unfold nf75_X7_found; omega)).trans (fr k hk)
                obtain ⟨q1, q2⟩ := ab_r2 h
                exact fun k hk => (congrFun (congrFun q2.symm 75) k).trans (fr k hk)
              · exact fun k hk => (v75l_X7_copy_92 n _ _ _ _ _ _ _ h k hk).trans (fr k hk)
          · obtain ⟨r48, σ49, e47, h⟩ := ab_2 h
            have fr := fun (k : Int) (hk : nf75_X7_copy k) => (v75_X7_found e47 k (by unfold nf75_X7_copy at hk; unfold nf75_X7_found; omega)).trans (fr k hk)
            obtain ⟨q1, q2⟩ := ab_r2 h
            exact fun k hk => (congrFun (congrFun q2.symm 75) k).trans (fr k hk)
        · obtain ⟨r51, σ52, e50, h⟩ := ab_2 h
          have fr := fun (k : Int) (hk : nf75_X7_copy k) => (v75_X7_found e50 k (by unfold nf75_X7_copy at hk; unfold nf75_X7_found; omega)).trans (fr k hk)
          obtain ⟨q1, q2⟩ := ab_r2 h
          exact fun k hk => (congrFun (congrFun q2.symm 75) k).trans (fr k hk)
      · obtain ⟨r54, σ55, e53, h⟩ := ab_2 h
        have fr := fun (k : Int) (hk : nf75_X7_copy k) => (v75_X7_found e53 k (by unfold nf75_X7_copy at hk; unfold nf75_X7_found; omega)).trans (fr k hk)
        obtain ⟨q1, q2⟩ := ab_r2 h
        exact fun k hk => (congrFun (congrFun q2.symm 75) k).trans (fr k hk)
def nf75_X7_drop (k : Int) : Prop := k ≠ 4
theorem v75_X7_drop {n : Nat} {p1 : Int} {σ σr : am_Mem} {rr : Int} (h : f_X7_drop n p1 σ = some (rr, σr)) : ∀ k : Int, nf75_X7_drop k → σr 75 k = σ 75 k := by
  unfold f_X7_drop at h
  have fr : ∀ k : Int, nf75_X7_drop k → σ 75 k = σ 75 k := fun _ _ => rfl
  obtain ⟨r2, σ3, e1, h⟩ := ab_2 h
  have fr := fun (k : Int) (hk : nf75_X7_drop k) => (congrFun (congrFun (u_X7_isRow e1) 75) k).trans (fr k hk)
  rcases ab_i h with ⟨c4, h⟩ | ⟨c4, h⟩
  · obtain ⟨q1, q2⟩ := ab_r2 h
    exact fun k hk => (congrFun (congrFun q2.symm 75) k).trans (fr k hk)
  · obtain ⟨r6, σ7, e5, h⟩ := ab_2 h
    have fr := fun (k : Int) (hk : nf75_X7_drop k) => (congrFun (congrFun (u_X7_isMissing e5) 75) k).trans (fr k hk)
    rcases ab_i h with ⟨c8, h⟩ | ⟨c8, h⟩
    · obtain ⟨g9, h⟩ := ab_g h
      obtain ⟨σ10, e11, h⟩ := ab_1 h
      have fr := fun (k : Int) (hk : nf75_X7_drop k) => (congrFun (ab_fu e11 (show 75 ≠ 76 by omega)) k).trans (fr k hk)
      obtain ⟨r13, σ14, e12, h⟩ := ab_2 h
      have fr := fun (k : Int) (hk : nf75_X7_drop k) => (v75_X7_well e12 k (by unfold nf75_X7_drop at hk; unfold nf75_X7_well; omega)).trans (fr k hk)
      obtain ⟨q1, q2⟩ := ab_r2 h
      exact fun k hk => (congrFun (congrFun q2.symm 75) k).trans (fr k hk)
    · obtain ⟨r16, σ17, e15, h⟩ := ab_2 h
      have fr := fun (k : Int) (hk : nf75_X7_drop k) => (v75_X7_found e15 k (by unfold nf75_X7_drop at hk; unfold nf75_X7_found; omega)).trans (fr k hk)
      obtain ⟨q1, q2⟩ := ab_r2 h
      exact fun k hk => (congrFun (congrFun q2.symm 75) k).trans (fr k hk)
def nf75_X7_feed (k : Int) : Prop := k ≠ 6
theorem v75_X7_feed {n : Nat} {p1 : Int} {σ σr : am_Mem} {rr : Int} (h : f_X7_feed n p1 σ = some (rr, σr)) : ∀ k : Int, nf75_X7_feed k → σr 75 k = σ 75 k := by
  unfold f_X7_feed at h
  have fr : ∀ k : Int, nf75_X7_feed k → σ 75 k = σ 75 k := fun _ _ => rfl
  obtain ⟨r2, σ3, e1, h⟩ := ab_2 h
  have fr := fun (k : Int) (hk : nf75_X7_feed k) => (congrFun (congrFun (u_X7_in e1) 75) k).trans (fr k hk)
  rcases ab_i h with ⟨c4, h⟩ | ⟨c4, h⟩
  · obtain ⟨q1, q2⟩ := ab_r2 h
    exact fun k hk => (congrFun (congrFun q2.symm 75) k).trans (fr k hk)
  · rcases ab_i h with ⟨c5, h⟩ | ⟨c5, h⟩
    · obtain ⟨q1, q2⟩ := ab_r2 h
      exact fun k hk => (congrFun (congrFun q2.symm 75) k).trans (fr k hk)
    · obtain ⟨g6, h⟩ := ab_g h
      obtain ⟨σ7, e8, h⟩ := ab_1 h
      have fr := fun (k : Int) (hk : nf75_X7_feed k) => (congrFun (ab_fu e8 (show 75 ≠ 80 by omega)) k).trans (fr k hk)
      obtain ⟨σ9, e10, h⟩ := ab_1 h
      have fr := fun (k : Int) (hk : nf75_X7_feed k) => (ab_fuj e10 (show k ≠ 6 by unfold nf75_X7_feed at hk; omega)).trans (fr k hk)
      obtain ⟨q1, q2⟩ := ab_r2 h
      exact fun k hk => (congrFun (congrFun q2.symm 75) k).trans (fr k hk)
def nf75_X7_advances (k : Int) : Prop := k ≠ 9 ∧ k ≠ 10 ∧ k ≠ 11 ∧ k ≠ 12
theorem v75b_X7_advances_38 {n : Nat} {kh38 : am_Mem → Option am_Mem} {σ σr : am_Mem} (hk38 : ∀ (σ : am_Mem), kh38 σ = some σr → ∀ k : Int, nf75_X7_advances k → σr 75 k = σ 75 k) (h : fb_X7_advances_38 n kh38 σ = some σr) : ∀ k : Int, nf75_X7_advances k → σr 75 k = σ 75 k := by
  unfold fb_X7_advances_38 at h
  have fr : ∀ k : Int, nf75_X7_advances k → σ 75 k = σ 75 k := fun _ _ => rfl
  obtain ⟨r57, σ58, e56, h⟩ := ab_2 h
  have fr := fun (k : Int) (hk : nf75_X7_advances k) => (congrFun (congrFun (u_X7_byteAt e56) 75) k).trans (fr k hk)
  obtain ⟨r60, σ61, e59, h⟩ := ab_2 h
  have fr := fun (k : Int) (hk : nf75_X7_advances k) => (congrFun (congrFun (u_X7_in e59) 75) k).trans (fr k hk)
  rcases ab_i h with ⟨c62, h⟩ | ⟨c62, h⟩
  · rcases ab_i h with ⟨c63, h⟩ | ⟨c63, h⟩
    · obtain ⟨σ64, e65, h⟩ := ab_1 h
      have fr := fun (k : Int) (hk : nf75_X7_advances k) => (ab_fuj e65 (show k ≠ 11 by unfold nf75_X7_advances at hk; omega)).trans (fr k hk)
      have q2 := ab_r1 h
      exact fun k hk => (congrFun (congrFun q2.symm 75) k).trans (fr k hk)
    · obtain ⟨σ66, e67, h⟩ := ab_1 h
      have fr := fun (k : Int) (hk : nf75_X7_advances k) => (ab_fuj e67 (show k ≠ 11 by unfold nf75_X7_advances at hk; omega)).trans (fr k hk)
      have q2 := ab_r1 h
      exact fun k hk => (congrFun (congrFun q2.symm 75) k).trans (fr k hk)
  · rcases ab_i h with ⟨c68, h⟩ | ⟨c68, h⟩
    · obtain ⟨r70, σ71, e69, h⟩ := ab_2 h
      have fr := fun (k : Int) (hk : nf75_X7_advances k) => (congrFun (congrFun (u_X7_byteAt e69) 75) k).trans (fr k hk)
      obtain ⟨σ72, e73, h⟩ := ab_1 h
      have fr := fun (k : Int) (hk : nf75_X7_advances k) => (ab_fuj e73 (show k ≠ 12 by unfold nf75_X7_advances at hk; omega)).trans (fr k hk)
      obtain ⟨σ74, e75, h⟩ := ab_1 h
      have fr := fun (k : Int) (hk : nf75_X7_advances k) => (ab_fuj e75 (show k ≠ 9 by unfold nf75_X7_advances at hk; omega)).trans (fr k hk)
      exact fun k hk => (hk38 _ h k hk).trans (fr k hk)
    · obtain ⟨σ76, e77, h⟩ := ab_1 h
      have fr := fun (k : Int) (hk : nf75_X7_advances k) => (ab_fuj e77 (show k ≠ 12 by unfold nf75_X7_advances at hk; omega)).trans (fr k hk)
      obtain ⟨σ78, e79, h⟩ := ab_1 h
      have fr := fun (k : Int) (hk : nf75_X7_advances k) => (ab_fuj e79 (show k ≠ 9 by unfold nf75_X7_advances at hk; omega)).trans (fr k hk)
      exact fun k hk => (hk38 _ h k hk).trans (fr k hk)
theorem v75l_X7_advances_38 {n : Nat} {σr : am_Mem} : ∀ (m : Nat) (σ : am_Mem), fl_X7_advances_38 n m σ = some σr → ∀ k : Int, nf75_X7_advances k → σr 75 k = σ 75 k := by
  intro m
  induction m with
  | zero => intro σ h; cases h
  | succ m ih =>
    intro σ h
    exact v75b_X7_advances_38 (fun σ h => ih σ h) h
theorem v75_X7_advances {n : Nat} {σ σr : am_Mem} (h : f_X7_advances n σ = some σr) : ∀ k : Int, nf75_X7_advances k → σr 75 k = σ 75 k := by
  unfold f_X7_advances at h
  have fr : ∀ k : Int, nf75_X7_advances k → σ 75 k = σ 75 k := fun _ _ => rfl
  obtain ⟨σ1, e2, h⟩ := ab_1 h
  have fr := fun (k : Int) (hk : nf75_X7_advances k) => (ab_fuj e2 (show k ≠ 10 by unfold nf75_X7_advances at hk; omega)).trans (fr k hk)
  obtain ⟨r4, σ5, e3, h⟩ := ab_2 h
  have fr := fun (k : Int) (hk : nf75_X7_advances k) => (congrFun (congrFun (u_X7_byteAt e3) 75) k).trans (fr k hk)
  obtain ⟨σ6, e7, h⟩ := ab_1 h
  have fr := fun (k : Int) (hk : nf75_X7_advances k) => (ab_fuj e7 (show k ≠ 12 by unfold nf75_X7_advances at hk; omega)).trans (fr k hk)
  obtain ⟨r9, σ10, e8, h⟩ := ab_2 h
  have fr := fun (k : Int) (hk : nf75_X7_advances k) => (congrFun (congrFun (u_X7_in e8) 75) k).trans (fr k hk)
  rcases ab_i h with ⟨c11, h⟩ | ⟨c11, h⟩
  · rcases ab_i h with ⟨c12, h⟩ | ⟨c12, h⟩
    · obtain ⟨σ13, e14, h⟩ := ab_1 h
      have fr := fun (k : Int) (hk : nf75_X7_advances k) => (ab_fuj e14 (show k ≠ 11 by unfold nf75_X7_advances at hk; omega)).trans (fr k hk)
      rcases ab_i h with ⟨c15, h⟩ | ⟨c15, h⟩
      · obtain ⟨σ16, e17, h⟩ := ab_1 h
        have fr := fun (k : Int) (hk : nf75_X7_advances k) => (ab_fuj e17 (show k ≠ 9 by unfold nf75_X7_advances at hk; omega)).trans (fr k hk)
        have q2 := ab_r1 h
        exact fun k hk => (congrFun (congrFun q2.symm 75) k).trans (fr k hk)
      · obtain ⟨σ18, e19, h⟩ := ab_1 h
        have fr := fun (k : Int) (hk : nf75_X7_advances k) => (ab_fuj e19 (show k ≠ 9 by unfold nf75_X7_advances at hk; omega)).trans (fr k hk)
        have q2 := ab_r1 h
        exact fun k hk => (congrFun (congrFun q2.symm 75) k).trans (fr k hk)
    · obtain ⟨r21, σ22, e20, h⟩ := ab_2 h
      have fr := fun (k : Int) (hk : nf75_X7_advances k) => (congrFun (congrFun (u_X7_in e20) 75) k).trans (fr k hk)
      rcases ab_i h with ⟨c23, h⟩ | ⟨c23, h⟩
      · rcases ab_i h with ⟨c24, h⟩ | ⟨c24, h⟩
        · obtain ⟨σ25, e26, h⟩ := ab_1 h
          have fr := fun (k : Int) (hk : nf75_X7_advances k) => (ab_fuj e26 (show k ≠ 11 by unfold nf75_X7_advances at hk; omega)).trans (fr k hk)
          rcases ab_i h with ⟨c27, h⟩ | ⟨c27, h⟩
          · obtain ⟨σ28, e29, h⟩ := ab_1 h
            have fr := fun (k : Int) (hk : nf75_X7_advances k) => (ab_fuj e29 (show k ≠ 9 by unfold nf75_X7_advances at hk; omega)).trans (fr k hk)
            have q2 := ab_r1 h
            exact fun k hk => (congrFun (congrFun q2.symm 75) k).trans (fr k hk)
          · obtain ⟨σ30, e31, h⟩ := ab_1 h
            have fr := fun (k : Int) (hk : nf75_X7_advances k) => (ab_fuj e31 (show k ≠ 9 by unfold nf75_X7_advances at hk; omega)).trans (fr k hk)
            have q2 := ab_r1 h
            exact fun k hk => (congrFun (congrFun q2.symm 75) k).trans (fr k hk)
        · rcases ab_i h with ⟨c32, h⟩ | ⟨c32, h⟩
          · obtain ⟨σ33, e34, h⟩ := ab_1 h
            have fr := fun (k : Int) (hk : nf75_X7_advances k) => (ab_fuj e34 (show k ≠ 11 by unfold nf75_X7_advances at hk; omega)).trans (fr k hk)
            rcases ab_i h with ⟨c35, h⟩ | ⟨c35, h⟩
            · obtain ⟨σ36, e37, h⟩ := ab_1 h
              have fr := fun (k : Int) (hk : nf75_X7_advances k) => (ab_fuj e37 (show k ≠ 9 by unfold nf75_X7_advances at hk; omega)).trans (fr k hk)
              have q2 := ab_r1 h
              exact fun k hk => (congrFun (congrFun q2.symm 75) k).trans (fr k hk)
            · obtain ⟨σ38, e39, h⟩ := ab_1 h
              have fr := fun (k : Int) (hk : nf75_X7_advances k) => (ab_fuj e39 (show k ≠ 9 by unfold nf75_X7_advances at hk; omega)).trans (fr k hk)
              have q2 := ab_r1 h
              exact fun k hk => (congrFun (congrFun q2.symm 75) k).trans (fr k hk)
          · obtain ⟨σ40, e41, h⟩ := ab_1 h
            have fr := fun (k : Int) (hk : nf75_X7_advances k) => (ab_fuj e41 (show k ≠ 11 by unfold nf75_X7_advances at hk; omega)).trans (fr k hk)
            rcases ab_i h with ⟨c42, h⟩ | ⟨c42, h⟩
            · obtain ⟨σ43, e44, h⟩ := ab_1 h
              have fr := fun (k : Int) (hk : nf75_X7_advances k) => (ab_fuj e44 (show k ≠ 9 by unfold nf75_X7_advances at hk; omega)).trans (fr k hk)
              have q2 := ab_r1 h
              exact fun k hk => (congrFun (congrFun q2.symm 75) k).trans (fr k hk)
            · obtain ⟨σ45, e46, h⟩ := ab_1 h
              have fr := fun (k : Int) (hk : nf75_X7_advances k) => (ab_fuj e46 (show k ≠ 9 by unfold nf75_X7_advances at hk; omega)).trans (fr k hk)
              have q2 := ab_r1 h
              exact fun k hk => (congrFun (congrFun q2.symm 75) k).trans (fr k hk)
      · obtain ⟨σ47, e48, h⟩ := ab_1 h
        have fr := fun (k : Int) (hk : nf75_X7_advances k) => (ab_fuj e48 (show k ≠ 11 by unfold nf75_X7_advances at hk; omega)).trans (fr k hk)
        rcases ab_i h with ⟨c49, h⟩ | ⟨c49, h⟩
        · obtain ⟨σ50, e51, h⟩ := ab_1 h
          have fr := fun (k : Int) (hk : nf75_X7_advances k) => (ab_fuj e51 (show k ≠ 9 by unfold nf75_X7_advances at hk; omega)).trans (fr k hk)
          have q2 := ab_r1 h
          exact fun k hk => (congrFun (congrFun q2.symm 75) k).trans (fr k hk)
        · obtain ⟨σ52, e53, h⟩ := ab_1 h
          have fr := fun (k : Int) (hk : nf75_X7_advances k) => (ab_fuj e53 (show k ≠ 9 by unfold nf75_X7_advances at hk; omega)).trans (fr k hk)
          have q2 := ab_r1 h
          exact fun k hk => (congrFun (congrFun q2.symm 75) k).trans (fr k hk)
  · obtain ⟨σ54, e55, h⟩ := ab_1 h
    have fr := fun (k : Int) (hk : nf75_X7_advances k) => (ab_fuj e55 (show k ≠ 12 by unfold nf75_X7_advances at hk; omega)).trans (fr k hk)
    exact fun k hk => (v75l_X7_advances_38 n _ h k hk).trans (fr k hk)
def nf75_X7_takes (k : Int) : Prop := k ≠ 7 ∧ k ≠ 8 ∧ k ≠ 9 ∧ k ≠ 10 ∧ k ≠ 11 ∧ k ≠ 12
theorem v75_X7_takes {n : Nat} {p1 : Int} {p2 : Int} {σ σr : am_Mem} {rr : Int} (h : f_X7_takes n p1 p2 σ = some (rr, σr)) : ∀ k : Int, nf75_X7_takes k → σr 75 k = σ 75 k := by
  unfold f_X7_takes at h
  have fr : ∀ k : Int, nf75_X7_takes k → σ 75 k = σ 75 k := fun _ _ => rfl
  obtain ⟨r2, σ3, e1, h⟩ := ab_2 h
  have fr := fun (k : Int) (hk : nf75_X7_takes k) => (congrFun (congrFun (u_X7_isWell e1) 75) k).trans (fr k hk)
  rcases ab_i h with ⟨c4, h⟩ | ⟨c4, h⟩
  · obtain ⟨q1, q2⟩ := ab_r2 h
    exact fun k hk => (congrFun (congrFun q2.symm 75) k).trans (fr k hk)
  · rcases ab_i h with ⟨c5, h⟩ | ⟨c5, h⟩
    · obtain ⟨σ6, e7, h⟩ := ab_1 h
      have fr := fun (k : Int) (hk : nf75_X7_takes k) => (ab_fuj e7 (show k ≠ 8 by unfold nf75_X7_takes at hk; omega)).trans (fr k hk)
      obtain ⟨σ8, e9, h⟩ := ab_1 h
      have fr := fun (k : Int) (hk : nf75_X7_takes k) => (ab_fuj e9 (show k ≠ 7 by unfold nf75_X7_takes at hk; omega)).trans (fr k hk)
      obtain ⟨q1, q2⟩ := ab_r2 h
      exact fun k hk => (congrFun (congrFun q2.symm 75) k).trans (fr k hk)
    · obtain ⟨σ12, e10, h⟩ := ab_1 h
      have fr := fun (k : Int) (hk : nf75_X7_takes k) => (v75_X7_advances e10 k (by unfold nf75_X7_takes at hk; unfold nf75_X7_advances; omega)).trans (fr k hk)
      obtain ⟨q1, q2⟩ := ab_r2 h
      exact fun k hk => (congrFun (congrFun q2.symm 75) k).trans (fr k hk)
def nf75_X7_figure (k : Int) : Prop := k ≠ 7 ∧ k ≠ 8 ∧ k ≠ 9 ∧ k ≠ 10 ∧ k ≠ 11 ∧ k ≠ 12
theorem v75_X7_figure {n : Nat} {p1 : Int} {p2 : Int} {σ σr : am_Mem} {rr : Int} (h : f_X7_figure n p1 p2 σ = some (rr, σr)) : ∀ k : Int, nf75_X7_figure k → σr 75 k = σ 75 k := by
  unfold f_X7_figure at h
  have fr : ∀ k : Int, nf75_X7_figure k → σ 75 k = σ 75 k := fun _ _ => rfl
  obtain ⟨r2, σ3, e1, h⟩ := ab_2 h
  have fr := fun (k : Int) (hk : nf75_X7_figure k) => (congrFun (congrFun (u_X7_isWell e1) 75) k).trans (fr k hk)
  rcases ab_i h with ⟨c4, h⟩ | ⟨c4, h⟩
  · obtain ⟨r6, σ7, e5, h⟩ := ab_2 h
    have fr := fun (k : Int) (hk : nf75_X7_figure k) => (congrFun (congrFun (u_X7_in e5) 75) k).trans (fr k hk)
    obtain ⟨r9, σ10, e8, h⟩ := ab_2 h
    have fr := fun (k : Int) (hk : nf75_X7_figure k) => (v75_X7_takes e8 k (by unfold nf75_X7_figure at hk; unfold nf75_X7_takes; omega)).trans (fr k hk)
    obtain ⟨q1, q2⟩ := ab_r2 h
    exact fun k hk => (congrFun (congrFun q2.symm 75) k).trans (fr k hk)
  · rcases ab_i h with ⟨c11, h⟩ | ⟨c11, h⟩
    · obtain ⟨r13, σ14, e12, h⟩ := ab_2 h
      have fr := fun (k : Int) (hk : nf75_X7_figure k) => (congrFun (congrFun (u_X7_in e12) 75) k).trans (fr k hk)
      obtain ⟨r16, σ17, e15, h⟩ := ab_2 h
      have fr := fun (k : Int) (hk : nf75_X7_figure k) => (v75_X7_takes e15 k (by unfold nf75_X7_figure at hk; unfold nf75_X7_takes; omega)).trans (fr k hk)
      obtain ⟨q1, q2⟩ := ab_r2 h
      exact fun k hk => (congrFun (congrFun q2.symm 75) k).trans (fr k hk)
    · obtain ⟨r19, σ20, e18, h⟩ := ab_2 h
      have fr := fun (k : Int) (hk : nf75_X7_figure k) => (v75_X7_takes e18 k (by unfold nf75_X7_figure at hk; unfold nf75_X7_takes; omega)).trans (fr k hk)
      obtain ⟨q1, q2⟩ := ab_r2 h
      exact fun k hk => (congrFun (congrFun q2.symm 75) k).trans (fr k hk)
def nf75_X7_follows (k : Int) : Prop := k ≠ 7 ∧ k ≠ 8 ∧ k ≠ 9 ∧ k ≠ 10 ∧ k ≠ 11 ∧ k ≠ 12
theorem v75_X7_follows {n : Nat} {p1 : Int} {p2 : Int} {σ σr : am_Mem} {rr : Int} (h : f_X7_follows n p1 p2 σ = some (rr, σr)) : ∀ k : Int, nf75_X7_follows k → σr 75 k = σ 75 k := by
  unfold f_X7_follows at h
  have fr : ∀ k : Int, nf75_X7_follows k → σ 75 k = σ 75 k := fun _ _ => rfl
  rcases ab_i h with ⟨c1, h⟩ | ⟨c1, h⟩
  · obtain ⟨r3, σ4, e2, h⟩ := ab_2 h
    have fr := fun (k : Int) (hk : nf75_X7_follows k) => (v75_X7_takes e2 k (by unfold nf75_X7_follows at hk; unfold nf75_X7_takes; omega)).trans (fr k hk)
    obtain ⟨r6, σ7, e5, h⟩ := ab_2 h
    have fr := fun (k : Int) (hk : nf75_X7_follows k) => (v75_X7_figure e5 k (by unfold nf75_X7_follows at hk; unfold nf75_X7_figure; omega)).trans (fr k hk)
    obtain ⟨q1, q2⟩ := ab_r2 h
    exact fun k hk => (congrFun (congrFun q2.symm 75) k).trans (fr k hk)
  · obtain ⟨r9, σ10, e8, h⟩ := ab_2 h
    have fr := fun (k : Int) (hk : nf75_X7_follows k) => (v75_X7_takes e8 k (by unfold nf75_X7_follows at hk; unfold nf75_X7_takes; omega)).trans (fr k hk)
    obtain ⟨r12, σ13, e11, h⟩ := ab_2 h
    have fr := fun (k : Int) (hk : nf75_X7_follows k) => (v75_X7_figure e11 k (by unfold nf75_X7_follows at hk; unfold nf75_X7_figure; omega)).trans (fr k hk)
    obtain ⟨q1, q2⟩ := ab_r2 h
    exact fun k hk => (congrFun (congrFun q2.symm 75) k).trans (fr k hk)
def nf75_X7_readsCorner (k : Int) : Prop := k ≠ 7 ∧ k ≠ 8 ∧ k ≠ 9 ∧ k ≠ 10 ∧ k ≠ 11 ∧ k ≠ 12
theorem v75b_X7_readsCorner_91 {n : Nat} {x1 : Int} {x2 : Int} {x3 : Int} {x4 : Int} {s0 : Int} {σ σr : am_Mem} (h : fb_X7_readsCorner_91 n x1 x2 x3 x4 s0 σ = some σr) : ∀ k : Int, nf75_X7_readsCorner k → σr 75 k = σ 75 k := by
  unfold fb_X7_readsCorner_91 at h
  have fr : ∀ k : Int, nf75_X7_readsCorner k → σ 75 k = σ 75 k := fun _ _ => rfl
  obtain ⟨r17, σ18, e16, h⟩ := ab_2 h
  have fr := fun (k : Int) (hk : nf75_X7_readsCorner k) => (v75_X7_takes e16 k (by unfold nf75_X7_readsCorner at hk; unfold nf75_X7_takes; omega)).trans (fr k hk)
  obtain ⟨r20, σ21, e19, h⟩ := ab_2 h
  have fr := fun (k : Int) (hk : nf75_X7_readsCorner k) => (congrFun (congrFun (u_X7_isWell e19) 75) k).trans (fr k hk)
  rcases ab_i h with ⟨c22, h⟩ | ⟨c22, h⟩
  · have q2 := ab_r1 h
    exact fun k hk => (congrFun (congrFun q2.symm 75) k).trans (fr k hk)
  · obtain ⟨g23, h⟩ := ab_g h
    obtain ⟨σ24, e25, h⟩ := ab_1 h
    have fr := fun (k : Int) (hk : nf75_X7_readsCorner k) => (congrFun (ab_fu e25 (show 75 ≠ 82 by omega)) k).trans (fr k hk)
    obtain ⟨g26, h⟩ := ab_g h
    obtain ⟨σ27, e28, h⟩ := ab_1 h
    have fr := fun (k : Int) (hk : nf75_X7_readsCorner k) => (congrFun (ab_fu e28 (show 75 ≠ 82 by omega)) k).trans (fr k hk)
    obtain ⟨g29, h⟩ := ab_g h
    obtain ⟨σ30, e31, h⟩ := ab_1 h
    have fr := fun (k : Int) (hk : nf75_X7_readsCorner k) => (congrFun (ab_fu e31 (show 75 ≠ 82 by omega)) k).trans (fr k hk)
    obtain ⟨σ32, e33, h⟩ := ab_1 h
    have fr := fun (k : Int) (hk : nf75_X7_readsCorner k) => (congrFun (ab_fu e33 (show 75 ≠ 82 by omega)) k).trans (fr k hk)
    have q2 := ab_r1 h
    exact fun k hk => (congrFun (congrFun q2.symm 75) k).trans (fr k hk)
theorem v75b_X7_readsCorner_57 {n : Nat} {x1 : Int} {s0 : Int} {s1 : Int} {s2 : Int} {σ σr : am_Mem} (h : fb_X7_readsCorner_57 n x1 s0 s1 s2 σ = some σr) : ∀ k : Int, nf75_X7_readsCorner k → σr 75 k = σ 75 k := by
  unfold fb_X7_readsCorner_57 at h
  have fr : ∀ k : Int, nf75_X7_readsCorner k → σ 75 k = σ 75 k := fun _ _ => rfl
  obtain ⟨r10, σ11, e9, h⟩ := ab_2 h
  have fr := fun (k : Int) (hk : nf75_X7_readsCorner k) => (v75_X7_figure e9 k (by unfold nf75_X7_readsCorner at hk; unfold nf75_X7_figure; omega)).trans (fr k hk)
  obtain ⟨r13, σ14, e12, h⟩ := ab_2 h
  have fr := fun (k : Int) (hk : nf75_X7_readsCorner k) => (v75_X7_follows e12 k (by unfold nf75_X7_readsCorner at hk; unfold nf75_X7_follows; omega)).trans (fr k hk)
  rcases ab_i h with ⟨c15, h⟩ | ⟨c15, h⟩
  · exact fun k hk => (v75b_X7_readsCorner_91 h k hk).trans (fr k hk)
  · exact fun k hk => (v75b_X7_readsCorner_91 h k hk).trans (fr k hk)
theorem v75b_X7_readsCorner_26 {n : Nat} {x1 : Int} {s0 : Int} {σ σr : am_Mem} (h : fb_X7_readsCorner_26 n x1 s0 σ = some σr) : ∀ k : Int, nf75_X7_readsCorner k → σr 75 k = σ 75 k := by
  unfold fb_X7_readsCorner_26 at h
  have fr : ∀ k : Int, nf75_X7_readsCorner k → σ 75 k = σ 75 k := fun _ _ => rfl
  obtain ⟨r6, σ7, e5, h⟩ := ab_2 h
  have fr := fun (k : Int) (hk : nf75_X7_readsCorner k) => (v75_X7_takes e5 k (by unfold nf75_X7_readsCorner at hk; unfold nf75_X7_takes; omega)).trans (fr k hk)
  rcases ab_i h with ⟨c8, h⟩ | ⟨c8, h⟩
  · exact fun k hk => (v75b_X7_readsCorner_57 h k hk).trans (fr k hk)
  · exact fun k hk => (v75b_X7_readsCorner_57 h k hk).trans (fr k hk)
theorem v75_X7_readsCorner {n : Nat} {σ σr : am_Mem} (h : f_X7_readsCorner n σ = some σr) : ∀ k : Int, nf75_X7_readsCorner k → σr 75 k = σ 75 k := by
  unfold f_X7_readsCorner at h
  have fr : ∀ k : Int, nf75_X7_readsCorner k → σ 75 k = σ 75 k := fun _ _ => rfl
  obtain ⟨r2, σ3, e1, h⟩ := ab_2 h
  have fr := fun (k : Int) (hk : nf75_X7_readsCorner k) => (congrFun (congrFun (u_X7_kindOf e1) 75) k).trans (fr k hk)
  rcases ab_i h with ⟨c4, h⟩ | ⟨c4, h⟩
  · exact fun k hk => (v75b_X7_readsCorner_26 h k hk).trans (fr k hk)
  · exact fun k hk => (v75b_X7_readsCorner_26 h k hk).trans (fr k hk)
def nf75_X7_toFigure (k : Int) : Prop := k ≠ 7 ∧ k ≠ 8 ∧ k ≠ 9 ∧ k ≠ 10 ∧ k ≠ 11 ∧ k ≠ 12
theorem v75b_X7_toFigure_22 {n : Nat} {x1 : Int} {σ σr : am_Mem} {rr : Int} (h : fb_X7_toFigure_22 n x1 σ = some (rr, σr)) : ∀ k : Int, nf75_X7_toFigure k → σr 75 k = σ 75 k := by
  unfold fb_X7_toFigure_22 at h
  have fr : ∀ k : Int, nf75_X7_toFigure k → σ 75 k = σ 75 k := fun _ _ => rfl
  obtain ⟨r6, σ7, e5, h⟩ := ab_2 h
  have fr := fun (k : Int) (hk : nf75_X7_toFigure k) => (congrFun (congrFun (u_X7_in e5) 75) k).trans (fr k hk)
  rcases ab_i h with ⟨c8, h⟩ | ⟨c8, h⟩
  · obtain ⟨r10, σ11, e9, h⟩ := ab_2 h
    have fr := fun (k : Int) (hk : nf75_X7_toFigure k) => (v75_X7_takes e9 k (by unfold nf75_X7_toFigure at hk; unfold nf75_X7_takes; omega)).trans (fr k hk)
    obtain ⟨q1, q2⟩ := ab_r2 h
    exact fun k hk => (congrFun (congrFun q2.symm 75) k).trans (fr k hk)
  · rcases ab_i h with ⟨c12, h⟩ | ⟨c12, h⟩
    · obtain ⟨r14, σ15, e13, h⟩ := ab_2 h
      have fr := fun (k : Int) (hk : nf75_X7_toFigure k) => (v75_X7_takes e13 k (by unfold nf75_X7_toFigure at hk; unfold nf75_X7_takes; omega)).trans (fr k hk)
      obtain ⟨q1, q2⟩ := ab_r2 h
      exact fun k hk => (congrFun (congrFun q2.symm 75) k).trans (fr k hk)
    · obtain ⟨r17, σ18, e16, h⟩ := ab_2 h
      have fr := fun (k : Int) (hk : nf75_X7_toFigure k) => (congrFun (congrFun (u_X7_isStreetTold e16) 75) k).trans (fr k hk)
      rcases ab_i h with ⟨c19, h⟩ | ⟨c19, h⟩
      · obtain ⟨r21, σ22, e20, h⟩ := ab_2 h
        have fr := fun (k : Int) (hk : nf75_X7_toFigure k) => (v75_X7_takes e20 k (by unfold nf75_X7_toFigure at hk; unfold nf75_X7_takes; omega)).trans (fr k hk)
        obtain ⟨q1, q2⟩ := ab_r2 h
        exact fun k hk => (congrFun (congrFun q2.symm 75) k).trans (fr k hk)
      · obtain ⟨r24, σ25, e23, h⟩ := ab_2 h
        have fr := fun (k : Int) (hk : nf75_X7_toFigure k) => (v75_X7_takes e23 k (by unfold nf75_X7_toFigure at hk; unfold nf75_X7_takes; omega)).trans (fr k hk)
        obtain ⟨q1, q2⟩ := ab_r2 h
        exact fun k hk => (congrFun (congrFun q2.symm 75) k).trans (fr k hk)
theorem v75_X7_toFigure {n : Nat} {p1 : Int} {σ σr : am_Mem} {rr : Int} (h : f_X7_toFigure n p1 σ = some (rr, σr)) : ∀ k : Int, nf75_X7_toFigure k → σr 75 k = σ 75 k := by
  unfold f_X7_toFigure at h
  have fr : ∀ k : Int, nf75_X7_toFigure k → σ 75 k = σ 75 k := fun _ _ => rfl
  obtain ⟨r2, σ3, e1, h⟩ := ab_2 h
  have fr := fun (k : Int) (hk : nf75_X7_toFigure k) => (congrFun (congrFun (u_X7_isWell e1) 75) k).trans (fr k hk)
  rcases ab_i h with ⟨c4, h⟩ | ⟨c4, h⟩
  · exact fun k hk => (v75b_X7_toFigure_22 h k hk).trans (fr k hk)
  · rcases ab_i h with ⟨c26, h⟩ | ⟨c26, h⟩
    · exact fun k hk => (v75b_X7_toFigure_22 h k hk).trans (fr k hk)
    · obtain ⟨r28, σ29, e27, h⟩ := ab_2 h
      have fr := fun (k : Int) (hk : nf75_X7_toFigure k) => (v75_X7_takes e27 k (by unfold nf75_X7_toFigure at hk; unfold nf75_X7_takes; omega)).trans (fr k hk)
      obtain ⟨q1, q2⟩ := ab_r2 h
      exact fun k hk => (congrFun (congrFun q2.symm 75) k).trans (fr k hk)
def nf75_X7_readsStreet (k : Int) : Prop := k ≠ 7 ∧ k ≠ 8 ∧ k ≠ 9 ∧ k ≠ 10 ∧ k ≠ 11 ∧ k ≠ 12
theorem v75b_X7_readsStreet_106 {n : Nat} {x1 : Int} {x2 : Int} {x3 : Int} {s0 : Int} {σ σr : am_Mem} (h : fb_X7_readsStreet_106 n x1 x2 x3 s0 σ = some σr) : ∀ k : Int, nf75_X7_readsStreet k → σr 75 k = σ 75 k := by
  unfold fb_X7_readsStreet_106 at h
  have fr : ∀ k : Int, nf75_X7_readsStreet k → σ 75 k = σ 75 k := fun _ _ => rfl
  obtain ⟨r18, σ19, e17, h⟩ := ab_2 h
  have fr := fun (k : Int) (hk : nf75_X7_readsStreet k) => (v75_X7_takes e17 k (by unfold nf75_X7_readsStreet at hk; unfold nf75_X7_takes; omega)).trans (fr k hk)
  obtain ⟨r21, σ22, e20, h⟩ := ab_2 h
  have fr := fun (k : Int) (hk : nf75_X7_readsStreet k) => (congrFun (congrFun (u_X7_isWell e20) 75) k).trans (fr k hk)
  rcases ab_i h with ⟨c23, h⟩ | ⟨c23, h⟩
  · have q2 := ab_r1 h
    exact fun k hk => (congrFun (congrFun q2.symm 75) k).trans (fr k hk)
  · obtain ⟨g24, h⟩ := ab_g h
    obtain ⟨σ25, e26, h⟩ := ab_1 h
    have fr := fun (k : Int) (hk : nf75_X7_readsStreet k) => (congrFun (ab_fu e26 (show 75 ≠ 82 by omega)) k).trans (fr k hk)
    obtain ⟨g27, h⟩ := ab_g h
    obtain ⟨σ28, e29, h⟩ := ab_1 h
    have fr := fun (k : Int) (hk : nf75_X7_readsStreet k) => (congrFun (ab_fu e29 (show 75 ≠ 82 by omega)) k).trans (fr k hk)
    obtain ⟨σ30, e31, h⟩ := ab_1 h
    have fr := fun (k : Int) (hk : nf75_X7_readsStreet k) => (congrFun (ab_fu e31 (show 75 ≠ 82 by omega)) k).trans (fr k hk)
    obtain ⟨σ32, e33, h⟩ := ab_1 h
    have fr := fun (k : Int) (hk : nf75_X7_readsStreet k) => (congrFun (ab_fu e33 (show 75 ≠ 82 by omega)) k).trans (fr k hk)
    have q2 := ab_r1 h
    exact fun k hk => (congrFun (congrFun q2.symm 75) k).trans (fr k hk)
theorem v75b_X7_readsStreet_81 {n : Nat} {x1 : Int} {x2 : Int} {s0 : Int} {σ σr : am_Mem} (h : fb_X7_readsStreet_81 n x1 x2 s0 σ = some σr) : ∀ k : Int, nf75_X7_readsStreet k → σr 75 k = σ 75 k := by
  unfold fb_X7_readsStreet_81 at h
  have fr : ∀ k : Int, nf75_X7_readsStreet k → σ 75 k = σ 75 k := fun _ _ => rfl
  obtain ⟨r11, σ12, e10, h⟩ := ab_2 h
  have fr := fun (k : Int) (hk : nf75_X7_readsStreet k) => (v75_X7_takes e10 k (by unfold nf75_X7_readsStreet at hk; unfold nf75_X7_takes; omega)).trans (fr k hk)
  obtain ⟨r14, σ15, e13, h⟩ := ab_2 h
  have fr := fun (k : Int) (hk : nf75_X7_readsStreet k) => (v75_X7_toFigure e13 k (by unfold nf75_X7_readsStreet at hk; unfold nf75_X7_toFigure; omega)).trans (fr k hk)
  rcases ab_i h with ⟨c16, h⟩ | ⟨c16, h⟩
  · exact fun k hk => (v75b_X7_readsStreet_106 h k hk).trans (fr k hk)
  · exact fun k hk => (v75b_X7_readsStreet_106 h k hk).trans (fr k hk)
theorem v75b_X7_readsStreet_49 {n : Nat} {s0 : Int} {s1 : Int} {s2 : Int} {σ σr : am_Mem} (h : fb_X7_readsStreet_49 n s0 s1 s2 σ = some σr) : ∀ k : Int, nf75_X7_readsStreet k → σr 75 k = σ 75 k := by
  unfold fb_X7_readsStreet_49 at h
  have fr : ∀ k : Int, nf75_X7_readsStreet k → σ 75 k = σ 75 k := fun _ _ => rfl
  obtain ⟨r7, σ8, e6, h⟩ := ab_2 h
  have fr := fun (k : Int) (hk : nf75_X7_readsStreet k) => (v75_X7_figure e6 k (by unfold nf75_X7_readsStreet at hk; unfold nf75_X7_figure; omega)).trans (fr k hk)
  rcases ab_i h with ⟨c9, h⟩ | ⟨c9, h⟩
  · exact fun k hk => (v75b_X7_readsStreet_81 h k hk).trans (fr k hk)
  · exact fun k hk => (v75b_X7_readsStreet_81 h k hk).trans (fr k hk)
theorem v75b_X7_readsStreet_18 {n : Nat} {s0 : Int} {σ σr : am_Mem} (h : fb_X7_readsStreet_18 n s0 σ = some σr) : ∀ k : Int, nf75_X7_readsStreet k → σr 75 k = σ 75 k := by
  unfold fb_X7_readsStreet_18 at h
  have fr : ∀ k : Int, nf75_X7_readsStreet k → σ 75 k = σ 75 k := fun _ _ => rfl
  obtain ⟨r3, σ4, e2, h⟩ := ab_2 h
  have fr := fun (k : Int) (hk : nf75_X7_readsStreet k) => (v75_X7_takes e2 k (by unfold nf75_X7_readsStreet at hk; unfold nf75_X7_takes; omega)).trans (fr k hk)
  rcases ab_i h with ⟨c5, h⟩ | ⟨c5, h⟩
  · exact fun k hk => (v75b_X7_readsStreet_49 h k hk).trans (fr k hk)
  · exact fun k hk => (v75b_X7_readsStreet_49 h k hk).trans (fr k hk)
theorem v75_X7_readsStreet {n : Nat} {σ σr : am_Mem} (h : f_X7_readsStreet n σ = some σr) : ∀ k : Int, nf75_X7_readsStreet k → σr 75 k = σ 75 k := by
  unfold f_X7_readsStreet at h
  have fr : ∀ k : Int, nf75_X7_readsStreet k → σ 75 k = σ 75 k := fun _ _ => rfl
  rcases ab_i h with ⟨c1, h⟩ | ⟨c1, h⟩
  · exact fun k hk => (v75b_X7_readsStreet_18 h k hk).trans (fr k hk)
  · exact fun k hk => (v75b_X7_readsStreet_18 h k hk).trans (fr k hk)
def nf75_X7_town (k : Int) : Prop := k ≠ 6 ∧ k ≠ 7 ∧ k ≠ 8 ∧ k ≠ 9 ∧ k ≠ 10 ∧ k ≠ 11 ∧ k ≠ 12 ∧ k ≠ 17
theorem v75b_X7_town_224 {n : Nat} {σ σr : am_Mem} {rr : Int} (h : fb_X7_town_224 n σ = some (rr, σr)) : ∀ k : Int, nf75_X7_town k → σr 75 k = σ 75 k := by
  unfold fb_X7_town_224 at h
  have fr : ∀ k : Int, nf75_X7_town k → σ 75 k = σ 75 k := fun _ _ => rfl
  obtain ⟨σ47, e48, h⟩ := ab_1 h
  have fr := fun (k : Int) (hk : nf75_X7_town k) => (ab_fuj e48 (show k ≠ 6 by unfold nf75_X7_town at hk; omega)).trans (fr k hk)
  obtain ⟨r50, σ51, e49, h⟩ := ab_2 h
  have fr := fun (k : Int) (hk : nf75_X7_town k) => (congrFun (congrFun (u_X7_isWell e49) 75) k).trans (fr k hk)
  rcases ab_i h with ⟨c52, h⟩ | ⟨c52, h⟩
  · obtain ⟨q1, q2⟩ := ab_r2 h
    exact fun k hk => (congrFun (congrFun q2.symm 75) k).trans (fr k hk)
  · obtain ⟨σ55, e53, h⟩ := ab_1 h
    have fr := fun (k : Int) (hk : nf75_X7_town k) => (congrFun (w_X7_copies e53 75 (by unfold nw_X7_copies; omega)) k).trans (fr k hk)
    obtain ⟨σ56, e57, h⟩ := ab_1 h
    have fr := fun (k : Int) (hk : nf75_X7_town k) => (ab_fuj e57 (show k ≠ 17 by unfold nf75_X7_town at hk; omega)).trans (fr k hk)
    obtain ⟨q1, q2⟩ := ab_r2 h
    exact fun k hk => (congrFun (congrFun q2.symm 75) k).trans (fr k hk)
theorem v75b_X7_town_172 {n : Nat} {kh172 : am_Mem → Option (Int × am_Mem)} {σ σr : am_Mem} {rr : Int} (hk172 : ∀ (σ : am_Mem), kh172 σ = some (rr, σr) → ∀ k : Int, nf75_X7_town k → σr 75 k = σ 75 k) (h : fb_X7_town_172 n kh172 σ = some (rr, σr)) : ∀ k : Int, nf75_X7_town k → σr 75 k = σ 75 k := by
  unfold fb_X7_town_172 at h
  have fr : ∀ k : Int, nf75_X7_town k → σ 75 k = σ 75 k := fun _ _ => rfl
  obtain ⟨r40, σ41, e39, h⟩ := ab_2 h
  have fr := fun (k : Int) (hk : nf75_X7_town k) => (congrFun (congrFun (u_X7_isWell e39) 75) k).trans (fr k hk)
  rcases ab_i h with ⟨c42, h⟩ | ⟨c42, h⟩
  · obtain ⟨r44, σ45, e43, h⟩ := ab_2 h
    have fr := fun (k : Int) (hk : nf75_X7_town k) => (congrFun (congrFun (u_X7_isWell e43) 75) k).trans (fr k hk)
    rcases ab_i h with ⟨c46, h⟩ | ⟨c46, h⟩
    · exact fun k hk => (v75b_X7_town_224 h k hk).trans (fr k hk)
    · rcases ab_i h with ⟨c58, h⟩ | ⟨c58, h⟩
      · exact fun k hk => (v75b_X7_town_224 h k hk).trans (fr k hk)
      · obtain ⟨r60, σ61, e59, h⟩ := ab_2 h
        have fr := fun (k : Int) (hk : nf75_X7_town k) => (v75_X7_takes e59 k (by unfold nf75_X7_town at hk; unfold nf75_X7_takes; omega)).trans (fr k hk)
        exact fun k hk => (v75b_X7_town_224 h k hk).trans (fr k hk)
  · rcases ab_i h with ⟨c62, h⟩ | ⟨c62, h⟩
    · rcases ab_i h with ⟨c63, h⟩ | ⟨c63, h⟩
      · obtain ⟨σ66, e64, h⟩ := ab_1 h
        have fr := fun (k : Int) (hk : nf75_X7_town k) => (v75_X7_readsStreet e64 k (by unfold nf75_X7_town at hk; unfold nf75_X7_readsStreet; omega)).trans (fr k hk)
        exact fun k hk => (hk172 _ h k hk).trans (fr k hk)
      · obtain ⟨r68, σ69, e67, h⟩ := ab_2 h
        have fr := fun (k : Int) (hk : nf75_X7_town k) => (congrFun (congrFun (u_X7_isWell e67) 75) k).trans (fr k hk)
        rcases ab_i h with ⟨c70, h⟩ | ⟨c70, h⟩
        · exact fun k hk => (v75b_X7_town_224 h k hk).trans (fr k hk)
        · rcases ab_i h with ⟨c71, h⟩ | ⟨c71, h⟩
          · exact fun k hk => (v75b_X7_town_224 h k hk).trans (fr k hk)
          · obtain ⟨r73, σ74, e72, h⟩ := ab_2 h
            have fr := fun (k : Int) (hk : nf75_X7_town k) => (v75_X7_takes e72 k (by unfold nf75_X7_town at hk; unfold nf75_X7_takes; omega)).trans (fr k hk)
            exact fun k hk => (v75b_X7_town_224 h k hk).trans (fr k hk)
    · obtain ⟨r76, σ77, e75, h⟩ := ab_2 h
      have fr := fun (k : Int) (hk : nf75_X7_town k) => (congrFun (congrFun (u_X7_isWell e75) 75) k).trans (fr k hk)
      rcases ab_i h with ⟨c78, h⟩ | ⟨c78, h⟩
      · exact fun k hk => (v75b_X7_town_224 h k hk).trans (fr k hk)
      · rcases ab_i h with ⟨c79, h⟩ | ⟨c79, h⟩
        · exact fun k hk => (v75b_X7_town_224 h k hk).trans (fr k hk)
        · obtain ⟨r81, σ82, e80, h⟩ := ab_2 h
          have fr := fun (k : Int) (hk : nf75_X7_town k) => (v75_X7_takes e80 k (by unfold nf75_X7_town at hk; unfold nf75_X7_takes; omega)).trans (fr k hk)
          exact fun k hk => (v75b_X7_town_224 h k hk).trans (fr k hk)
theorem v75l_X7_town_172 {n : Nat} {σr : am_Mem} {rr : Int} : ∀ (m : Nat) (σ : am_Mem), fl_X7_town_172 n m σ = some (rr, σr) → ∀ k : Int, nf75_X7_town k → σr 75 k = σ 75 k := by
  intro m
  induction m with
  | zero => intro σ h; cases h
  | succ m ih =>
    intro σ h
    exact v75b_X7_town_172 (fun σ h => ih σ h) h
theorem v75b_X7_town_140 {n : Nat} {kh140 : am_Mem → Option (Int × am_Mem)} {σ σr : am_Mem} {rr : Int} (hk140 : ∀ (σ : am_Mem), kh140 σ = some (rr, σr) → ∀ k : Int, nf75_X7_town k → σr 75 k = σ 75 k) (h : fb_X7_town_140 n kh140 σ = some (rr, σr)) : ∀ k : Int, nf75_X7_town k → σr 75 k = σ 75 k := by
  unfold fb_X7_town_140 at h
  have fr : ∀ k : Int, nf75_X7_town k → σ 75 k = σ 75 k := fun _ _ => rfl
  obtain ⟨r36, σ37, e35, h⟩ := ab_2 h
  have fr := fun (k : Int) (hk : nf75_X7_town k) => (congrFun (congrFun (u_X7_isWell e35) 75) k).trans (fr k hk)
  rcases ab_i h with ⟨c38, h⟩ | ⟨c38, h⟩
  · exact fun k hk => (v75l_X7_town_172 n _ h k hk).trans (fr k hk)
  · rcases ab_i h with ⟨c83, h⟩ | ⟨c83, h⟩
    · obtain ⟨r85, σ86, e84, h⟩ := ab_2 h
      have fr := fun (k : Int) (hk : nf75_X7_town k) => (congrFun (congrFun (u_X7_kindOf e84) 75) k).trans (fr k hk)
      rcases ab_i h with ⟨c87, h⟩ | ⟨c87, h⟩
      · exact fun k hk => (v75l_X7_town_172 n _ h k hk).trans (fr k hk)
      · obtain ⟨σ90, e88, h⟩ := ab_1 h
        have fr := fun (k : Int) (hk : nf75_X7_town k) => (v75_X7_readsCorner e88 k (by unfold nf75_X7_town at hk; unfold nf75_X7_readsCorner; omega)).trans (fr k hk)
        exact fun k hk => (hk140 _ h k hk).trans (fr k hk)
    · exact fun k hk => (v75l_X7_town_172 n _ h k hk).trans (fr k hk)
theorem v75l_X7_town_140 {n : Nat} {σr : am_Mem} {rr : Int} : ∀ (m : Nat) (σ : am_Mem), fl_X7_town_140 n m σ = some (rr, σr) → ∀ k : Int, nf75_X7_town k → σr 75 k = σ 75 k := by
  intro m
  induction m with
  | zero => intro σ h; cases h
  | succ m ih =>
    intro σ h
    exact v75b_X7_town_140 (fun σ h => ih σ h) h
theorem v75b_X7_town_103 {n : Nat} {s0 : Int} {σ σr : am_Mem} {rr : Int} (h : fb_X7_town_103 n s0 σ = some (rr, σr)) : ∀ k : Int, nf75_X7_town k → σr 75 k = σ 75 k := by
  unfold fb_X7_town_103 at h
  have fr : ∀ k : Int, nf75_X7_town k → σ 75 k = σ 75 k := fun _ _ => rfl
  obtain ⟨r29, σ30, e28, h⟩ := ab_2 h
  have fr := fun (k : Int) (hk : nf75_X7_town k) => (v75_X7_takes e28 k (by unfold nf75_X7_town at hk; unfold nf75_X7_takes; omega)).trans (fr k hk)
  obtain ⟨r32, σ33, e31, h⟩ := ab_2 h
  have fr := fun (k : Int) (hk : nf75_X7_town k) => (congrFun (congrFun (u_X7_isWell e31) 75) k).trans (fr k hk)
  rcases ab_i h with ⟨c34, h⟩ | ⟨c34, h⟩
  · exact fun k hk => (v75l_X7_town_140 n _ h k hk).trans (fr k hk)
  · rcases ab_i h with ⟨c91, h⟩ | ⟨c91, h⟩
    · obtain ⟨r93, σ94, e92, h⟩ := ab_2 h
      have fr := fun (k : Int) (hk : nf75_X7_town k) => (congrFun (congrFun (u_X7_kindOf e92) 75) k).trans (fr k hk)
      rcases ab_i h with ⟨c95, h⟩ | ⟨c95, h⟩
      · obtain ⟨r97, σ98, e96, h⟩ := ab_2 h
        have fr := fun (k : Int) (hk : nf75_X7_town k) => (v75_X7_takes e96 k (by unfold nf75_X7_town at hk; unfold nf75_X7_takes; omega)).trans (fr k hk)
        exact fun k hk => (v75l_X7_town_140 n _ h k hk).trans (fr k hk)
      · exact fun k hk => (v75l_X7_town_140 n _ h k hk).trans (fr k hk)
    · obtain ⟨r100, σ101, e99, h⟩ := ab_2 h
      have fr := fun (k : Int) (hk : nf75_X7_town k) => (v75_X7_takes e99 k (by unfold nf75_X7_town at hk; unfold nf75_X7_takes; omega)).trans (fr k hk)
      exact fun k hk => (v75l_X7_town_140 n _ h k hk).trans (fr k hk)
theorem v75b_X7_town_58 {n : Nat} {s0 : Int} {σ σr : am_Mem} {rr : Int} (h : fb_X7_town_58 n s0 σ = some (rr, σr)) : ∀ k : Int, nf75_X7_town k → σr 75 k = σ 75 k := by
  unfold fb_X7_town_58 at h
  have fr : ∀ k : Int, nf75_X7_town k → σ 75 k = σ 75 k := fun _ _ => rfl
  obtain ⟨r15, σ16, e14, h⟩ := ab_2 h
  have fr := fun (k : Int) (hk : nf75_X7_town k) => (v75_X7_takes e14 k (by unfold nf75_X7_town at hk; unfold nf75_X7_takes; omega)).trans (fr k hk)
  obtain ⟨r18, σ19, e17, h⟩ := ab_2 h
  have fr := fun (k : Int) (hk : nf75_X7_town k) => (v75_X7_figure e17 k (by unfold nf75_X7_town at hk; unfold nf75_X7_figure; omega)).trans (fr k hk)
  obtain ⟨σ20, e21, h⟩ := ab_1 h
  have fr := fun (k : Int) (hk : nf75_X7_town k) => (congrFun (ab_fu e21 (show 75 ≠ 82 by omega)) k).trans (fr k hk)
  obtain ⟨r23, σ24, e22, h⟩ := ab_2 h
  have fr := fun (k : Int) (hk : nf75_X7_town k) => (v75_X7_follows e22 k (by unfold nf75_X7_town at hk; unfold nf75_X7_follows; omega)).trans (fr k hk)
  obtain ⟨σ25, e26, h⟩ := ab_1 h
  have fr := fun (k : Int) (hk : nf75_X7_town k) => (congrFun (ab_fu e26 (show 75 ≠ 82 by omega)) k).trans (fr k hk)
  rcases ab_i h with ⟨c27, h⟩ | ⟨c27, h⟩
  · exact fun k hk => (v75b_X7_town_103 h k hk).trans (fr k hk)
  · exact fun k hk => (v75b_X7_town_103 h k hk).trans (fr k hk)
theorem v75b_X7_town_2 {n : Nat} {kh2 : Int → am_Mem → Option (Int × am_Mem)} {x1 : Int} {σ σr : am_Mem} {rr : Int} (hk2 : ∀ (y1 : Int) (σ : am_Mem), kh2 y1 σ = some (rr, σr) → ∀ k : Int, nf75_X7_town k → σr 75 k = σ 75 k) (h : fb_X7_town_2 n kh2 x1 σ = some (rr, σr)) : ∀ k : Int, nf75_X7_town k → σr 75 k = σ 75 k := by
  unfold fb_X7_town_2 at h
  have fr : ∀ k : Int, nf75_X7_town k → σ 75 k = σ 75 k := fun _ _ => rfl
  rcases ab_i h with ⟨c1, h⟩ | ⟨c1, h⟩
  · obtain ⟨g2, h⟩ := ab_g h
    obtain ⟨σ3, e4, h⟩ := ab_1 h
    have fr := fun (k : Int) (hk : nf75_X7_town k) => (congrFun (ab_fu e4 (show 75 ≠ 82 by omega)) k).trans (fr k hk)
    exact fun k hk => (hk2 _ _ h k hk).trans (fr k hk)
  · obtain ⟨σ5, e6, h⟩ := ab_1 h
    have fr := fun (k : Int) (hk : nf75_X7_town k) => (ab_fuj e6 (show k ≠ 9 by unfold nf75_X7_town at hk; omega)).trans (fr k hk)
    obtain ⟨σ7, e8, h⟩ := ab_1 h
    have fr := fun (k : Int) (hk : nf75_X7_town k) => (ab_fuj e8 (show k ≠ 8 by unfold nf75_X7_town at hk; omega)).trans (fr k hk)
    obtain ⟨σ11, e9, h⟩ := ab_1 h
    have fr := fun (k : Int) (hk : nf75_X7_town k) => (v75_X7_advances e9 k (by unfold nf75_X7_town at hk; unfold nf75_X7_advances; omega)).trans (fr k hk)
    rcases ab_i h with ⟨c12, h⟩ | ⟨c12, h⟩
    · rcases ab_i h with ⟨c13, h⟩ | ⟨c13, h⟩
      · exact fun k hk => (v75b_X7_town_58 h k hk).trans (fr k hk)
      · exact fun k hk => (v75b_X7_town_58 h k hk).trans (fr k hk)
    · exact fun k hk => (v75b_X7_town_58 h k hk).trans (fr k hk)
theorem v75l_X7_town_2 {n : Nat} {σr : am_Mem} {rr : Int} : ∀ (m : Nat) (x1 : Int) (σ : am_Mem), fl_X7_town_2 n m x1 σ = some (rr, σr) → ∀ k : Int, nf75_X7_town k → σr 75 k = σ 75 k := by
  intro m
  induction m with
  | zero => intro x1 σ h; cases h
  | succ m ih =>
    intro x1 σ h
    exact v75b_X7_town_2 (fun x1 σ h => ih x1 σ h) h
theorem v75_X7_town {n : Nat} {σ σr : am_Mem} {rr : Int} (h : f_X7_town n σ = some (rr, σr)) : ∀ k : Int, nf75_X7_town k → σr 75 k = σ 75 k := by
  unfold f_X7_town at h
  have fr : ∀ k : Int, nf75_X7_town k → σ 75 k = σ 75 k := fun _ _ => rfl
  exact fun k hk => (v75l_X7_town_2 n _ _ h k hk).trans (fr k hk)
def nf75_X7_notes (k : Int) : Prop := k ≠ 17
theorem v75b_X7_notes_49 {n : Nat} {σ σr : am_Mem} (h : fb_X7_notes_49 n σ = some σr) : ∀ k : Int, nf75_X7_notes k → σr 75 k = σ 75 k := by
  unfold fb_X7_notes_49 at h
  have fr : ∀ k : Int, nf75_X7_notes k → σ 75 k = σ 75 k := fun _ _ => rfl
  obtain ⟨σ11, e9, h⟩ := ab_1 h
  have fr := fun (k : Int) (hk : nf75_X7_notes k) => (congrFun (w_X7_copies e9 75 (by unfold nw_X7_copies; omega)) k).trans (fr k hk)
  obtain ⟨σ12, e13, h⟩ := ab_1 h
  have fr := fun (k : Int) (hk : nf75_X7_notes k) => (ab_fuj e13 (show k ≠ 17 by unfold nf75_X7_notes at hk; omega)).trans (fr k hk)
  have q2 := ab_r1 h
  exact fun k hk => (congrFun (congrFun q2.symm 75) k).trans (fr k hk)
theorem v75b_X7_notes_11 {n : Nat} {kh11 : Int → am_Mem → Option am_Mem} {x1 : Int} {σ σr : am_Mem} (hk11 : ∀ (y1 : Int) (σ : am_Mem), kh11 y1 σ = some σr → ∀ k : Int, nf75_X7_notes k → σr 75 k = σ 75 k) (h : fb_X7_notes_11 n kh11 x1 σ = some σr) : ∀ k : Int, nf75_X7_notes k → σr 75 k = σ 75 k := by
  unfold fb_X7_notes_11 at h
  have fr : ∀ k : Int, nf75_X7_notes k → σ 75 k = σ 75 k := fun _ _ => rfl
  rcases ab_i h with ⟨c2, h⟩ | ⟨c2, h⟩
  · obtain ⟨g3, h⟩ := ab_g h
    obtain ⟨g4, h⟩ := ab_g h
    obtain ⟨σ5, e6, h⟩ := ab_1 h
    have fr := fun (k : Int) (hk : nf75_X7_notes k) => (congrFun (ab_fu e6 (show 75 ≠ 84 by omega)) k).trans (fr k hk)
    exact fun k hk => (hk11 _ _ h k hk).trans (fr k hk)
  · obtain ⟨σ7, e8, h⟩ := ab_1 h
    have fr := fun (k : Int) (hk : nf75_X7_notes k) => (ab_fuj e8 (show k ≠ 17 by unfold nf75_X7_notes at hk; omega)).trans (fr k hk)
    exact fun k hk => (v75b_X7_notes_49 h k hk).trans (fr k hk)
theorem v75l_X7_notes_11 {n : Nat} {σr : am_Mem} : ∀ (m : Nat) (x1 : Int) (σ : am_Mem), fl_X7_notes_11 n m x1 σ = some σr → ∀ k : Int, nf75_X7_notes k → σr 75 k = σ 75 k := by
  intro m
  induction m with
  | zero => intro x1 σ h; cases h
  | succ m ih =>
    intro x1 σ h
    exact v75b_X7_notes_11 (fun x1 σ h => ih x1 σ h) h
theorem v75_X7_notes {n : Nat} {σ σr : am_Mem} (h : f_X7_notes n σ = some σr) : ∀ k : Int, nf75_X7_notes k → σr 75 k = σ 75 k := by
  unfold f_X7_notes at h
  have fr : ∀ k : Int, nf75_X7_notes k → σ 75 k = σ 75 k := fun _ _ => rfl
  rcases ab_i h with ⟨c1, h⟩ | ⟨c1, h⟩
  · exact fun k hk => (v75l_X7_notes_11 n _ _ h k hk).trans (fr k hk)
  · exact fun k hk => (v75b_X7_notes_49 h k hk).trans (fr k hk)
def nf75_X7_ride (k : Int) : Prop := k ≠ 17
theorem v75_X7_ride {n : Nat} {p1 : Int} {σ σr : am_Mem} {rr : Int} (h : f_X7_ride n p1 σ = some (rr, σr)) : ∀ k : Int, nf75_X7_ride k → σr 75 k = σ 75 k := by
  unfold f_X7_ride at h
  have fr : ∀ k : Int, nf75_X7_ride k → σ 75 k = σ 75 k := fun _ _ => rfl
  obtain ⟨r2, σ3, e1, h⟩ := ab_2 h
  have fr := fun (k : Int) (hk : nf75_X7_ride k) => (congrFun (congrFun (u_X7_isStreet e1) 75) k).trans (fr k hk)
  rcases ab_i h with ⟨c4, h⟩ | ⟨c4, h⟩
  · obtain ⟨q1, q2⟩ := ab_r2 h
    exact fun k hk => (congrFun (congrFun q2.symm 75) k).trans (fr k hk)
  · obtain ⟨r6, σ7, e5, h⟩ := ab_2 h
    have fr := fun (k : Int) (hk : nf75_X7_ride k) => (congrFun (congrFun (u_X7_goes e5) 75) k).trans (fr k hk)
    rcases ab_i h with ⟨c8, h⟩ | ⟨c8, h⟩
    · obtain ⟨q1, q2⟩ := ab_r2 h
      exact fun k hk => (congrFun (congrFun q2.symm 75) k).trans (fr k hk)
    · rcases ab_i h with ⟨c9, h⟩ | ⟨c9, h⟩
      · obtain ⟨σ12, e10, h⟩ := ab_1 h
        have fr := fun (k : Int) (hk : nf75_X7_ride k) => (v75_X7_notes e10 k (by unfold nf75_X7_ride at hk; unfold nf75_X7_notes; omega)).trans (fr k hk)
        obtain ⟨σ15, e13, h⟩ := ab_1 h
        have fr := fun (k : Int) (hk : nf75_X7_ride k) => (congrFun (w_X7_rides e13 75 (by unfold nw_X7_rides; omega)) k).trans (fr k hk)
        obtain ⟨q1, q2⟩ := ab_r2 h
        exact fun k hk => (congrFun (congrFun q2.symm 75) k).trans (fr k hk)
      · obtain ⟨q1, q2⟩ := ab_r2 h
        exact fun k hk => (congrFun (congrFun q2.symm 75) k).trans (fr k hk)
def nf75_X7_lesson (k : Int) : Prop := k ≠ 17
theorem v75_X7_lesson {n : Nat} {p1 : Int} {p2 : Int} {σ σr : am_Mem} {rr : Int} (h : f_X7_lesson n p1 p2 σ = some (rr, σr)) : ∀ k : Int, nf75_X7_lesson k → σr 75 k = σ 75 k := by
  unfold f_X7_lesson at h
  have fr : ∀ k : Int, nf75_X7_lesson k → σ 75 k = σ 75 k := fun _ _ => rfl
  obtain ⟨r2, σ3, e1, h⟩ := ab_2 h
  have fr := fun (k : Int) (hk : nf75_X7_lesson k) => (congrFun (congrFun (u_X7_isCorner e1) 75) k).trans (fr k hk)
  rcases ab_i h with ⟨c4, h⟩ | ⟨c4, h⟩
  · obtain ⟨q1, q2⟩ := ab_r2 h
    exact fun k hk => (congrFun (congrFun q2.symm 75) k).trans (fr k hk)
  · obtain ⟨r6, σ7, e5, h⟩ := ab_2 h
    have fr := fun (k : Int) (hk : nf75_X7_lesson k) => (congrFun (congrFun (u_X7_in e5) 75) k).trans (fr k hk)
    rcases ab_i h with ⟨c8, h⟩ | ⟨c8, h⟩
    · obtain ⟨q1, q2⟩ := ab_r2 h
      exact fun k hk => (congrFun (congrFun q2.symm 75) k).trans (fr k hk)
    · obtain ⟨σ11, e9, h⟩ := ab_1 h
      have fr := fun (k : Int) (hk : nf75_X7_lesson k) => (v75_X7_notes e9 k (by unfold nf75_X7_lesson at hk; unfold nf75_X7_notes; omega)).trans (fr k hk)
      obtain ⟨g12, h⟩ := ab_g h
      obtain ⟨σ13, e14, h⟩ := ab_1 h
      have fr := fun (k : Int) (hk : nf75_X7_lesson k) => (congrFun (ab_fu e14 (show 75 ≠ 81 by omega)) k).trans (fr k hk)
      obtain ⟨q1, q2⟩ := ab_r2 h
      exact fun k hk => (congrFun (congrFun q2.symm 75) k).trans (fr k hk)
def nf75_X7_reset (k : Int) : Prop := k ≠ 17
theorem v75_X7_reset {n : Nat} {σ σr : am_Mem} {rr : Int} (h : f_X7_reset n σ = some (rr, σr)) : ∀ k : Int, nf75_X7_reset k → σr 75 k = σ 75 k := by
  unfold f_X7_reset at h
  have fr : ∀ k : Int, nf75_X7_reset k → σ 75 k = σ 75 k := fun _ _ => rfl
  obtain ⟨r2, σ3, e1, h⟩ := ab_2 h
  have fr := fun (k : Int) (hk : nf75_X7_reset k) => (congrFun (congrFun (u_X7_isTown e1) 75) k).trans (fr k hk)
  rcases ab_i h with ⟨c4, h⟩ | ⟨c4, h⟩
  · obtain ⟨q1, q2⟩ := ab_r2 h
    exact fun k hk => (congrFun (congrFun q2.symm 75) k).trans (fr k hk)
  · obtain ⟨σ7, e5, h⟩ := ab_1 h
    have fr := fun (k : Int) (hk : nf75_X7_reset k) => (v75_X7_notes e5 k (by unfold nf75_X7_reset at hk; unfold nf75_X7_notes; omega)).trans (fr k hk)
    obtain ⟨σ8, e9, h⟩ := ab_1 h
    have fr := fun (k : Int) (hk : nf75_X7_reset k) => (congrFun (ab_fu e9 (show 75 ≠ 81 by omega)) k).trans (fr k hk)
    obtain ⟨q1, q2⟩ := ab_r2 h
    exact fun k hk => (congrFun (congrFun q2.symm 75) k).trans (fr k hk)
def nf75_X7_street (k : Int) : Prop := k ≠ 17
theorem v75_X7_street {n : Nat} {p1 : Int} {p2 : Int} {σ σr : am_Mem} {rr : Int} (h : f_X7_street n p1 p2 σ = some (rr, σr)) : ∀ k : Int, nf75_X7_street k → σr 75 k = σ 75 k := by
  unfold f_X7_street at h
  have fr : ∀ k : Int, nf75_X7_street k → σ 75 k = σ 75 k := fun _ _ => rfl
  obtain ⟨r2, σ3, e1, h⟩ := ab_2 h
  have fr := fun (k : Int) (hk : nf75_X7_street k) => (congrFun (congrFun (u_X7_isStreet e1) 75) k).trans (fr k hk)
  rcases ab_i h with ⟨c4, h⟩ | ⟨c4, h⟩
  · obtain ⟨q1, q2⟩ := ab_r2 h
    exact fun k hk => (congrFun (congrFun q2.symm 75) k).trans (fr k hk)
  · obtain ⟨r6, σ7, e5, h⟩ := ab_2 h
    have fr := fun (k : Int) (hk : nf75_X7_street k) => (congrFun (congrFun (u_X7_in e5) 75) k).trans (fr k hk)
    rcases ab_i h with ⟨c8, h⟩ | ⟨c8, h⟩
    · obtain ⟨q1, q2⟩ := ab_r2 h
      exact fun k hk => (congrFun (congrFun q2.symm 75) k).trans (fr k hk)
    · rcases ab_i h with ⟨c9, h⟩ | ⟨c9, h⟩
      · obtain ⟨q1, q2⟩ := ab_r2 h
        exact fun k hk => (congrFun (congrFun q2.symm 75) k).trans (fr k hk)
      · obtain ⟨σ12, e10, h⟩ := ab_1 h
        have fr := fun (k : Int) (hk : nf75_X7_street k) => (v75_X7_notes e10 k (by unfold nf75_X7_street at hk; unfold nf75_X7_notes; omega)).trans (fr k hk)
        obtain ⟨σ13, e14, h⟩ := ab_1 h
        have fr := fun (k : Int) (hk : nf75_X7_street k) => (congrFun (ab_fu e14 (show 75 ≠ 81 by omega)) k).trans (fr k hk)
        obtain ⟨q1, q2⟩ := ab_r2 h
        exact fun k hk => (congrFun (congrFun q2.symm 75) k).trans (fr k hk)
def nf75_X7_undo (k : Int) : Prop := k ≠ 17
theorem v75_X7_undo {n : Nat} {σ σr : am_Mem} {rr : Int} (h : f_X7_undo n σ = some (rr, σr)) : ∀ k : Int, nf75_X7_undo k → σr 75 k = σ 75 k := by
  unfold f_X7_undo at h
  have fr : ∀ k : Int, nf75_X7_undo k → σ 75 k = σ 75 k := fun _ _ => rfl
  rcases ab_i h with ⟨c1, h⟩ | ⟨c1, h⟩
  · obtain ⟨q1, q2⟩ := ab_r2 h
    exact fun k hk => (congrFun (congrFun q2.symm 75) k).trans (fr k hk)
  · obtain ⟨σ2, e3, h⟩ := ab_1 h
    have fr := fun (k : Int) (hk : nf75_X7_undo k) => (ab_fuj e3 (show k ≠ 17 by unfold nf75_X7_undo at hk; omega)).trans (fr k hk)
    obtain ⟨σ6, e4, h⟩ := ab_1 h
    have fr := fun (k : Int) (hk : nf75_X7_undo k) => (congrFun (w_X7_copies e4 75 (by unfold nw_X7_copies; omega)) k).trans (fr k hk)
    obtain ⟨q1, q2⟩ := ab_r2 h
    exact fun k hk => (congrFun (congrFun q2.symm 75) k).trans (fr k hk)
def nf75_X7_begins (k : Int) : Prop := k ≠ 20
theorem v75_X7_begins {n : Nat} {σ σr : am_Mem} (h : f_X7_begins n σ = some σr) : ∀ k : Int, nf75_X7_begins k → σr 75 k = σ 75 k := by
  unfold f_X7_begins at h
  have fr : ∀ k : Int, nf75_X7_begins k → σ 75 k = σ 75 k := fun _ _ => rfl
  obtain ⟨σ3, e1, h⟩ := ab_1 h
  have fr := fun (k : Int) (hk : nf75_X7_begins k) => (congrFun (w_X7_copies e1 75 (by unfold nw_X7_copies; omega)) k).trans (fr k hk)
  obtain ⟨σ4, e5, h⟩ := ab_1 h
  have fr := fun (k : Int) (hk : nf75_X7_begins k) => (ab_fuj e5 (show k ≠ 20 by unfold nf75_X7_begins at hk; omega)).trans (fr k hk)
  obtain ⟨σ6, e7, h⟩ := ab_1 h
  have fr := fun (k : Int) (hk : nf75_X7_begins k) => (congrFun (ab_fu e7 (show 75 ≠ 88 by omega)) k).trans (fr k hk)
  obtain ⟨σ8, e9, h⟩ := ab_1 h
  have fr := fun (k : Int) (hk : nf75_X7_begins k) => (congrFun (ab_fu e9 (show 75 ≠ 89 by omega)) k).trans (fr k hk)
  obtain ⟨σ10, e11, h⟩ := ab_1 h
  have fr := fun (k : Int) (hk : nf75_X7_begins k) => (congrFun (ab_fu e11 (show 75 ≠ 90 by omega)) k).trans (fr k hk)
  obtain ⟨σ12, e13, h⟩ := ab_1 h
  have fr := fun (k : Int) (hk : nf75_X7_begins k) => (congrFun (ab_fu e13 (show 75 ≠ 91 by omega)) k).trans (fr k hk)
  have q2 := ab_r1 h
  exact fun k hk => (congrFun (congrFun q2.symm 75) k).trans (fr k hk)
def nf75_X7_adds (k : Int) : Prop := k ≠ 20
theorem v75_X7_adds {n : Nat} {p1 : Int} {σ σr : am_Mem} (h : f_X7_adds n p1 σ = some σr) : ∀ k : Int, nf75_X7_adds k → σr 75 k = σ 75 k := by
  unfold f_X7_adds at h
  have fr : ∀ k : Int, nf75_X7_adds k → σ 75 k = σ 75 k := fun _ _ => rfl
  obtain ⟨g1, h⟩ := ab_g h
  obtain ⟨g2, h⟩ := ab_g h
  obtain ⟨σ3, e4, h⟩ := ab_1 h
  have fr := fun (k : Int) (hk : nf75_X7_adds k) => (congrFun (ab_fu e4 (show 75 ≠ 87 by omega)) k).trans (fr k hk)
  obtain ⟨g5, h⟩ := ab_g h
  obtain ⟨σ6, e7, h⟩ := ab_1 h
  have fr := fun (k : Int) (hk : nf75_X7_adds k) => (congrFun (ab_fu e7 (show 75 ≠ 88 by omega)) k).trans (fr k hk)
  obtain ⟨g8, h⟩ := ab_g h
  obtain ⟨σ9, e10, h⟩ := ab_1 h
  have fr := fun (k : Int) (hk : nf75_X7_adds k) => (congrFun (ab_fu e10 (show 75 ≠ 89 by omega)) k).trans (fr k hk)
  obtain ⟨g11, h⟩ := ab_g h
  obtain ⟨r13, σ14, e12, h⟩ := ab_2 h
  have fr := fun (k : Int) (hk : nf75_X7_adds k) => (congrFun (congrFun (u_X7_passed e12) 75) k).trans (fr k hk)
  obtain ⟨g15, h⟩ := ab_g h
  obtain ⟨σ16, e17, h⟩ := ab_1 h
  have fr := fun (k : Int) (hk : nf75_X7_adds k) => (congrFun (ab_fu e17 (show 75 ≠ 90 by omega)) k).trans (fr k hk)
  obtain ⟨g18, h⟩ := ab_g h
  obtain ⟨r20, σ21, e19, h⟩ := ab_2 h
  have fr := fun (k : Int) (hk : nf75_X7_adds k) => (congrFun (congrFun (u_X7_cost e19) 75) k).trans (fr k hk)
  obtain ⟨g22, h⟩ := ab_g h
  obtain ⟨σ23, e24, h⟩ := ab_1 h
  have fr := fun (k : Int) (hk : nf75_X7_adds k) => (congrFun (ab_fu e24 (show 75 ≠ 91 by omega)) k).trans (fr k hk)
  obtain ⟨σ25, e26, h⟩ := ab_1 h
  have fr := fun (k : Int) (hk : nf75_X7_adds k) => (ab_fuj e26 (show k ≠ 20 by unfold nf75_X7_adds at hk; omega)).trans (fr k hk)
  have q2 := ab_r1 h
  exact fun k hk => (congrFun (congrFun q2.symm 75) k).trans (fr k hk)
def nf75_X7_goesOn (k : Int) : Prop := k ≠ 20
theorem v75b_X7_goesOn_48 {n : Nat} {kh31 : am_Mem → Option (Int × am_Mem)} {kh48 : Int → am_Mem → Option (Int × am_Mem)} {x2 : Int} {σ σr : am_Mem} {rr : Int} (hk31 : ∀ (σ : am_Mem), kh31 σ = some (rr, σr) → ∀ k : Int, nf75_X7_goesOn k → σr 75 k = σ 75 k) (hk48 : ∀ (y2 : Int) (σ : am_Mem), kh48 y2 σ = some (rr, σr) → ∀ k : Int, nf75_X7_goesOn k → σr 75 k = σ 75 k) (h : fb_X7_goesOn_48 n kh31 kh48 x2 σ = some (rr, σr)) : ∀ k : Int, nf75_X7_goesOn k → σr 75 k = σ 75 k := by
  unfold fb_X7_goesOn_48 at h
  have fr : ∀ k : Int, nf75_X7_goesOn k → σ 75 k = σ 75 k := fun _ _ => rfl
  rcases ab_i h with ⟨c7, h⟩ | ⟨c7, h⟩
  · obtain ⟨g8, h⟩ := ab_g h
    obtain ⟨r10, σ11, e9, h⟩ := ab_2 h
    have fr := fun (k : Int) (hk : nf75_X7_goesOn k) => (congrFun (congrFun (u_X7_goes e9) 75) k).trans (fr k hk)
    rcases ab_i h with ⟨c12, h⟩ | ⟨c12, h⟩
    · exact fun k hk => (hk48 _ _ h k hk).trans (fr k hk)
    · obtain ⟨σ15, e13, h⟩ := ab_1 h
      have fr := fun (k : Int) (hk : nf75_X7_goesOn k) => (v75_X7_adds e13 k (by unfold nf75_X7_goesOn at hk; unfold nf75_X7_adds; omega)).trans (fr k hk)
      obtain ⟨q1, q2⟩ := ab_r2 h
      exact fun k hk => (congrFun (congrFun q2.symm 75) k).trans (fr k hk)
  · obtain ⟨σ16, e17, h⟩ := ab_1 h
    have fr := fun (k : Int) (hk : nf75_X7_goesOn k) => (ab_fuj e17 (show k ≠ 20 by unfold nf75_X7_goesOn at hk; omega)).trans (fr k hk)
    exact fun k hk => (hk31 _ h k hk).trans (fr k hk)
theorem v75l_X7_goesOn_48 {n : Nat} {kh31 : am_Mem → Option (Int × am_Mem)} {σr : am_Mem} {rr : Int} (hk31 : ∀ (σ : am_Mem), kh31 σ = some (rr, σr) → ∀ k : Int, nf75_X7_goesOn k → σr 75 k = σ 75 k) : ∀ (m : Nat) (x2 : Int) (σ : am_Mem), fl_X7_goesOn_48 n kh31 m x2 σ = some (rr, σr) → ∀ k : Int, nf75_X7_goesOn k → σr 75 k = σ 75 k := by
  intro m
  induction m with
  | zero => intro x2 σ h; cases h
  | succ m ih =>
    intro x2 σ h
    exact v75b_X7_goesOn_48 hk31 (fun x2 σ h => ih x2 σ h) h
theorem v75b_X7_goesOn_31 {n : Nat} {kh31 : am_Mem → Option (Int × am_Mem)} {σ σr : am_Mem} {rr : Int} (hk31 : ∀ (σ : am_Mem), kh31 σ = some (rr, σr) → ∀ k : Int, nf75_X7_goesOn k → σr 75 k = σ 75 k) (h : fb_X7_goesOn_31 n kh31 σ = some (rr, σr)) : ∀ k : Int, nf75_X7_goesOn k → σr 75 k = σ 75 k := by
  unfold fb_X7_goesOn_31 at h
  have fr : ∀ k : Int, nf75_X7_goesOn k → σ 75 k = σ 75 k := fun _ _ => rfl
  rcases ab_i h with ⟨c5, h⟩ | ⟨c5, h⟩
  · obtain ⟨q1, q2⟩ := ab_r2 h
    exact fun k hk => (congrFun (congrFun q2.symm 75) k).trans (fr k hk)
  · obtain ⟨g6, h⟩ := ab_g h
    exact fun k hk => (v75l_X7_goesOn_48 hk31 n _ _ h k hk).trans (fr k hk)
theorem v75l_X7_goesOn_31 {n : Nat} {σr : am_Mem} {rr : Int} : ∀ (m : Nat) (σ : am_Mem), fl_X7_goesOn_31 n m σ = some (rr, σr) → ∀ k : Int, nf75_X7_goesOn k → σr 75 k = σ 75 k := by
  intro m
  induction m with
  | zero => intro σ h; cases h
  | succ m ih =>
    intro σ h
    exact v75b_X7_goesOn_31 (fun σ h => ih σ h) h
theorem v75_X7_goesOn {n : Nat} {p1 : Int} {σ σr : am_Mem} {rr : Int} (h : f_X7_goesOn n p1 σ = some (rr, σr)) : ∀ k : Int, nf75_X7_goesOn k → σr 75 k = σ 75 k := by
  unfold f_X7_goesOn at h
  have fr : ∀ k : Int, nf75_X7_goesOn k → σ 75 k = σ 75 k := fun _ _ => rfl
  rcases ab_i h with ⟨c1, h⟩ | ⟨c1, h⟩
  · obtain ⟨g2, h⟩ := ab_g h
    obtain ⟨σ3, e4, h⟩ := ab_1 h
    have fr := fun (k : Int) (hk : nf75_X7_goesOn k) => (congrFun (ab_fu e4 (show 75 ≠ 88 by omega)) k).trans (fr k hk)
    exact fun k hk => (v75l_X7_goesOn_31 n _ h k hk).trans (fr k hk)
  · obtain ⟨σ18, e19, h⟩ := ab_1 h
    have fr := fun (k : Int) (hk : nf75_X7_goesOn k) => (ab_fuj e19 (show k ≠ 20 by unfold nf75_X7_goesOn at hk; omega)).trans (fr k hk)
    exact fun k hk => (v75l_X7_goesOn_31 n _ h k hk).trans (fr k hk)
def nf75_X7_keeps (k : Int) : Prop := k ≠ 27 ∧ k ≠ 28 ∧ k ≠ 29
theorem v75b_X7_keeps_27 {n : Nat} {kh27 : Int → Int → am_Mem → Option am_Mem} {x1 : Int} {x2 : Int} {σ σr : am_Mem} (hk27 : ∀ (y1 : Int) (y2 : Int) (σ : am_Mem), kh27 y1 y2 σ = some σr → ∀ k : Int, nf75_X7_keeps k → σr 75 k = σ 75 k) (h : fb_X7_keeps_27 n kh27 x1 x2 σ = some σr) : ∀ k : Int, nf75_X7_keeps k → σr 75 k = σ 75 k := by
  unfold fb_X7_keeps_27 at h
  have fr : ∀ k : Int, nf75_X7_keeps k → σ 75 k = σ 75 k := fun _ _ => rfl
  rcases ab_i h with ⟨c8, h⟩ | ⟨c8, h⟩
  · obtain ⟨g9, h⟩ := ab_g h
    obtain ⟨σ10, e11, h⟩ := ab_1 h
    have fr := fun (k : Int) (hk : nf75_X7_keeps k) => (congrFun (ab_fu e11 (show 75 ≠ 92 by omega)) k).trans (fr k hk)
    exact fun k hk => (hk27 _ _ _ h k hk).trans (fr k hk)
  · have q2 := ab_r1 h
    exact fun k hk => (congrFun (congrFun q2.symm 75) k).trans (fr k hk)
theorem v75l_X7_keeps_27 {n : Nat} {σr : am_Mem} : ∀ (m : Nat) (x1 : Int) (x2 : Int) (σ : am_Mem), fl_X7_keeps_27 n m x1 x2 σ = some σr → ∀ k : Int, nf75_X7_keeps k → σr 75 k = σ 75 k := by
  intro m
  induction m with
  | zero => intro x1 x2 σ h; cases h
  | succ m ih =>
    intro x1 x2 σ h
    exact v75b_X7_keeps_27 (fun x1 x2 σ h => ih x1 x2 σ h) h
theorem v75_X7_keeps {n : Nat} {p1 : Int} {σ σr : am_Mem} (h : f_X7_keeps n p1 σ = some σr) : ∀ k : Int, nf75_X7_keeps k → σr 75 k = σ 75 k := by
  unfold f_X7_keeps at h
  have fr : ∀ k : Int, nf75_X7_keeps k → σ 75 k = σ 75 k := fun _ _ => rfl
  obtain ⟨g1, h⟩ := ab_g h
  obtain ⟨σ2, e3, h⟩ := ab_1 h
  have fr := fun (k : Int) (hk : nf75_X7_keeps k) => (ab_fuj e3 (show k ≠ 27 by unfold nf75_X7_keeps at hk; omega)).trans (fr k hk)
  obtain ⟨σ4, e5, h⟩ := ab_1 h
  have fr := fun (k : Int) (hk : nf75_X7_keeps k) => (ab_fuj e5 (show k ≠ 28 by unfold nf75_X7_keeps at hk; omega)).trans (fr k hk)
  obtain ⟨σ6, e7, h⟩ := ab_1 h
  have fr := fun (k : Int) (hk : nf75_X7_keeps k) => (ab_fuj e7 (show k ≠ 29 by unfold nf75_X7_keeps at hk; omega)).trans (fr k hk)
  exact fun k hk => (v75l_X7_keeps_27 n _ _ _ h k hk).trans (fr k hk)
def nf75_X7_finds (k : Int) : Prop := k ≠ 20 ∧ k ≠ 27 ∧ k ≠ 28 ∧ k ≠ 29
theorem v75b_X7_finds_80 {n : Nat} {kh19 : Int → Int → am_Mem → Option am_Mem} {x1 : Int} {s0 : Int} {σ σr : am_Mem} (hk19 : ∀ (y1 : Int) (y3 : Int) (σ : am_Mem), kh19 y1 y3 σ = some σr → ∀ k : Int, nf75_X7_finds k → σr 75 k = σ 75 k) (h : fb_X7_finds_80 n kh19 x1 s0 σ = some σr) : ∀ k : Int, nf75_X7_finds k → σr 75 k = σ 75 k := by
  unfold fb_X7_finds_80 at h
  have fr : ∀ k : Int, nf75_X7_finds k → σ 75 k = σ 75 k := fun _ _ => rfl
  obtain ⟨g10, h⟩ := ab_g h
  rcases ab_i h with ⟨c11, h⟩ | ⟨c11, h⟩
  · rcases ab_i h with ⟨c12, h⟩ | ⟨c12, h⟩
    · obtain ⟨r14, σ15, e13, h⟩ := ab_2 h
      have fr := fun (k : Int) (hk : nf75_X7_finds k) => (v75_X7_goesOn e13 k (by unfold nf75_X7_finds at hk; unfold nf75_X7_goesOn; omega)).trans (fr k hk)
      exact fun k hk => (hk19 _ _ _ h k hk).trans (fr k hk)
    · obtain ⟨σ18, e16, h⟩ := ab_1 h
      have fr := fun (k : Int) (hk : nf75_X7_finds k) => (v75_X7_keeps e16 k (by unfold nf75_X7_finds at hk; unfold nf75_X7_keeps; omega)).trans (fr k hk)
      obtain ⟨r20, σ21, e19, h⟩ := ab_2 h
      have fr := fun (k : Int) (hk : nf75_X7_finds k) => (v75_X7_goesOn e19 k (by unfold nf75_X7_finds at hk; unfold nf75_X7_goesOn; omega)).trans (fr k hk)
      exact fun k hk => (hk19 _ _ _ h k hk).trans (fr k hk)
  · obtain ⟨r23, σ24, e22, h⟩ := ab_2 h
    have fr := fun (k : Int) (hk : nf75_X7_finds k) => (v75_X7_goesOn e22 k (by unfold nf75_X7_finds at hk; unfold nf75_X7_goesOn; omega)).trans (fr k hk)
    exact fun k hk => (hk19 _ _ _ h k hk).trans (fr k hk)
theorem v75b_X7_finds_19 {n : Nat} {kh19 : Int → Int → am_Mem → Option am_Mem} {x1 : Int} {x3 : Int} {σ σr : am_Mem} (hk19 : ∀ (y1 : Int) (y3 : Int) (σ : am_Mem), kh19 y1 y3 σ = some σr → ∀ k : Int, nf75_X7_finds k → σr 75 k = σ 75 k) (h : fb_X7_finds_19 n kh19 x1 x3 σ = some σr) : ∀ k : Int, nf75_X7_finds k → σr 75 k = σ 75 k := by
  unfold fb_X7_finds_19 at h
  have fr : ∀ k : Int, nf75_X7_finds k → σ 75 k = σ 75 k := fun _ _ => rfl
  rcases ab_i h with ⟨c8, h⟩ | ⟨c8, h⟩
  · have q2 := ab_r1 h
    exact fun k hk => (congrFun (congrFun q2.symm 75) k).trans (fr k hk)
  · rcases ab_i h with ⟨c9, h⟩ | ⟨c9, h⟩
    · exact fun k hk => (v75b_X7_finds_80 hk19 h k hk).trans (fr k hk)
    · obtain ⟨g25, h⟩ := ab_g h
      rcases ab_i h with ⟨c26, h⟩ | ⟨c26, h⟩
      · exact fun k hk => (v75b_X7_finds_80 hk19 h k hk).trans (fr k hk)
      · rcases ab_i h with ⟨c27, h⟩ | ⟨c27, h⟩
        · rcases ab_i h with ⟨c28, h⟩ | ⟨c28, h⟩
          · exact fun k hk => (v75b_X7_finds_80 hk19 h k hk).trans (fr k hk)
          · exact fun k hk => (v75b_X7_finds_80 hk19 h k hk).trans (fr k hk)
        · exact fun k hk => (v75b_X7_finds_80 hk19 h k hk).trans (fr k hk)
theorem v75l_X7_finds_19 {n : Nat} {σr : am_Mem} : ∀ (m : Nat) (x1 : Int) (x3 : Int) (σ : am_Mem), fl_X7_finds_19 n m x1 x3 σ = some σr → ∀ k : Int, nf75_X7_finds k → σr 75 k = σ 75 k := by
  intro m
  induction m with
  | zero => intro x1 x3 σ h; cases h
  | succ m ih =>
    intro x1 x3 σ h
    exact v75b_X7_finds_19 (fun x1 x3 σ h => ih x1 x3 σ h) h
theorem v75_X7_finds {n : Nat} {p1 : Int} {p2 : Int} {σ σr : am_Mem} (h : f_X7_finds n p1 p2 σ = some σr) : ∀ k : Int, nf75_X7_finds k → σr 75 k = σ 75 k := by
  unfold f_X7_finds at h
  have fr : ∀ k : Int, nf75_X7_finds k → σ 75 k = σ 75 k := fun _ _ => rfl
  obtain ⟨σ3, e1, h⟩ := ab_1 h
  have fr := fun (k : Int) (hk : nf75_X7_finds k) => (v75_X7_begins e1 k (by unfold nf75_X7_finds at hk; unfold nf75_X7_begins; omega)).trans (fr k hk)
  obtain ⟨σ4, e5, h⟩ := ab_1 h
  have fr := fun (k : Int) (hk : nf75_X7_finds k) => (congrFun (ab_fu e5 (show 75 ≠ 83 by omega)) k).trans (fr k hk)
  obtain ⟨σ6, e7, h⟩ := ab_1 h
  have fr := fun (k : Int) (hk : nf75_X7_finds k) => (ab_fuj e7 (show k ≠ 27 by unfold nf75_X7_finds at hk; omega)).trans (fr k hk)
  exact fun k hk => (v75l_X7_finds_19 n _ _ _ h k hk).trans (fr k hk)
def nf75_X7_cheapest (k : Int) : Prop := k ≠ 20 ∧ k ≠ 27 ∧ k ≠ 28 ∧ k ≠ 29
theorem v75_X7_cheapest {n : Nat} {p1 : Int} {p2 : Int} {σ σr : am_Mem} {rr : Int} (h : f_X7_cheapest n p1 p2 σ = some (rr, σr)) : ∀ k : Int, nf75_X7_cheapest k → σr 75 k = σ 75 k := by
  unfold f_X7_cheapest at h
  have fr : ∀ k : Int, nf75_X7_cheapest k → σ 75 k = σ 75 k := fun _ _ => rfl
  obtain ⟨r2, σ3, e1, h⟩ := ab_2 h
  have fr := fun (k : Int) (hk : nf75_X7_cheapest k) => (congrFun (congrFun (u_X7_isCorner e1) 75) k).trans (fr k hk)
  rcases ab_i h with ⟨c4, h⟩ | ⟨c4, h⟩
  · obtain ⟨q1, q2⟩ := ab_r2 h
    exact fun k hk => (congrFun (congrFun q2.symm 75) k).trans (fr k hk)
  · obtain ⟨r6, σ7, e5, h⟩ := ab_2 h
    have fr := fun (k : Int) (hk : nf75_X7_cheapest k) => (congrFun (congrFun (u_X7_in e5) 75) k).trans (fr k hk)
    rcases ab_i h with ⟨c8, h⟩ | ⟨c8, h⟩
    · obtain ⟨q1, q2⟩ := ab_r2 h
      exact fun k hk => (congrFun (congrFun q2.symm 75) k).trans (fr k hk)
    · obtain ⟨σ11, e9, h⟩ := ab_1 h
      have fr := fun (k : Int) (hk : nf75_X7_cheapest k) => (v75_X7_finds e9 k (by unfold nf75_X7_cheapest at hk; unfold nf75_X7_finds; omega)).trans (fr k hk)
      obtain ⟨r13, σ14, e12, h⟩ := ab_2 h
      have fr := fun (k : Int) (hk : nf75_X7_cheapest k) => (congrFun (congrFun (u_X7_told e12) 75) k).trans (fr k hk)
      obtain ⟨q1, q2⟩ := ab_r2 h
      exact fun k hk => (congrFun (congrFun q2.symm 75) k).trans (fr k hk)
def nf75_X7_dearest (k : Int) : Prop := k ≠ 20 ∧ k ≠ 27 ∧ k ≠ 28 ∧ k ≠ 29
theorem v75b_X7_dearest_82 {n : Nat} {kh46 : Int → Int → Int → am_Mem → Option (Int × am_Mem)} {x1 : Int} {x2 : Int} {σ σr : am_Mem} {rr : Int} (hk46 : ∀ (y1 : Int) (y2 : Int) (y3 : Int) (σ : am_Mem), kh46 y1 y2 y3 σ = some (rr, σr) → ∀ k : Int, nf75_X7_dearest k → σr 75 k = σ 75 k) (h : fb_X7_dearest_82 n kh46 x1 x2 σ = some (rr, σr)) : ∀ k : Int, nf75_X7_dearest k → σr 75 k = σ 75 k := by
  unfold fb_X7_dearest_82 at h
  have fr : ∀ k : Int, nf75_X7_dearest k → σ 75 k = σ 75 k := fun _ _ => rfl
  rcases ab_i h with ⟨c25, h⟩ | ⟨c25, h⟩
  · exact fun k hk => (hk46 _ _ _ _ h k hk).trans (fr k hk)
  · obtain ⟨r27, σ28, e26, h⟩ := ab_2 h
    have fr := fun (k : Int) (hk : nf75_X7_dearest k) => (v75_X7_goesOn e26 k (by unfold nf75_X7_dearest at hk; unfold nf75_X7_goesOn; omega)).trans (fr k hk)
    rcases ab_i h with ⟨c29, h⟩ | ⟨c29, h⟩
    · exact fun k hk => (hk46 _ _ _ _ h k hk).trans (fr k hk)
    · exact fun k hk => (hk46 _ _ _ _ h k hk).trans (fr k hk)
theorem v75b_X7_dearest_46 {n : Nat} {kh46 : Int → Int → Int → am_Mem → Option (Int × am_Mem)} {x1 : Int} {x2 : Int} {x3 : Int} {σ σr : am_Mem} {rr : Int} (hk46 : ∀ (y1 : Int) (y2 : Int) (y3 : Int) (σ : am_Mem), kh46 y1 y2 y3 σ = some (rr, σr) → ∀ k : Int, nf75_X7_dearest k → σr 75 k = σ 75 k) (h : fb_X7_dearest_46 n kh46 x1 x2 x3 σ = some (rr, σr)) : ∀ k : Int, nf75_X7_dearest k → σr 75 k = σ 75 k := by
  unfold fb_X7_dearest_46 at h
  have fr : ∀ k : Int, nf75_X7_dearest k → σ 75 k = σ 75 k := fun _ _ => rfl
  rcases ab_i h with ⟨c18, h⟩ | ⟨c18, h⟩
  · obtain ⟨r20, σ21, e19, h⟩ := ab_2 h
    have fr := fun (k : Int) (hk : nf75_X7_dearest k) => (congrFun (congrFun (u_X7_told e19) 75) k).trans (fr k hk)
    obtain ⟨q1, q2⟩ := ab_r2 h
    exact fun k hk => (congrFun (congrFun q2.symm 75) k).trans (fr k hk)
  · rcases ab_i h with ⟨c22, h⟩ | ⟨c22, h⟩
    · obtain ⟨g23, h⟩ := ab_g h
      rcases ab_i h with ⟨c24, h⟩ | ⟨c24, h⟩
      · exact fun k hk => (v75b_X7_dearest_82 hk46 h k hk).trans (fr k hk)
      · obtain ⟨σ32, e30, h⟩ := ab_1 h
        have fr := fun (k : Int) (hk : nf75_X7_dearest k) => (v75_X7_keeps e30 k (by unfold nf75_X7_dearest at hk; unfold nf75_X7_keeps; omega)).trans (fr k hk)
        exact fun k hk => (v75b_X7_dearest_82 hk46 h k hk).trans (fr k hk)
    · exact fun k hk => (v75b_X7_dearest_82 hk46 h k hk).trans (fr k hk)
theorem v75l_X7_dearest_46 {n : Nat} {σr : am_Mem} {rr : Int} : ∀ (m : Nat) (x1 : Int) (x2 : Int) (x3 : Int) (σ : am_Mem), fl_X7_dearest_46 n m x1 x2 x3 σ = some (rr, σr) → ∀ k : Int, nf75_X7_dearest k → σr 75 k = σ 75 k := by
  intro m
  induction m with
  | zero => intro x1 x2 x3 σ h; cases h
  | succ m ih =>
    intro x1 x2 x3 σ h
    exact v75b_X7_dearest_46 (fun x1 x2 x3 σ h => ih x1 x2 x3 σ h) h
theorem v75_X7_dearest {n : Nat} {p1 : Int} {p2 : Int} {σ σr : am_Mem} {rr : Int} (h : f_X7_dearest n p1 p2 σ = some (rr, σr)) : ∀ k : Int, nf75_X7_dearest k → σr 75 k = σ 75 k := by
  unfold f_X7_dearest at h
  have fr : ∀ k : Int, nf75_X7_dearest k → σ 75 k = σ 75 k := fun _ _ => rfl
  obtain ⟨r2, σ3, e1, h⟩ := ab_2 h
  have fr := fun (k : Int) (hk : nf75_X7_dearest k) => (congrFun (congrFun (u_X7_isTown e1) 75) k).trans (fr k hk)
  rcases ab_i h with ⟨c4, h⟩ | ⟨c4, h⟩
  · obtain ⟨q1, q2⟩ := ab_r2 h
    exact fun k hk => (congrFun (congrFun q2.symm 75) k).trans (fr k hk)
  · obtain ⟨r6, σ7, e5, h⟩ := ab_2 h
    have fr := fun (k : Int) (hk : nf75_X7_dearest k) => (congrFun (congrFun (u_X7_in e5) 75) k).trans (fr k hk)
    rcases ab_i h with ⟨c8, h⟩ | ⟨c8, h⟩
    · obtain ⟨q1, q2⟩ := ab_r2 h
      exact fun k hk => (congrFun (congrFun q2.symm 75) k).trans (fr k hk)
    · obtain ⟨r10, σ11, e9, h⟩ := ab_2 h
      have fr := fun (k : Int) (hk : nf75_X7_dearest k) => (congrFun (congrFun (u_X7_in e9) 75) k).trans (fr k hk)
      rcases ab_i h with ⟨c12, h⟩ | ⟨c12, h⟩
      · obtain ⟨q1, q2⟩ := ab_r2 h
        exact fun k hk => (congrFun (congrFun q2.symm 75) k).trans (fr k hk)
      · obtain ⟨σ15, e13, h⟩ := ab_1 h
        have fr := fun (k : Int) (hk : nf75_X7_dearest k) => (v75_X7_begins e13 k (by unfold nf75_X7_dearest at hk; unfold nf75_X7_begins; omega)).trans (fr k hk)
        obtain ⟨σ16, e17, h⟩ := ab_1 h
        have fr := fun (k : Int) (hk : nf75_X7_dearest k) => (ab_fuj e17 (show k ≠ 27 by unfold nf75_X7_dearest at hk; omega)).trans (fr k hk)
        exact fun k hk => (v75l_X7_dearest_46 n _ _ _ _ h k hk).trans (fr k hk)
def nf75_X7_moods (k : Int) : Prop := k ≠ 20
theorem v75b_X7_moods_72 {n : Nat} {kh30 : Int → Int → Int → Int → am_Mem → Option (Int × am_Mem)} {x1 : Int} {x2 : Int} {s0 : Int} {s1 : Int} {σ σr : am_Mem} {rr : Int} (hk30 : ∀ (y1 : Int) (y2 : Int) (y3 : Int) (y4 : Int) (σ : am_Mem), kh30 y1 y2 y3 y4 σ = some (rr, σr) → ∀ k : Int, nf75_X7_moods k → σr 75 k = σ 75 k) (h : fb_X7_moods_72 n kh30 x1 x2 s0 s1 σ = some (rr, σr)) : ∀ k : Int, nf75_X7_moods k → σr 75 k = σ 75 k := by
  unfold fb_X7_moods_72 at h
  have fr : ∀ k : Int, nf75_X7_moods k → σ 75 k = σ 75 k := fun _ _ => rfl
  rcases ab_i h with ⟨c16, h⟩ | ⟨c16, h⟩
  · exact fun k hk => (hk30 _ _ _ _ _ h k hk).trans (fr k hk)
  · obtain ⟨r18, σ19, e17, h⟩ := ab_2 h
    have fr := fun (k : Int) (hk : nf75_X7_moods k) => (v75_X7_goesOn e17 k (by unfold nf75_X7_moods at hk; unfold nf75_X7_goesOn; omega)).trans (fr k hk)
    rcases ab_i h with ⟨c20, h⟩ | ⟨c20, h⟩
    · exact fun k hk => (hk30 _ _ _ _ _ h k hk).trans (fr k hk)
    · exact fun k hk => (hk30 _ _ _ _ _ h k hk).trans (fr k hk)
theorem v75b_X7_moods_30 {n : Nat} {kh30 : Int → Int → Int → Int → am_Mem → Option (Int × am_Mem)} {x1 : Int} {x2 : Int} {x3 : Int} {x4 : Int} {σ σr : am_Mem} {rr : Int} (hk30 : ∀ (y1 : Int) (y2 : Int) (y3 : Int) (y4 : Int) (σ : am_Mem), kh30 y1 y2 y3 y4 σ = some (rr, σr) → ∀ k : Int, nf75_X7_moods k → σr 75 k = σ 75 k) (h : fb_X7_moods_30 n kh30 x1 x2 x3 x4 σ = some (rr, σr)) : ∀ k : Int, nf75_X7_moods k → σr 75 k = σ 75 k := by
  unfold fb_X7_moods_30 at h
  have fr : ∀ k : Int, nf75_X7_moods k → σ 75 k = σ 75 k := fun _ _ => rfl
  rcases ab_i h with ⟨c12, h⟩ | ⟨c12, h⟩
  · obtain ⟨q1, q2⟩ := ab_r2 h
    exact fun k hk => (congrFun (congrFun q2.symm 75) k).trans (fr k hk)
  · rcases ab_i h with ⟨c13, h⟩ | ⟨c13, h⟩
    · obtain ⟨g14, h⟩ := ab_g h
      rcases ab_i h with ⟨c15, h⟩ | ⟨c15, h⟩
      · exact fun k hk => (v75b_X7_moods_72 hk30 h k hk).trans (fr k hk)
      · exact fun k hk => (v75b_X7_moods_72 hk30 h k hk).trans (fr k hk)
    · exact fun k hk => (v75b_X7_moods_72 hk30 h k hk).trans (fr k hk)
theorem v75l_X7_moods_30 {n : Nat} {σr : am_Mem} {rr : Int} : ∀ (m : Nat) (x1 : Int) (x2 : Int) (x3 : Int) (x4 : Int) (σ : am_Mem), fl_X7_moods_30 n m x1 x2 x3 x4 σ = some (rr, σr) → ∀ k : Int, nf75_X7_moods k → σr 75 k = σ 75 k := by
  intro m
  induction m with
  | zero => intro x1 x2 x3 x4 σ h; cases h
  | succ m ih =>
    intro x1 x2 x3 x4 σ h
    exact v75b_X7_moods_30 (fun x1 x2 x3 x4 σ h => ih x1 x2 x3 x4 σ h) h
theorem v75_X7_moods {n : Nat} {p1 : Int} {p2 : Int} {σ σr : am_Mem} {rr : Int} (h : f_X7_moods n p1 p2 σ = some (rr, σr)) : ∀ k : Int, nf75_X7_moods k → σr 75 k = σ 75 k := by
  unfold f_X7_moods at h
  have fr : ∀ k : Int, nf75_X7_moods k → σ 75 k = σ 75 k := fun _ _ => rfl
  obtain ⟨r2, σ3, e1, h⟩ := ab_2 h
  have fr := fun (k : Int) (hk : nf75_X7_moods k) => (congrFun (congrFun (u_X7_isCorner e1) 75) k).trans (fr k hk)
  rcases ab_i h with ⟨c4, h⟩ | ⟨c4, h⟩
  · obtain ⟨q1, q2⟩ := ab_r2 h
    exact fun k hk => (congrFun (congrFun q2.symm 75) k).trans (fr k hk)
  · obtain ⟨r6, σ7, e5, h⟩ := ab_2 h
    have fr := fun (k : Int) (hk : nf75_X7_moods k) => (congrFun (congrFun (u_X7_in e5) 75) k).trans (fr k hk)
    rcases ab_i h with ⟨c8, h⟩ | ⟨c8, h⟩
    · obtain ⟨q1, q2⟩ := ab_r2 h
      exact fun k hk => (congrFun (congrFun q2.symm 75) k).trans (fr k hk)
    · obtain ⟨σ11, e9, h⟩ := ab_1 h
      have fr := fun (k : Int) (hk : nf75_X7_moods k) => (v75_X7_begins e9 k (by unfold nf75_X7_moods at hk; unfold nf75_X7_begins; omega)).trans (fr k hk)
      exact fun k hk => (v75l_X7_moods_30 n _ _ _ _ _ h k hk).trans (fr k hk)
def nf75_X7_gets (k : Int) : Prop := k ≠ 20 ∧ k ≠ 27 ∧ k ≠ 28 ∧ k ≠ 29
theorem v75b_X7_gets_45 {n : Nat} {kh45 : Int → Int → Int → am_Mem → Option (Int × am_Mem)} {x1 : Int} {x2 : Int} {x3 : Int} {σ σr : am_Mem} {rr : Int} (hk45 : ∀ (y1 : Int) (y2 : Int) (y3 : Int) (σ : am_Mem), kh45 y1 y2 y3 σ = some (rr, σr) → ∀ k : Int, nf75_X7_gets k → σr 75 k = σ 75 k) (h : fb_X7_gets_45 n kh45 x1 x2 x3 σ = some (rr, σr)) : ∀ k : Int, nf75_X7_gets k → σr 75 k = σ 75 k := by
  unfold fb_X7_gets_45 at h
  have fr : ∀ k : Int, nf75_X7_gets k → σ 75 k = σ 75 k := fun _ _ => rfl
  rcases ab_i h with ⟨c18, h⟩ | ⟨c18, h⟩
  · rcases ab_i h with ⟨c19, h⟩ | ⟨c19, h⟩
    · obtain ⟨q1, q2⟩ := ab_r2 h
      exact fun k hk => (congrFun (congrFun q2.symm 75) k).trans (fr k hk)
    · rcases ab_i h with ⟨c20, h⟩ | ⟨c20, h⟩
      · obtain ⟨q1, q2⟩ := ab_r2 h
        exact fun k hk => (congrFun (congrFun q2.symm 75) k).trans (fr k hk)
      · rcases ab_i h with ⟨c21, h⟩ | ⟨c21, h⟩
        · obtain ⟨g22, h⟩ := ab_g h
          obtain ⟨q1, q2⟩ := ab_r2 h
          exact fun k hk => (congrFun (congrFun q2.symm 75) k).trans (fr k hk)
        · obtain ⟨q1, q2⟩ := ab_r2 h
          exact fun k hk => (congrFun (congrFun q2.symm 75) k).trans (fr k hk)
  · obtain ⟨g23, h⟩ := ab_g h
    rcases ab_i h with ⟨c24, h⟩ | ⟨c24, h⟩
    · rcases ab_i h with ⟨c25, h⟩ | ⟨c25, h⟩
      · obtain ⟨σ28, e26, h⟩ := ab_1 h
        have fr := fun (k : Int) (hk : nf75_X7_gets k) => (v75_X7_keeps e26 k (by unfold nf75_X7_gets at hk; unfold nf75_X7_keeps; omega)).trans (fr k hk)
        obtain ⟨r30, σ31, e29, h⟩ := ab_2 h
        have fr := fun (k : Int) (hk : nf75_X7_gets k) => (v75_X7_goesOn e29 k (by unfold nf75_X7_gets at hk; unfold nf75_X7_goesOn; omega)).trans (fr k hk)
        exact fun k hk => (hk45 _ _ _ _ h k hk).trans (fr k hk)
      · rcases ab_i h with ⟨c32, h⟩ | ⟨c32, h⟩
        · obtain ⟨σ35, e33, h⟩ := ab_1 h
          have fr := fun (k : Int) (hk : nf75_X7_gets k) => (v75_X7_keeps e33 k (by unfold nf75_X7_gets at hk; unfold nf75_X7_keeps; omega)).trans (fr k hk)
          obtain ⟨r37, σ38, e36, h⟩ := ab_2 h
          have fr := fun (k : Int) (hk : nf75_X7_gets k) => (v75_X7_goesOn e36 k (by unfold nf75_X7_gets at hk; unfold nf75_X7_goesOn; omega)).trans (fr k hk)
          exact fun k hk => (hk45 _ _ _ _ h k hk).trans (fr k hk)
        · obtain ⟨r40, σ41, e39, h⟩ := ab_2 h
          have fr := fun (k : Int) (hk : nf75_X7_gets k) => (v75_X7_goesOn e39 k (by unfold nf75_X7_gets at hk; unfold nf75_X7_goesOn; omega)).trans (fr k hk)
          exact fun k hk => (hk45 _ _ _ _ h k hk).trans (fr k hk)
    · obtain ⟨r43, σ44, e42, h⟩ := ab_2 h
      have fr := fun (k : Int) (hk : nf75_X7_gets k) => (v75_X7_goesOn e42 k (by unfold nf75_X7_gets at hk; unfold nf75_X7_goesOn; omega)).trans (fr k hk)
      exact fun k hk => (hk45 _ _ _ _ h k hk).trans (fr k hk)
theorem v75l_X7_gets_45 {n : Nat} {σr : am_Mem} {rr : Int} : ∀ (m : Nat) (x1 : Int) (x2 : Int) (x3 : Int) (σ : am_Mem), fl_X7_gets_45 n m x1 x2 x3 σ = some (rr, σr) → ∀ k : Int, nf75_X7_gets k → σr 75 k = σ 75 k := by
  intro m
  induction m with
  | zero => intro x1 x2 x3 σ h; cases h
  | succ m ih =>
    intro x1 x2 x3 σ h
    exact v75b_X7_gets_45 (fun x1 x2 x3 σ h => ih x1 x2 x3 σ h) h
theorem v75_X7_gets {n : Nat} {p1 : Int} {p2 : Int} {σ σr : am_Mem} {rr : Int} (h : f_X7_gets n p1 p2 σ = some (rr, σr)) : ∀ k : Int, nf75_X7_gets k → σr 75 k = σ 75 k := by
  unfold f_X7_gets at h
  have fr : ∀ k : Int, nf75_X7_gets k → σ 75 k = σ 75 k := fun _ _ => rfl
  obtain ⟨r2, σ3, e1, h⟩ := ab_2 h
  have fr := fun (k : Int) (hk : nf75_X7_gets k) => (congrFun (congrFun (u_X7_isTown e1) 75) k).trans (fr k hk)
  rcases ab_i h with ⟨c4, h⟩ | ⟨c4, h⟩
  · obtain ⟨q1, q2⟩ := ab_r2 h
    exact fun k hk => (congrFun (congrFun q2.symm 75) k).trans (fr k hk)
  · obtain ⟨r6, σ7, e5, h⟩ := ab_2 h
    have fr := fun (k : Int) (hk : nf75_X7_gets k) => (congrFun (congrFun (u_X7_in e5) 75) k).trans (fr k hk)
    rcases ab_i h with ⟨c8, h⟩ | ⟨c8, h⟩
    · obtain ⟨q1, q2⟩ := ab_r2 h
      exact fun k hk => (congrFun (congrFun q2.symm 75) k).trans (fr k hk)
    · obtain ⟨r10, σ11, e9, h⟩ := ab_2 h
      have fr := fun (k : Int) (hk : nf75_X7_gets k) => (congrFun (congrFun (u_X7_in e9) 75) k).trans (fr k hk)
      rcases ab_i h with ⟨c12, h⟩ | ⟨c12, h⟩
      · obtain ⟨q1, q2⟩ := ab_r2 h
        exact fun k hk => (congrFun (congrFun q2.symm 75) k).trans (fr k hk)
      · obtain ⟨σ15, e13, h⟩ := ab_1 h
        have fr := fun (k : Int) (hk : nf75_X7_gets k) => (v75_X7_begins e13 k (by unfold nf75_X7_gets at hk; unfold nf75_X7_begins; omega)).trans (fr k hk)
        obtain ⟨σ16, e17, h⟩ := ab_1 h
        have fr := fun (k : Int) (hk : nf75_X7_gets k) => (ab_fuj e17 (show k ≠ 27 by unfold nf75_X7_gets at hk; omega)).trans (fr k hk)
        exact fun k hk => (v75l_X7_gets_45 n _ _ _ _ h k hk).trans (fr k hk)
def nf75_X7_all (k : Int) : Prop := k ≠ 4
theorem v75b_X7_all_6 {n : Nat} {kh6 : Int → Int → Int → Int → Int → Int → Int → am_Mem → Option (Int × am_Mem)} {x1 : Int} {x3 : Int} {x4 : Int} {x5 : Int} {x6 : Int} {x7 : Int} {x8 : Int} {σ σr : am_Mem} {rr : Int} (hk6 : ∀ (y1 : Int) (y3 : Int) (y4 : Int) (y5 : Int) (y6 : Int) (y7 : Int) (y8 : Int) (σ : am_Mem), kh6 y1 y3 y4 y5 y6 y7 y8 σ = some (rr, σr) → ∀ k : Int, nf75_X7_all k → σr 75 k = σ 75 k) (h : fb_X7_all_6 n kh6 x1 x3 x4 x5 x6 x7 x8 σ = some (rr, σr)) : ∀ k : Int, nf75_X7_all k → σr 75 k = σ 75 k := by
  unfold fb_X7_all_6 at h
  have fr : ∀ k : Int, nf75_X7_all k → σ 75 k = σ 75 k := fun _ _ => rfl
  rcases ab_i h with ⟨c1, h⟩ | ⟨c1, h⟩
  · obtain ⟨σ4, e2, h⟩ := ab_1 h
    have fr := fun (k : Int) (hk : nf75_X7_all k) => (congrFun (w_X7_copies e2 75 (by unfold nw_X7_copies; omega)) k).trans (fr k hk)
    obtain ⟨g5, h⟩ := ab_g h
    obtain ⟨σ6, e7, h⟩ := ab_1 h
    have fr := fun (k : Int) (hk : nf75_X7_all k) => (congrFun (ab_fu e7 (show 75 ≠ 83 by omega)) k).trans (fr k hk)
    obtain ⟨r9, σ10, e8, h⟩ := ab_2 h
    have fr := fun (k : Int) (hk : nf75_X7_all k) => (congrFun (w_X7_goesSo e8 75 (by unfold nw_X7_goesSo; omega)) k).trans (fr k hk)
    rcases ab_i h with ⟨c11, h⟩ | ⟨c11, h⟩
    · exact fun k hk => (hk6 _ _ _ _ _ _ _ _ h k hk).trans (fr k hk)
    · exact fun k hk => (hk6 _ _ _ _ _ _ _ _ h k hk).trans (fr k hk)
  · obtain ⟨r13, σ14, e12, h⟩ := ab_2 h
    have fr := fun (k : Int) (hk : nf75_X7_all k) => (v75_X7_well e12 k (by unfold nf75_X7_all at hk; unfold nf75_X7_well; omega)).trans (fr k hk)
    obtain ⟨q1, q2⟩ := ab_r2 h
    exact fun k hk => (congrFun (congrFun q2.symm 75) k).trans (fr k hk)
theorem v75l_X7_all_6 {n : Nat} {σr : am_Mem} {rr : Int} : ∀ (m : Nat) (x1 : Int) (x3 : Int) (x4 : Int) (x5 : Int) (x6 : Int) (x7 : Int) (x8 : Int) (σ : am_Mem), fl_X7_all_6 n m x1 x3 x4 x5 x6 x7 x8 σ = some (rr, σr) → ∀ k : Int, nf75_X7_all k → σr 75 k = σ 75 k := by
  intro m
  induction m with
  | zero => intro x1 x3 x4 x5 x6 x7 x8 σ h; cases h
  | succ m ih =>
    intro x1 x3 x4 x5 x6 x7 x8 σ h
    exact v75b_X7_all_6 (fun x1 x3 x4 x5 x6 x7 x8 σ h => ih x1 x3 x4 x5 x6 x7 x8 σ h) h
theorem v75_X7_all {n : Nat} {p1 : Int} {p2 : Int} {p3 : Int} {p4 : Int} {p5 : Int} {p6 : Int} {σ σr : am_Mem} {rr : Int} (h : f_X7_all n p1 p2 p3 p4 p5 p6 σ = some (rr, σr)) : ∀ k : Int, nf75_X7_all k → σr 75 k = σ 75 k := by
  unfold f_X7_all at h
  have fr : ∀ k : Int, nf75_X7_all k → σ 75 k = σ 75 k := fun _ _ => rfl
  exact fun k hk => (v75l_X7_all_6 n _ _ _ _ _ _ _ _ h k hk).trans (fr k hk)
def nf75_X7_bar (k : Int) : Prop := k ≠ 4
theorem v75_X7_bar {n : Nat} {p1 : Int} {p2 : Int} {p3 : Int} {p4 : Int} {p5 : Int} {σ σr : am_Mem} {rr : Int} (h : f_X7_bar n p1 p2 p3 p4 p5 σ = some (rr, σr)) : ∀ k : Int, nf75_X7_bar k → σr 75 k = σ 75 k := by
  unfold f_X7_bar at h
  have fr : ∀ k : Int, nf75_X7_bar k → σ 75 k = σ 75 k := fun _ _ => rfl
  obtain ⟨r2, σ3, e1, h⟩ := ab_2 h
  have fr := fun (k : Int) (hk : nf75_X7_bar k) => (congrFun (congrFun (u_X7_isMissing e1) 75) k).trans (fr k hk)
  rcases ab_i h with ⟨c4, h⟩ | ⟨c4, h⟩
  · obtain ⟨r6, σ7, e5, h⟩ := ab_2 h
    have fr := fun (k : Int) (hk : nf75_X7_bar k) => (congrFun (congrFun (u_X7_isPart e5) 75) k).trans (fr k hk)
    rcases ab_i h with ⟨c8, h⟩ | ⟨c8, h⟩
    · obtain ⟨r10, σ11, e9, h⟩ := ab_2 h
      have fr := fun (k : Int) (hk : nf75_X7_bar k) => (v75_X7_found e9 k (by unfold nf75_X7_bar at hk; unfold nf75_X7_found; omega)).trans (fr k hk)
      obtain ⟨q1, q2⟩ := ab_r2 h
      exact fun k hk => (congrFun (congrFun q2.symm 75) k).trans (fr k hk)
    · obtain ⟨r13, σ14, e12, h⟩ := ab_2 h
      have fr := fun (k : Int) (hk : nf75_X7_bar k) => (congrFun (congrFun (u_X7_isMissing e12) 75) k).trans (fr k hk)
      rcases ab_i h with ⟨c15, h⟩ | ⟨c15, h⟩
      · obtain ⟨r17, σ18, e16, h⟩ := ab_2 h
        have fr := fun (k : Int) (hk : nf75_X7_bar k) => (congrFun (congrFun (u_X7_isPart e16) 75) k).trans (fr k hk)
        rcases ab_i h with ⟨c19, h⟩ | ⟨c19, h⟩
        · obtain ⟨r21, σ22, e20, h⟩ := ab_2 h
          have fr := fun (k : Int) (hk : nf75_X7_bar k) => (v75_X7_found e20 k (by unfold nf75_X7_bar at hk; unfold nf75_X7_found; omega)).trans (fr k hk)
          obtain ⟨q1, q2⟩ := ab_r2 h
          exact fun k hk => (congrFun (congrFun q2.symm 75) k).trans (fr k hk)
        · obtain ⟨q1, q2⟩ := ab_r2 h
          exact fun k hk => (congrFun (congrFun q2.symm 75) k).trans (fr k hk)
      · obtain ⟨r24, σ25, e23, h⟩ := ab_2 h
        have fr := fun (k : Int) (hk : nf75_X7_bar k) => (v75_X7_found e23 k (by unfold nf75_X7_bar at hk; unfold nf75_X7_found; omega)).trans (fr k hk)
        obtain ⟨q1, q2⟩ := ab_r2 h
        exact fun k hk => (congrFun (congrFun q2.symm 75) k).trans (fr k hk)
  · obtain ⟨r27, σ28, e26, h⟩ := ab_2 h
    have fr := fun (k : Int) (hk : nf75_X7_bar k) => (v75_X7_found e26 k (by unfold nf75_X7_bar at hk; unfold nf75_X7_found; omega)).trans (fr k hk)
    obtain ⟨q1, q2⟩ := ab_r2 h
    exact fun k hk => (congrFun (congrFun q2.symm 75) k).trans (fr k hk)
def nf75_X7_fits (k : Int) : Prop := k ≠ 4
theorem v75_X7_fits {n : Nat} {p1 : Int} {p2 : Int} {p3 : Int} {p4 : Int} {p5 : Int} {p6 : Int} {σ σr : am_Mem} {rr : Int} (h : f_X7_fits n p1 p2 p3 p4 p5 p6 σ = some (rr, σr)) : ∀ k : Int, nf75_X7_fits k → σr 75 k = σ 75 k := by
  unfold f_X7_fits at h
  have fr : ∀ k : Int, nf75_X7_fits k → σ 75 k = σ 75 k := fun _ _ => rfl
  obtain ⟨r2, σ3, e1, h⟩ := ab_2 h
  have fr := fun (k : Int) (hk : nf75_X7_fits k) => (congrFun (congrFun (u_X7_isTown e1) 75) k).trans (fr k hk)
  rcases ab_i h with ⟨c4, h⟩ | ⟨c4, h⟩
  · obtain ⟨q1, q2⟩ := ab_r2 h
    exact fun k hk => (congrFun (congrFun q2.symm 75) k).trans (fr k hk)
  · obtain ⟨r6, σ7, e5, h⟩ := ab_2 h
    have fr := fun (k : Int) (hk : nf75_X7_fits k) => (congrFun (congrFun (u_X7_isRow e5) 75) k).trans (fr k hk)
    rcases ab_i h with ⟨c8, h⟩ | ⟨c8, h⟩
    · obtain ⟨q1, q2⟩ := ab_r2 h
      exact fun k hk => (congrFun (congrFun q2.symm 75) k).trans (fr k hk)
    · obtain ⟨r10, σ11, e9, h⟩ := ab_2 h
      have fr := fun (k : Int) (hk : nf75_X7_fits k) => (congrFun (congrFun (u_X7_isRow e9) 75) k).trans (fr k hk)
      rcases ab_i h with ⟨c12, h⟩ | ⟨c12, h⟩
      · obtain ⟨q1, q2⟩ := ab_r2 h
        exact fun k hk => (congrFun (congrFun q2.symm 75) k).trans (fr k hk)
      · obtain ⟨r14, σ15, e13, h⟩ := ab_2 h
        have fr := fun (k : Int) (hk : nf75_X7_fits k) => (congrFun (congrFun (u_X7_in e13) 75) k).trans (fr k hk)
        rcases ab_i h with ⟨c16, h⟩ | ⟨c16, h⟩
        · obtain ⟨q1, q2⟩ := ab_r2 h
          exact fun k hk => (congrFun (congrFun q2.symm 75) k).trans (fr k hk)
        · obtain ⟨r18, σ19, e17, h⟩ := ab_2 h
          have fr := fun (k : Int) (hk : nf75_X7_fits k) => (congrFun (congrFun (u_X7_in e17) 75) k).trans (fr k hk)
          rcases ab_i h with ⟨c20, h⟩ | ⟨c20, h⟩
          · obtain ⟨q1, q2⟩ := ab_r2 h
            exact fun k hk => (congrFun (congrFun q2.symm 75) k).trans (fr k hk)
          · obtain ⟨r22, σ23, e21, h⟩ := ab_2 h
            have fr := fun (k : Int) (hk : nf75_X7_fits k) => (v75_X7_bar e21 k (by unfold nf75_X7_fits at hk; unfold nf75_X7_bar; omega)).trans (fr k hk)
            rcases ab_i h with ⟨c24, h⟩ | ⟨c24, h⟩
            · rcases ab_i h with ⟨c25, h⟩ | ⟨c25, h⟩
              · obtain ⟨r27, σ28, e26, h⟩ := ab_2 h
                have fr := fun (k : Int) (hk : nf75_X7_fits k) => (v75_X7_all e26 k (by unfold nf75_X7_fits at hk; unfold nf75_X7_all; omega)).trans (fr k hk)
                obtain ⟨q1, q2⟩ := ab_r2 h
                exact fun k hk => (congrFun (congrFun q2.symm 75) k).trans (fr k hk)
              · obtain ⟨r30, σ31, e29, h⟩ := ab_2 h
                have fr := fun (k : Int) (hk : nf75_X7_fits k) => (v75_X7_all e29 k (by unfold nf75_X7_fits at hk; unfold nf75_X7_all; omega)).trans (fr k hk)
                obtain ⟨q1, q2⟩ := ab_r2 h
                exact fun k hk => (congrFun (congrFun q2.symm 75) k).trans (fr k hk)
            · obtain ⟨q1, q2⟩ := ab_r2 h
              exact fun k hk => (congrFun (congrFun q2.symm 75) k).trans (fr k hk)
def nf75_X7_fitsOf (k : Int) : Prop := k ≠ 4
theorem v75_X7_fitsOf {n : Nat} {p1 : Int} {p2 : Int} {p3 : Int} {p4 : Int} {p5 : Int} {p6 : Int} {p7 : Int} {σ σr : am_Mem} {rr : Int} (h : f_X7_fitsOf n p1 p2 p3 p4 p5 p6 p7 σ = some (rr, σr)) : ∀ k : Int, nf75_X7_fitsOf k → σr 75 k = σ 75 k := by
  unfold f_X7_fitsOf at h
  have fr : ∀ k : Int, nf75_X7_fitsOf k → σ 75 k = σ 75 k := fun _ _ => rfl
  obtain ⟨r2, σ3, e1, h⟩ := ab_2 h
  have fr := fun (k : Int) (hk : nf75_X7_fitsOf k) => (congrFun (congrFun (u_X7_isCorner e1) 75) k).trans (fr k hk)
  rcases ab_i h with ⟨c4, h⟩ | ⟨c4, h⟩
  · obtain ⟨q1, q2⟩ := ab_r2 h
    exact fun k hk => (congrFun (congrFun q2.symm 75) k).trans (fr k hk)
  · obtain ⟨r6, σ7, e5, h⟩ := ab_2 h
    have fr := fun (k : Int) (hk : nf75_X7_fitsOf k) => (congrFun (congrFun (u_X7_isRow e5) 75) k).trans (fr k hk)
    rcases ab_i h with ⟨c8, h⟩ | ⟨c8, h⟩
    · obtain ⟨q1, q2⟩ := ab_r2 h
      exact fun k hk => (congrFun (congrFun q2.symm 75) k).trans (fr k hk)
    · obtain ⟨r10, σ11, e9, h⟩ := ab_2 h
      have fr := fun (k : Int) (hk : nf75_X7_fitsOf k) => (congrFun (congrFun (u_X7_isRow e9) 75) k).trans (fr k hk)
      rcases ab_i h with ⟨c12, h⟩ | ⟨c12, h⟩
      · obtain ⟨q1, q2⟩ := ab_r2 h
        exact fun k hk => (congrFun (congrFun q2.symm 75) k).trans (fr k hk)
      · obtain ⟨r14, σ15, e13, h⟩ := ab_2 h
        have fr := fun (k : Int) (hk : nf75_X7_fitsOf k) => (congrFun (congrFun (u_X7_in e13) 75) k).trans (fr k hk)
        rcases ab_i h with ⟨c16, h⟩ | ⟨c16, h⟩
        · obtain ⟨q1, q2⟩ := ab_r2 h
          exact fun k hk => (congrFun (congrFun q2.symm 75) k).trans (fr k hk)
        · obtain ⟨r18, σ19, e17, h⟩ := ab_2 h
          have fr := fun (k : Int) (hk : nf75_X7_fitsOf k) => (congrFun (congrFun (u_X7_in e17) 75) k).trans (fr k hk)
          rcases ab_i h with ⟨c20, h⟩ | ⟨c20, h⟩
          · obtain ⟨q1, q2⟩ := ab_r2 h
            exact fun k hk => (congrFun (congrFun q2.symm 75) k).trans (fr k hk)
          · obtain ⟨r22, σ23, e21, h⟩ := ab_2 h
            have fr := fun (k : Int) (hk : nf75_X7_fitsOf k) => (v75_X7_bar e21 k (by unfold nf75_X7_fitsOf at hk; unfold nf75_X7_bar; omega)).trans (fr k hk)
            rcases ab_i h with ⟨c24, h⟩ | ⟨c24, h⟩
            · rcases ab_i h with ⟨c25, h⟩ | ⟨c25, h⟩
              · obtain ⟨r27, σ28, e26, h⟩ := ab_2 h
                have fr := fun (k : Int) (hk : nf75_X7_fitsOf k) => (v75_X7_all e26 k (by unfold nf75_X7_fitsOf at hk; unfold nf75_X7_all; omega)).trans (fr k hk)
                obtain ⟨q1, q2⟩ := ab_r2 h
                exact fun k hk => (congrFun (congrFun q2.symm 75) k).trans (fr k hk)
              · obtain ⟨r30, σ31, e29, h⟩ := ab_2 h
                have fr := fun (k : Int) (hk : nf75_X7_fitsOf k) => (v75_X7_all e29 k (by unfold nf75_X7_fitsOf at hk; unfold nf75_X7_all; omega)).trans (fr k hk)
                obtain ⟨q1, q2⟩ := ab_r2 h
                exact fun k hk => (congrFun (congrFun q2.symm 75) k).trans (fr k hk)
            · obtain ⟨q1, q2⟩ := ab_r2 h
              exact fun k hk => (congrFun (congrFun q2.symm 75) k).trans (fr k hk)
def nf75_X7_share (k : Int) : Prop := k ≠ 4
theorem v75b_X7_share_91 {n : Nat} {kh91 : Int → Int → Int → Int → Int → Int → am_Mem → Option (Int × am_Mem)} {x1 : Int} {x2 : Int} {x3 : Int} {x4 : Int} {x5 : Int} {x6 : Int} {σ σr : am_Mem} {rr : Int} (hk91 : ∀ (y1 : Int) (y2 : Int) (y3 : Int) (y4 : Int) (y5 : Int) (y6 : Int) (σ : am_Mem), kh91 y1 y2 y3 y4 y5 y6 σ = some (rr, σr) → ∀ k : Int, nf75_X7_share k → σr 75 k = σ 75 k) (h : fb_X7_share_91 n kh91 x1 x2 x3 x4 x5 x6 σ = some (rr, σr)) : ∀ k : Int, nf75_X7_share k → σr 75 k = σ 75 k := by
  unfold fb_X7_share_91 at h
  have fr : ∀ k : Int, nf75_X7_share k → σ 75 k = σ 75 k := fun _ _ => rfl
  rcases ab_i h with ⟨c31, h⟩ | ⟨c31, h⟩
  · obtain ⟨g32, h⟩ := ab_g h
    obtain ⟨r34, σ35, e33, h⟩ := ab_2 h
    have fr := fun (k : Int) (hk : nf75_X7_share k) => (congrFun (congrFun (u_X7_goes e33) 75) k).trans (fr k hk)
    rcases ab_i h with ⟨c36, h⟩ | ⟨c36, h⟩
    · obtain ⟨r38, σ39, e37, h⟩ := ab_2 h
      have fr := fun (k : Int) (hk : nf75_X7_share k) => (v75_X7_well e37 k (by unfold nf75_X7_share at hk; unfold nf75_X7_well; omega)).trans (fr k hk)
      obtain ⟨q1, q2⟩ := ab_r2 h
      exact fun k hk => (congrFun (congrFun q2.symm 75) k).trans (fr k hk)
    · rcases ab_i h with ⟨c40, h⟩ | ⟨c40, h⟩
      · obtain ⟨σ43, e41, h⟩ := ab_1 h
        have fr := fun (k : Int) (hk : nf75_X7_share k) => (congrFun (w_X7_rides e41 75 (by unfold nw_X7_rides; omega)) k).trans (fr k hk)
        exact fun k hk => (hk91 _ _ _ _ _ _ _ h k hk).trans (fr k hk)
      · obtain ⟨g44, h⟩ := ab_g h
        obtain ⟨r46, σ47, e45, h⟩ := ab_2 h
        have fr := fun (k : Int) (hk : nf75_X7_share k) => (congrFun (congrFun (u_X7_cost e45) 75) k).trans (fr k hk)
        obtain ⟨σ50, e48, h⟩ := ab_1 h
        have fr := fun (k : Int) (hk : nf75_X7_share k) => (congrFun (w_X7_rides e48 75 (by unfold nw_X7_rides; omega)) k).trans (fr k hk)
        exact fun k hk => (hk91 _ _ _ _ _ _ _ h k hk).trans (fr k hk)
  · obtain ⟨r52, σ53, e51, h⟩ := ab_2 h
    have fr := fun (k : Int) (hk : nf75_X7_share k) => (v75_X7_well e51 k (by unfold nf75_X7_share at hk; unfold nf75_X7_well; omega)).trans (fr k hk)
    obtain ⟨q1, q2⟩ := ab_r2 h
    exact fun k hk => (congrFun (congrFun q2.symm 75) k).trans (fr k hk)
theorem v75l_X7_share_91 {n : Nat} {σr : am_Mem} {rr : Int} : ∀ (m : Nat) (x1 : Int) (x2 : Int) (x3 : Int) (x4 : Int) (x5 : Int) (x6 : Int) (σ : am_Mem), fl_X7_share_91 n m x1 x2 x3 x4 x5 x6 σ = some (rr, σr) → ∀ k : Int, nf75_X7_share k → σr 75 k = σ 75 k := by
  intro m
  induction m with
  | zero => intro x1 x2 x3 x4 x5 x6 σ h; cases h
  | succ m ih =>
    intro x1 x2 x3 x4 x5 x6 σ h
    exact v75b_X7_share_91 (fun x1 x2 x3 x4 x5 x6 σ h => ih x1 x2 x3 x4 x5 x6 σ h) h
theorem v75_X7_share {n : Nat} {p1 : Int} {p2 : Int} {p3 : Int} {p4 : Int} {σ σr : am_Mem} {rr : Int} (h : f_X7_share n p1 p2 p3 p4 σ = some (rr, σr)) : ∀ k : Int, nf75_X7_share k → σr 75 k = σ 75 k := by
  unfold f_X7_share at h
  have fr : ∀ k : Int, nf75_X7_share k → σ 75 k = σ 75 k := fun _ _ => rfl
  obtain ⟨r2, σ3, e1, h⟩ := ab_2 h
  have fr := fun (k : Int) (hk : nf75_X7_share k) => (congrFun (congrFun (u_X7_isTown e1) 75) k).trans (fr k hk)
  rcases ab_i h with ⟨c4, h⟩ | ⟨c4, h⟩
  · obtain ⟨q1, q2⟩ := ab_r2 h
    exact fun k hk => (congrFun (congrFun q2.symm 75) k).trans (fr k hk)
  · obtain ⟨r6, σ7, e5, h⟩ := ab_2 h
    have fr := fun (k : Int) (hk : nf75_X7_share k) => (congrFun (congrFun (u_X7_isRow e5) 75) k).trans (fr k hk)
    rcases ab_i h with ⟨c8, h⟩ | ⟨c8, h⟩
    · obtain ⟨q1, q2⟩ := ab_r2 h
      exact fun k hk => (congrFun (congrFun q2.symm 75) k).trans (fr k hk)
    · obtain ⟨r10, σ11, e9, h⟩ := ab_2 h
      have fr := fun (k : Int) (hk : nf75_X7_share k) => (congrFun (congrFun (u_X7_in e9) 75) k).trans (fr k hk)
      rcases ab_i h with ⟨c12, h⟩ | ⟨c12, h⟩
      · obtain ⟨q1, q2⟩ := ab_r2 h
        exact fun k hk => (congrFun (congrFun q2.symm 75) k).trans (fr k hk)
      · obtain ⟨r14, σ15, e13, h⟩ := ab_2 h
        have fr := fun (k : Int) (hk : nf75_X7_share k) => (congrFun (congrFun (u_X7_in e13) 75) k).trans (fr k hk)
        rcases ab_i h with ⟨c16, h⟩ | ⟨c16, h⟩
        · obtain ⟨q1, q2⟩ := ab_r2 h
          exact fun k hk => (congrFun (congrFun q2.symm 75) k).trans (fr k hk)
        · obtain ⟨r18, σ19, e17, h⟩ := ab_2 h
          have fr := fun (k : Int) (hk : nf75_X7_share k) => (congrFun (congrFun (u_X7_isMissing e17) 75) k).trans (fr k hk)
          rcases ab_i h with ⟨c20, h⟩ | ⟨c20, h⟩
          · obtain ⟨r22, σ23, e21, h⟩ := ab_2 h
            have fr := fun (k : Int) (hk : nf75_X7_share k) => (congrFun (congrFun (u_X7_isPart e21) 75) k).trans (fr k hk)
            rcases ab_i h with ⟨c24, h⟩ | ⟨c24, h⟩
            · obtain ⟨r26, σ27, e25, h⟩ := ab_2 h
              have fr := fun (k : Int) (hk : nf75_X7_share k) => (v75_X7_found e25 k (by unfold nf75_X7_share at hk; unfold nf75_X7_found; omega)).trans (fr k hk)
              obtain ⟨q1, q2⟩ := ab_r2 h
              exact fun k hk => (congrFun (congrFun q2.symm 75) k).trans (fr k hk)
            · obtain ⟨σ30, e28, h⟩ := ab_1 h
              have fr := fun (k : Int) (hk : nf75_X7_share k) => (congrFun (w_X7_copies e28 75 (by unfold nw_X7_copies; omega)) k).trans (fr k hk)
              exact fun k hk => (v75l_X7_share_91 n _ _ _ _ _ _ _ h k hk).trans (fr k hk)
          · obtain ⟨r55, σ56, e54, h⟩ := ab_2 h
            have fr := fun (k : Int) (hk : nf75_X7_share k) => (v75_X7_found e54 k (by unfold nf75_X7_share at hk; unfold nf75_X7_found; omega)).trans (fr k hk)
            obtain ⟨q1, q2⟩ := ab_r2 h
            exact fun k hk => (congrFun (congrFun q2.symm 75) k).trans (fr k hk)
def nf75_X7_shut (k : Int) : Prop := k ≠ 20 ∧ k ≠ 27 ∧ k ≠ 28 ∧ k ≠ 29
theorem v75b_X7_shut_132 {n : Nat} {kh97 : Int → Int → Int → Int → Int → Int → Int → am_Mem → Option (Int × am_Mem)} {kh132 : Int → Int → Int → Int → Int → Int → Int → Int → Int → am_Mem → Option (Int × am_Mem)} {x1 : Int} {x2 : Int} {x3 : Int} {x4 : Int} {x5 : Int} {x6 : Int} {x7 : Int} {x8 : Int} {x9 : Int} {σ σr : am_Mem} {rr : Int} (hk97 : ∀ (y1 : Int) (y2 : Int) (y3 : Int) (y4 : Int) (y5 : Int) (y6 : Int) (y7 : Int) (σ : am_Mem), kh97 y1 y2 y3 y4 y5 y6 y7 σ = some (rr, σr) → ∀ k : Int, nf75_X7_shut k → σr 75 k = σ 75 k) (hk132 : ∀ (y1 : Int) (y2 : Int) (y3 : Int) (y4 : Int) (y5 : Int) (y6 : Int) (y7 : Int) (y8 : Int) (y9 : Int) (σ : am_Mem), kh132 y1 y2 y3 y4 y5 y6 y7 y8 y9 σ = some (rr, σr) → ∀ k : Int, nf75_X7_shut k → σr 75 k = σ 75 k) (h : fb_X7_shut_132 n kh97 kh132 x1 x2 x3 x4 x5 x6 x7 x8 x9 σ = some (rr, σr)) : ∀ k : Int, nf75_X7_shut k → σr 75 k = σ 75 k := by
  unfold fb_X7_shut_132 at h
  have fr : ∀ k : Int, nf75_X7_shut k → σ 75 k = σ 75 k := fun _ _ => rfl
  rcases ab_i h with ⟨c24, h⟩ | ⟨c24, h⟩
  · obtain ⟨r26, σ27, e25, h⟩ := ab_2 h
    have fr := fun (k : Int) (hk : nf75_X7_shut k) => (congrFun (congrFun (u_X7_has e25) 75) k).trans (fr k hk)
    rcases ab_i h with ⟨c28, h⟩ | ⟨c28, h⟩
    · exact fun k hk => (hk132 _ _ _ _ _ _ _ _ _ _ h k hk).trans (fr k hk)
    · obtain ⟨r30, σ31, e29, h⟩ := ab_2 h
      have fr := fun (k : Int) (hk : nf75_X7_shut k) => (congrFun (congrFun (u_X7_has e29) 75) k).trans (fr k hk)
      rcases ab_i h with ⟨c32, h⟩ | ⟨c32, h⟩
      · exact fun k hk => (hk132 _ _ _ _ _ _ _ _ _ _ h k hk).trans (fr k hk)
      · exact fun k hk => (hk132 _ _ _ _ _ _ _ _ _ _ h k hk).trans (fr k hk)
  · rcases ab_i h with ⟨c33, h⟩ | ⟨c33, h⟩
    · exact fun k hk => (hk97 _ _ _ _ _ _ _ _ h k hk).trans (fr k hk)
    · obtain ⟨σ36, e34, h⟩ := ab_1 h
      have fr := fun (k : Int) (hk : nf75_X7_shut k) => (v75_X7_finds e34 k (by unfold nf75_X7_shut at hk; unfold nf75_X7_finds; omega)).trans (fr k hk)
      rcases ab_i h with ⟨c37, h⟩ | ⟨c37, h⟩
      · exact fun k hk => (hk97 _ _ _ _ _ _ _ _ h k hk).trans (fr k hk)
      · rcases ab_i h with ⟨c38, h⟩ | ⟨c38, h⟩
        · exact fun k hk => (hk97 _ _ _ _ _ _ _ _ h k hk).trans (fr k hk)
        · exact fun k hk => (hk97 _ _ _ _ _ _ _ _ h k hk).trans (fr k hk)
theorem v75l_X7_shut_132 {n : Nat} {kh97 : Int → Int → Int → Int → Int → Int → Int → am_Mem → Option (Int × am_Mem)} {σr : am_Mem} {rr : Int} (hk97 : ∀ (y1 : Int) (y2 : Int) (y3 : Int) (y4 : Int) (y5 : Int) (y6 : Int) (y7 : Int) (σ : am_Mem), kh97 y1 y2 y3 y4 y5 y6 y7 σ = some (rr, σr) → ∀ k : Int, nf75_X7_shut k → σr 75 k = σ 75 k) : ∀ (m : Nat) (x1 : Int) (x2 : Int) (x3 : Int) (x4 : Int) (x5 : Int) (x6 : Int) (x7 : Int) (x8 : Int) (x9 : Int) (σ : am_Mem), fl_X7_shut_132 n kh97 m x1 x2 x3 x4 x5 x6 x7 x8 x9 σ = some (rr, σr) → ∀ k : Int, nf75_X7_shut k → σr 75 k = σ 75 k := by
  intro m
  induction m with
  | zero => intro x1 x2 x3 x4 x5 x6 x7 x8 x9 σ h; cases h
  | succ m ih =>
    intro x1 x2 x3 x4 x5 x6 x7 x8 x9 σ h
    exact v75b_X7_shut_132 hk97 (fun x1 x2 x3 x4 x5 x6 x7 x8 x9 σ h => ih x1 x2 x3 x4 x5 x6 x7 x8 x9 σ h) h
theorem v75b_X7_shut_245 {n : Nat} {kh245 : Int → Int → Int → Int → Int → am_Mem → Option (Int × am_Mem)} {x4 : Int} {x5 : Int} {x6 : Int} {x7 : Int} {x8 : Int} {σ σr : am_Mem} {rr : Int} (hk245 : ∀ (y4 : Int) (y5 : Int) (y6 : Int) (y7 : Int) (y8 : Int) (σ : am_Mem), kh245 y4 y5 y6 y7 y8 σ = some (rr, σr) → ∀ k : Int, nf75_X7_shut k → σr 75 k = σ 75 k) (h : fb_X7_shut_245 n kh245 x4 x5 x6 x7 x8 σ = some (rr, σr)) : ∀ k : Int, nf75_X7_shut k → σr 75 k = σ 75 k := by
  unfold fb_X7_shut_245 at h
  have fr : ∀ k : Int, nf75_X7_shut k → σ 75 k = σ 75 k := fun _ _ => rfl
  rcases ab_i h with ⟨c39, h⟩ | ⟨c39, h⟩
  · rcases ab_i h with ⟨c40, h⟩ | ⟨c40, h⟩
    · obtain ⟨g41, h⟩ := ab_g h
      obtain ⟨q1, q2⟩ := ab_r2 h
      exact fun k hk => (congrFun (congrFun q2.symm 75) k).trans (fr k hk)
    · obtain ⟨g42, h⟩ := ab_g h
      obtain ⟨q1, q2⟩ := ab_r2 h
      exact fun k hk => (congrFun (congrFun q2.symm 75) k).trans (fr k hk)
  · obtain ⟨g43, h⟩ := ab_g h
    exact fun k hk => (hk245 _ _ _ _ _ _ h k hk).trans (fr k hk)
theorem v75l_X7_shut_245 {n : Nat} {σr : am_Mem} {rr : Int} : ∀ (m : Nat) (x4 : Int) (x5 : Int) (x6 : Int) (x7 : Int) (x8 : Int) (σ : am_Mem), fl_X7_shut_245 n m x4 x5 x6 x7 x8 σ = some (rr, σr) → ∀ k : Int, nf75_X7_shut k → σr 75 k = σ 75 k := by
  intro m
  induction m with
  | zero => intro x4 x5 x6 x7 x8 σ h; cases h
  | succ m ih =>
    intro x4 x5 x6 x7 x8 σ h
    exact v75b_X7_shut_245 (fun x4 x5 x6 x7 x8 σ h => ih x4 x5 x6 x7 x8 σ h) h
theorem v75b_X7_shut_97 {n : Nat} {kh97 : Int → Int → Int → Int → Int → Int → Int → am_Mem → Option (Int × am_Mem)} {x1 : Int} {x2 : Int} {x3 : Int} {x4 : Int} {x5 : Int} {x6 : Int} {x7 : Int} {σ σr : am_Mem} {rr : Int} (hk97 : ∀ (y1 : Int) (y2 : Int) (y3 : Int) (y4 : Int) (y5 : Int) (y6 : Int) (y7 : Int) (σ : am_Mem), kh97 y1 y2 y3 y4 y5 y6 y7 σ = some (rr, σr) → ∀ k : Int, nf75_X7_shut k → σr 75 k = σ 75 k) (h : fb_X7_shut_97 n kh97 x1 x2 x3 x4 x5 x6 x7 σ = some (rr, σr)) : ∀ k : Int, nf75_X7_shut k → σr 75 k = σ 75 k := by
  unfold fb_X7_shut_97 at h
  have fr : ∀ k : Int, nf75_X7_shut k → σ 75 k = σ 75 k := fun _ _ => rfl
  rcases ab_i h with ⟨c22, h⟩ | ⟨c22, h⟩
  · rcases ab_i h with ⟨c23, h⟩ | ⟨c23, h⟩
    · exact fun k hk => (v75l_X7_shut_132 hk97 n _ _ _ _ _ _ _ _ _ _ h k hk).trans (fr k hk)
    · exact fun k hk => (v75l_X7_shut_132 hk97 n _ _ _ _ _ _ _ _ _ _ h k hk).trans (fr k hk)
  · exact fun k hk => (v75l_X7_shut_245 n _ _ _ _ _ _ h k hk).trans (fr k hk)
theorem v75l_X7_shut_97 {n : Nat} {σr : am_Mem} {rr : Int} : ∀ (m : Nat) (x1 : Int) (x2 : Int) (x3 : Int) (x4 : Int) (x5 : Int) (x6 : Int) (x7 : Int) (σ : am_Mem), fl_X7_shut_97 n m x1 x2 x3 x4 x5 x6 x7 σ = some (rr, σr) → ∀ k : Int, nf75_X7_shut k → σr 75 k = σ 75 k := by
  intro m
  induction m with
  | zero => intro x1 x2 x3 x4 x5 x6 x7 σ h; cases h
  | succ m ih =>
    intro x1 x2 x3 x4 x5 x6 x7 σ h
    exact v75b_X7_shut_97 (fun x1 x2 x3 x4 x5 x6 x7 σ h => ih x1 x2 x3 x4 x5 x6 x7 σ h) h
theorem v75b_X7_shut_51 {n : Nat} {kh51 : Int → Int → Int → Int → Int → Int → Int → am_Mem → Option (Int × am_Mem)} {x1 : Int} {x2 : Int} {x3 : Int} {x4 : Int} {x5 : Int} {x6 : Int} {x7 : Int} {σ σr : am_Mem} {rr : Int} (hk51 : ∀ (y1 : Int) (y2 : Int) (y3 : Int) (y4 : Int) (y5 : Int) (y6 : Int) (y7 : Int) (σ : am_Mem), kh51 y1 y2 y3 y4 y5 y6 y7 σ = some (rr, σr) → ∀ k : Int, nf75_X7_shut k → σr 75 k = σ 75 k) (h : fb_X7_shut_51 n kh51 x1 x2 x3 x4 x5 x6 x7 σ = some (rr, σr)) : ∀ k : Int, nf75_X7_shut k → σr 75 k = σ 75 k := by
  unfold fb_X7_shut_51 at h
  have fr : ∀ k : Int, nf75_X7_shut k → σ 75 k = σ 75 k := fun _ _ => rfl
  rcases ab_i h with ⟨c17, h⟩ | ⟨c17, h⟩
  · obtain ⟨r19, σ20, e18, h⟩ := ab_2 h
    have fr := fun (k : Int) (hk : nf75_X7_shut k) => (congrFun (congrFun (u_X7_has e18) 75) k).trans (fr k hk)
    rcases ab_i h with ⟨c21, h⟩ | ⟨c21, h⟩
    · exact fun k hk => (hk51 _ _ _ _ _ _ _ _ h k hk).trans (fr k hk)
    · exact fun k hk => (hk51 _ _ _ _ _ _ _ _ h k hk).trans (fr k hk)
  · exact fun k hk => (v75l_X7_shut_97 n _ _ _ _ _ _ _ _ h k hk).trans (fr k hk)
theorem v75l_X7_shut_51 {n : Nat} {σr : am_Mem} {rr : Int} : ∀ (m : Nat) (x1 : Int) (x2 : Int) (x3 : Int) (x4 : Int) (x5 : Int) (x6 : Int) (x7 : Int) (σ : am_Mem), fl_X7_shut_51 n m x1 x2 x3 x4 x5 x6 x7 σ = some (rr, σr) → ∀ k : Int, nf75_X7_shut k → σr 75 k = σ 75 k := by
  intro m
  induction m with
  | zero => intro x1 x2 x3 x4 x5 x6 x7 σ h; cases h
  | succ m ih =>
    intro x1 x2 x3 x4 x5 x6 x7 σ h
    exact v75b_X7_shut_51 (fun x1 x2 x3 x4 x5 x6 x7 σ h => ih x1 x2 x3 x4 x5 x6 x7 σ h) h
theorem v75_X7_shut {n : Nat} {p1 : Int} {p2 : Int} {p3 : Int} {p4 : Int} {σ σr : am_Mem} {rr : Int} (h : f_X7_shut n p1 p2 p3 p4 σ = some (rr, σr)) : ∀ k : Int, nf75_X7_shut k → σr 75 k = σ 75 k := by
  unfold f_X7_shut at h
  have fr : ∀ k : Int, nf75_X7_shut k → σ 75 k = σ 75 k := fun _ _ => rfl
  obtain ⟨r2, σ3, e1, h⟩ := ab_2 h
  have fr := fun (k : Int) (hk : nf75_X7_shut k) => (congrFun (congrFun (u_X7_isCorner e1) 75) k).trans (fr k hk)
  rcases ab_i h with ⟨c4, h⟩ | ⟨c4, h⟩
  · obtain ⟨q1, q2⟩ := ab_r2 h
    exact fun k hk => (congrFun (congrFun q2.symm 75) k).trans (fr k hk)
  · obtain ⟨r6, σ7, e5, h⟩ := ab_2 h
    have fr := fun (k : Int) (hk : nf75_X7_shut k) => (congrFun (congrFun (u_X7_in e5) 75) k).trans (fr k hk)
    rcases ab_i h with ⟨c8, h⟩ | ⟨c8, h⟩
    · obtain ⟨q1, q2⟩ := ab_r2 h
      exact fun k hk => (congrFun (congrFun q2.symm 75) k).trans (fr k hk)
    · obtain ⟨r10, σ11, e9, h⟩ := ab_2 h
      have fr := fun (k : Int) (hk : nf75_X7_shut k) => (congrFun (congrFun (u_X7_in e9) 75) k).trans (fr k hk)
      rcases ab_i h with ⟨c12, h⟩ | ⟨c12, h⟩
      · obtain ⟨q1, q2⟩ := ab_r2 h
        exact fun k hk => (congrFun (congrFun q2.symm 75) k).trans (fr k hk)
      · obtain ⟨r14, σ15, e13, h⟩ := ab_2 h
        have fr := fun (k : Int) (hk : nf75_X7_shut k) => (congrFun (congrFun (u_X7_in e13) 75) k).trans (fr k hk)
        rcases ab_i h with ⟨c16, h⟩ | ⟨c16, h⟩
        · obtain ⟨q1, q2⟩ := ab_r2 h
          exact fun k hk => (congrFun (congrFun q2.symm 75) k).trans (fr k hk)
        · exact fun k hk => (v75l_X7_shut_51 n _ _ _ _ _ _ _ _ h k hk).trans (fr k hk)
def nf75_X7_restore (k : Int) : Prop := k ≠ 17
theorem v75_X7_restore {n : Nat} {p1 : Int} {σ σr : am_Mem} {rr : Int} (h : f_X7_restore n p1 σ = some (rr, σr)) : ∀ k : Int, nf75_X7_restore k → σr 75 k = σ 75 k := by
  unfold f_X7_restore at h
  have fr : ∀ k : Int, nf75_X7_restore k → σ 75 k = σ 75 k := fun _ _ => rfl
  obtain ⟨r2, σ3, e1, h⟩ := ab_2 h
  have fr := fun (k : Int) (hk : nf75_X7_restore k) => (congrFun (congrFun (u_X7_in e1) 75) k).trans (fr k hk)
  rcases ab_i h with ⟨c4, h⟩ | ⟨c4, h⟩
  · obtain ⟨q1, q2⟩ := ab_r2 h
    exact fun k hk => (congrFun (congrFun q2.symm 75) k).trans (fr k hk)
  · obtain ⟨g5, h⟩ := ab_g h
    rcases ab_i h with ⟨c6, h⟩ | ⟨c6, h⟩
    · obtain ⟨q1, q2⟩ := ab_r2 h
      exact fun k hk => (congrFun (congrFun q2.symm 75) k).trans (fr k hk)
    · obtain ⟨σ9, e7, h⟩ := ab_1 h
      have fr := fun (k : Int) (hk : nf75_X7_restore k) => (congrFun (w_X7_copies e7 75 (by unfold nw_X7_copies; omega)) k).trans (fr k hk)
      obtain ⟨σ10, e11, h⟩ := ab_1 h
      have fr := fun (k : Int) (hk : nf75_X7_restore k) => (ab_fuj e11 (show k ≠ 17 by unfold nf75_X7_restore at hk; omega)).trans (fr k hk)
      obtain ⟨q1, q2⟩ := ab_r2 h
      exact fun k hk => (congrFun (congrFun q2.symm 75) k).trans (fr k hk)
def nf75_X7_as (k : Int) : Prop := k ≠ 4
theorem v75b_X7_as_45 {n : Nat} {x1 : Int} {x2 : Int} {x3 : Int} {σ σr : am_Mem} {rr : Int} (h : fb_X7_as_45 n x1 x2 x3 σ = some (rr, σr)) : ∀ k : Int, nf75_X7_as k → σr 75 k = σ 75 k := by
  unfold fb_X7_as_45 at h
  have fr : ∀ k : Int, nf75_X7_as k → σ 75 k = σ 75 k := fun _ _ => rfl
  rcases ab_i h with ⟨c25, h⟩ | ⟨c25, h⟩
  · rcases ab_i h with ⟨c26, h⟩ | ⟨c26, h⟩
    · obtain ⟨r28, σ29, e27, h⟩ := ab_2 h
      have fr := fun (k : Int) (hk : nf75_X7_as k) => (v75_X7_well e27 k (by unfold nf75_X7_as at hk; unfold nf75_X7_well; omega)).trans (fr k hk)
      obtain ⟨q1, q2⟩ := ab_r2 h
      exact fun k hk => (congrFun (congrFun q2.symm 75) k).trans (fr k hk)
    · obtain ⟨r31, σ32, e30, h⟩ := ab_2 h
      have fr := fun (k : Int) (hk : nf75_X7_as k) => (v75_X7_found e30 k (by unfold nf75_X7_as at hk; unfold nf75_X7_found; omega)).trans (fr k hk)
      obtain ⟨q1, q2⟩ := ab_r2 h
      exact fun k hk => (congrFun (congrFun q2.symm 75) k).trans (fr k hk)
  · obtain ⟨r34, σ35, e33, h⟩ := ab_2 h
    have fr := fun (k : Int) (hk : nf75_X7_as k) => (v75_X7_found e33 k (by unfold nf75_X7_as at hk; unfold nf75_X7_found; omega)).trans (fr k hk)
    obtain ⟨q1, q2⟩ := ab_r2 h
    exact fun k hk => (congrFun (congrFun q2.symm 75) k).trans (fr k hk)
theorem v75_X7_as {n : Nat} {p1 : Int} {p2 : Int} {σ σr : am_Mem} {rr : Int} (h : f_X7_as n p1 p2 σ = some (rr, σr)) : ∀ k : Int, nf75_X7_as k → σr 75 k = σ 75 k := by
  unfold f_X7_as at h
  have fr : ∀ k : Int, nf75_X7_as k → σ 75 k = σ 75 k := fun _ _ => rfl
  obtain ⟨r2, σ3, e1, h⟩ := ab_2 h
  have fr := fun (k : Int) (hk : nf75_X7_as k) => (congrFun (congrFun (u_X7_isCorner e1) 75) k).trans (fr k hk)
  rcases ab_i h with ⟨c4, h⟩ | ⟨c4, h⟩
  · obtain ⟨q1, q2⟩ := ab_r2 h
    exact fun k hk => (congrFun (congrFun q2.symm 75) k).trans (fr k hk)
  · obtain ⟨r6, σ7, e5, h⟩ := ab_2 h
    have fr := fun (k : Int) (hk : nf75_X7_as k) => (congrFun (congrFun (u_X7_in e5) 75) k).trans (fr k hk)
    rcases ab_i h with ⟨c8, h⟩ | ⟨c8, h⟩
    · obtain ⟨q1, q2⟩ := ab_r2 h
      exact fun k hk => (congrFun (congrFun q2.symm 75) k).trans (fr k hk)
    · obtain ⟨r10, σ11, e9, h⟩ := ab_2 h
      have fr := fun (k : Int) (hk : nf75_X7_as k) => (congrFun (congrFun (u_X7_kindIn e9) 75) k).trans (fr k hk)
      rcases ab_i h with ⟨c12, h⟩ | ⟨c12, h⟩
      · obtain ⟨r14, σ15, e13, h⟩ := ab_2 h
        have fr := fun (k : Int) (hk : nf75_X7_as k) => (v75_X7_well e13 k (by unfold nf75_X7_as at hk; unfold nf75_X7_well; omega)).trans (fr k hk)
        obtain ⟨q1, q2⟩ := ab_r2 h
        exact fun k hk => (congrFun (congrFun q2.symm 75) k).trans (fr k hk)
      · rcases ab_i h with ⟨c16, h⟩ | ⟨c16, h⟩
        · obtain ⟨r18, σ19, e17, h⟩ := ab_2 h
          have fr := fun (k : Int) (hk : nf75_X7_as k) => (v75_X7_well e17 k (by unfold nf75_X7_as at hk; unfold nf75_X7_well; omega)).trans (fr k hk)
          obtain ⟨q1, q2⟩ := ab_r2 h
          exact fun k hk => (congrFun (congrFun q2.symm 75) k).trans (fr k hk)
        · rcases ab_i h with ⟨c20, h⟩ | ⟨c20, h⟩
          · rcases ab_i h with ⟨c21, h⟩ | ⟨c21, h⟩
            · obtain ⟨r23, σ24, e22, h⟩ := ab_2 h
              have fr := fun (k : Int) (hk : nf75_X7_as k) => (v75_X7_well e22 k (by unfold nf75_X7_as at hk; unfold nf75_X7_well; omega)).trans (fr k hk)
              obtain ⟨q1, q2⟩ := ab_r2 h
              exact fun k hk => (congrFun (congrFun q2.symm 75) k).trans (fr k hk)
            · exact fun k hk => (v75b_X7_as_45 h k hk).trans (fr k hk)
          · exact fun k hk => (v75b_X7_as_45 h k hk).trans (fr k hk)
def nf75_X7_leaves (k : Int) : Prop := k ≠ 31
theorem v75_X7_leaves {n : Nat} {p1 : Int} {σ σr : am_Mem} (h : f_X7_leaves n p1 σ = some σr) : ∀ k : Int, nf75_X7_leaves k → σr 75 k = σ 75 k := by
  unfold f_X7_leaves at h
  have fr : ∀ k : Int, nf75_X7_leaves k → σ 75 k = σ 75 k := fun _ _ => rfl
  rcases ab_i h with ⟨c1, h⟩ | ⟨c1, h⟩
  · obtain ⟨g2, h⟩ := ab_g h
    obtain ⟨σ3, e4, h⟩ := ab_1 h
    have fr := fun (k : Int) (hk : nf75_X7_leaves k) => (congrFun (ab_fu e4 (show 75 ≠ 93 by omega)) k).trans (fr k hk)
    obtain ⟨σ5, e6, h⟩ := ab_1 h
    have fr := fun (k : Int) (hk : nf75_X7_leaves k) => (ab_fuj e6 (show k ≠ 31 by unfold nf75_X7_leaves at hk; omega)).trans (fr k hk)
    have q2 := ab_r1 h
    exact fun k hk => (congrFun (congrFun q2.symm 75) k).trans (fr k hk)
  · have q2 := ab_r1 h
    exact fun k hk => (congrFun (congrFun q2.symm 75) k).trans (fr k hk)
def nf75_X7_griefSize (k : Int) : Prop := k ≠ 31
theorem v75b_X7_griefSize_25 {n : Nat} {x1 : Int} {x2 : Int} {σ σr : am_Mem} {rr : Int} (h : fb_X7_griefSize_25 n x1 x2 σ = some (rr, σr)) : ∀ k : Int, nf75_X7_griefSize k → σr 75 k = σ 75 k := by
  unfold fb_X7_griefSize_25 at h
  have fr : ∀ k : Int, nf75_X7_griefSize k → σ 75 k = σ 75 k := fun _ _ => rfl
  obtain ⟨σ10, e8, h⟩ := ab_1 h
  have fr := fun (k : Int) (hk : nf75_X7_griefSize k) => (v75_X7_leaves e8 k (by unfold nf75_X7_griefSize at hk; unfold nf75_X7_leaves; omega)).trans (fr k hk)
  obtain ⟨σ13, e11, h⟩ := ab_1 h
  have fr := fun (k : Int) (hk : nf75_X7_griefSize k) => (v75_X7_leaves e11 k (by unfold nf75_X7_griefSize at hk; unfold nf75_X7_leaves; omega)).trans (fr k hk)
  obtain ⟨g14, h⟩ := ab_g h
  rcases ab_i h with ⟨c15, h⟩ | ⟨c15, h⟩
  · obtain ⟨q1, q2⟩ := ab_r2 h
    exact fun k hk => (congrFun (congrFun q2.symm 75) k).trans (fr k hk)
  · obtain ⟨q1, q2⟩ := ab_r2 h
    exact fun k hk => (congrFun (congrFun q2.symm 75) k).trans (fr k hk)
theorem v75_X7_griefSize {n : Nat} {p1 : Int} {σ σr : am_Mem} {rr : Int} (h : f_X7_griefSize n p1 σ = some (rr, σr)) : ∀ k : Int, nf75_X7_griefSize k → σr 75 k = σ 75 k := by
  unfold f_X7_griefSize at h
  have fr : ∀ k : Int, nf75_X7_griefSize k → σ 75 k = σ 75 k := fun _ _ => rfl
  obtain ⟨r2, σ3, e1, h⟩ := ab_2 h
  have fr := fun (k : Int) (hk : nf75_X7_griefSize k) => (congrFun (congrFun (u_X7_kindIn e1) 75) k).trans (fr k hk)
  rcases ab_i h with ⟨c4, h⟩ | ⟨c4, h⟩
  · obtain ⟨σ7, e5, h⟩ := ab_1 h
    have fr := fun (k : Int) (hk : nf75_X7_griefSize k) => (v75_X7_leaves e5 k (by unfold nf75_X7_griefSize at hk; unfold nf75_X7_leaves; omega)).trans (fr k hk)
    exact fun k hk => (v75b_X7_griefSize_25 h k hk).trans (fr k hk)
  · exact fun k hk => (v75b_X7_griefSize_25 h k hk).trans (fr k hk)
def nf75_X7_griefMark (k : Int) : Prop := k ≠ 31
theorem v75_X7_griefMark {n : Nat} {p1 : Int} {σ σr : am_Mem} {rr : Int} (h : f_X7_griefMark n p1 σ = some (rr, σr)) : ∀ k : Int, nf75_X7_griefMark k → σr 75 k = σ 75 k := by
  unfold f_X7_griefMark at h
  have fr : ∀ k : Int, nf75_X7_griefMark k → σ 75 k = σ 75 k := fun _ _ => rfl
  obtain ⟨σ3, e1, h⟩ := ab_1 h
  have fr := fun (k : Int) (hk : nf75_X7_griefMark k) => (v75_X7_leaves e1 k (by unfold nf75_X7_griefMark at hk; unfold nf75_X7_leaves; omega)).trans (fr k hk)
  obtain ⟨σ6, e4, h⟩ := ab_1 h
  have fr := fun (k : Int) (hk : nf75_X7_griefMark k) => (v75_X7_leaves e4 k (by unfold nf75_X7_griefMark at hk; unfold nf75_X7_leaves; omega)).trans (fr k hk)
  obtain ⟨r8, σ9, e7, h⟩ := ab_2 h
  have fr := fun (k : Int) (hk : nf75_X7_griefMark k) => (v75_X7_griefSize e7 k (by unfold nf75_X7_griefMark at hk; unfold nf75_X7_griefSize; omega)).trans (fr k hk)
  obtain ⟨q1, q2⟩ := ab_r2 h
  exact fun k hk => (congrFun (congrFun q2.symm 75) k).trans (fr k hk)
def nf75_X7_joyMark (k : Int) : Prop := k ≠ 31
theorem v75b_X7_joyMark_27 {n : Nat} {x1 : Int} {x2 : Int} {σ σr : am_Mem} {rr : Int} (h : fb_X7_joyMark_27 n x1 x2 σ = some (rr, σr)) : ∀ k : Int, nf75_X7_joyMark k → σr 75 k = σ 75 k := by
  unfold fb_X7_joyMark_27 at h
  have fr : ∀ k : Int, nf75_X7_joyMark k → σ 75 k = σ 75 k := fun _ _ => rfl
  obtain ⟨σ7, e5, h⟩ := ab_1 h
  have fr := fun (k : Int) (hk : nf75_X7_joyMark k) => (v75_X7_leaves e5 k (by unfold nf75_X7_joyMark at hk; unfold nf75_X7_leaves; omega)).trans (fr k hk)
  obtain ⟨σ10, e8, h⟩ := ab_1 h
  have fr := fun (k : Int) (hk : nf75_X7_joyMark k) => (v75_X7_leaves e8 k (by unfold nf75_X7_joyMark at hk; unfold nf75_X7_leaves; omega)).trans (fr k hk)
  obtain ⟨g11, h⟩ := ab_g h
  rcases ab_i h with ⟨c12, h⟩ | ⟨c12, h⟩
  · obtain ⟨q1, q2⟩ := ab_r2 h
    exact fun k hk => (congrFun (congrFun q2.symm 75) k).trans (fr k hk)
  · rcases ab_i h with ⟨c13, h⟩ | ⟨c13, h⟩
    · obtain ⟨q1, q2⟩ := ab_r2 h
      exact fun k hk => (congrFun (congrFun q2.symm 75) k).trans (fr k hk)
    · obtain ⟨q1, q2⟩ := ab_r2 h
      exact fun k hk => (congrFun (congrFun q2.symm 75) k).trans (fr k hk)
theorem v75_X7_joyMark {n : Nat} {p1 : Int} {σ σr : am_Mem} {rr : Int} (h : f_X7_joyMark n p1 σ = some (rr, σr)) : ∀ k : Int, nf75_X7_joyMark k → σr 75 k = σ 75 k := by
  unfold f_X7_joyMark at h
  have fr : ∀ k : Int, nf75_X7_joyMark k → σ 75 k = σ 75 k := fun _ _ => rfl
  obtain ⟨r2, σ3, e1, h⟩ := ab_2 h
  have fr := fun (k : Int) (hk : nf75_X7_joyMark k) => (congrFun (congrFun (u_X7_kindIn e1) 75) k).trans (fr k hk)
  rcases ab_i h with ⟨c4, h⟩ | ⟨c4, h⟩
  · exact fun k hk => (v75b_X7_joyMark_27 h k hk).trans (fr k hk)
  · rcases ab_i h with ⟨c14, h⟩ | ⟨c14, h⟩
    · obtain ⟨σ17, e15, h⟩ := ab_1 h
      have fr := fun (k : Int) (hk : nf75_X7_joyMark k) => (v75_X7_leaves e15 k (by unfold nf75_X7_joyMark at hk; unfold nf75_X7_leaves; omega)).trans (fr k hk)
      exact fun k hk => (v75b_X7_joyMark_27 h k hk).trans (fr k hk)
    · obtain ⟨σ20, e18, h⟩ := ab_1 h
      have fr := fun (k : Int) (hk : nf75_X7_joyMark k) => (v75_X7_leaves e18 k (by unfold nf75_X7_joyMark at hk; unfold nf75_X7_leaves; omega)).trans (fr k hk)
      exact fun k hk => (v75b_X7_joyMark_27 h k hk).trans (fr k hk)
def nf75_X7_joySize (k : Int) : Prop := k ≠ 31
theorem v75b_X7_joySize_25 {n : Nat} {x1 : Int} {x2 : Int} {σ σr : am_Mem} {rr : Int} (h : fb_X7_joySize_25 n x1 x2 σ = some (rr, σr)) : ∀ k : Int, nf75_X7_joySize k → σr 75 k = σ 75 k := by
  unfold fb_X7_joySize_25 at h
  have fr : ∀ k : Int, nf75_X7_joySize k → σ 75 k = σ 75 k := fun _ _ => rfl
  obtain ⟨σ10, e8, h⟩ := ab_1 h
  have fr := fun (k : Int) (hk : nf75_X7_joySize k) => (v75_X7_leaves e8 k (by unfold nf75_X7_joySize at hk; unfold nf75_X7_leaves; omega)).trans (fr k hk)
  obtain ⟨σ13, e11, h⟩ := ab_1 h
  have fr := fun (k : Int) (hk : nf75_X7_joySize k) => (v75_X7_leaves e11 k (by unfold nf75_X7_joySize at hk; unfold nf75_X7_leaves; omega)).trans (fr k hk)
  obtain ⟨g14, h⟩ := ab_g h
  obtain ⟨r16, σ17, e15, h⟩ := ab_2 h
  have fr := fun (k : Int) (hk : nf75_X7_joySize k) => (v75_X7_joyMark e15 k (by unfold nf75_X7_joySize at hk; unfold nf75_X7_joyMark; omega)).trans (fr k hk)
  rcases ab_i h with ⟨c18, h⟩ | ⟨c18, h⟩
  · obtain ⟨q1, q2⟩ := ab_r2 h
    exact fun k hk => (congrFun (congrFun q2.symm 75) k).trans (fr k hk)
  · obtain ⟨q1, q2⟩ := ab_r2 h
    exact fun k hk => (congrFun (congrFun q2.symm 75) k).trans (fr k hk)
theorem v75_X7_joySize {n : Nat} {p1 : Int} {σ σr : am_Mem} {rr : Int} (h : f_X7_joySize n p1 σ = some (rr, σr)) : ∀ k : Int, nf75_X7_joySize k → σr 75 k = σ 75 k := by
  unfold f_X7_joySize at h
  have fr : ∀ k : Int, nf75_X7_joySize k → σ 75 k = σ 75 k := fun _ _ => rfl
  obtain ⟨r2, σ3, e1, h⟩ := ab_2 h
  have fr := fun (k : Int) (hk : nf75_X7_joySize k) => (congrFun (congrFun (u_X7_kindIn e1) 75) k).trans (fr k hk)
  rcases ab_i h with ⟨c4, h⟩ | ⟨c4, h⟩
  · obtain ⟨σ7, e5, h⟩ := ab_1 h
    have fr := fun (k : Int) (hk : nf75_X7_joySize k) => (v75_X7_leaves e5 k (by unfold nf75_X7_joySize at hk; unfold nf75_X7_leaves; omega)).trans (fr k hk)
    exact fun k hk => (v75b_X7_joySize_25 h k hk).trans (fr k hk)
  · exact fun k hk => (v75b_X7_joySize_25 h k hk).trans (fr k hk)
def nf75_X7_ask (k : Int) : Prop := k ≠ 31
theorem v75b_X7_ask_39 {n : Nat} {x1 : Int} {x2 : Int} {s0 : Int} {σ σr : am_Mem} {rr : Int} (h : fb_X7_ask_39 n x1 x2 s0 σ = some (rr, σr)) : ∀ k : Int, nf75_X7_ask k → σr 75 k = σ 75 k := by
  unfold fb_X7_ask_39 at h
  have fr : ∀ k : Int, nf75_X7_ask k → σ 75 k = σ 75 k := fun _ _ => rfl
  rcases ab_i h with ⟨c15, h⟩ | ⟨c15, h⟩
  · rcases ab_i h with ⟨c16, h⟩ | ⟨c16, h⟩
    · obtain ⟨r18, σ19, e17, h⟩ := ab_2 h
      have fr := fun (k : Int) (hk : nf75_X7_ask k) => (v75_X7_joySize e17 k (by unfold nf75_X7_ask at hk; unfold nf75_X7_joySize; omega)).trans (fr k hk)
      obtain ⟨q1, q2⟩ := ab_r2 h
      exact fun k hk => (congrFun (congrFun q2.symm 75) k).trans (fr k hk)
    · obtain ⟨r21, σ22, e20, h⟩ := ab_2 h
      have fr := fun (k : Int) (hk : nf75_X7_ask k) => (v75_X7_griefSize e20 k (by unfold nf75_X7_ask at hk; unfold nf75_X7_griefSize; omega)).trans (fr k hk)
      obtain ⟨q1, q2⟩ := ab_r2 h
      exact fun k hk => (congrFun (congrFun q2.symm 75) k).trans (fr k hk)
  · rcases ab_i h with ⟨c23, h⟩ | ⟨c23, h⟩
    · obtain ⟨r25, σ26, e24, h⟩ := ab_2 h
      have fr := fun (k : Int) (hk : nf75_X7_ask k) => (v75_X7_joyMark e24 k (by unfold nf75_X7_ask at hk; unfold nf75_X7_joyMark; omega)).trans (fr k hk)
      obtain ⟨q1, q2⟩ := ab_r2 h
      exact fun k hk => (congrFun (congrFun q2.symm 75) k).trans (fr k hk)
    · obtain ⟨r28, σ29, e27, h⟩ := ab_2 h
      have fr := fun (k : Int) (hk : nf75_X7_ask k) => (v75_X7_griefMark e27 k (by unfold nf75_X7_ask at hk; unfold nf75_X7_griefMark; omega)).trans (fr k hk)
      obtain ⟨q1, q2⟩ := ab_r2 h
      exact fun k hk => (congrFun (congrFun q2.symm 75) k).trans (fr k hk)
theorem v75_X7_ask {n : Nat} {p1 : Int} {p2 : Int} {σ σr : am_Mem} {rr : Int} (h : f_X7_ask n p1 p2 σ = some (rr, σr)) : ∀ k : Int, nf75_X7_ask k → σr 75 k = σ 75 k := by
  unfold f_X7_ask at h
  have fr : ∀ k : Int, nf75_X7_ask k → σ 75 k = σ 75 k := fun _ _ => rfl
  obtain ⟨r2, σ3, e1, h⟩ := ab_2 h
  have fr := fun (k : Int) (hk : nf75_X7_ask k) => (congrFun (congrFun (u_X7_isCorner e1) 75) k).trans (fr k hk)
  rcases ab_i h with ⟨c4, h⟩ | ⟨c4, h⟩
  · obtain ⟨q1, q2⟩ := ab_r2 h
    exact fun k hk => (congrFun (congrFun q2.symm 75) k).trans (fr k hk)
  · obtain ⟨r6, σ7, e5, h⟩ := ab_2 h
    have fr := fun (k : Int) (hk : nf75_X7_ask k) => (congrFun (congrFun (u_X7_in e5) 75) k).trans (fr k hk)
    rcases ab_i h with ⟨c8, h⟩ | ⟨c8, h⟩
    · obtain ⟨q1, q2⟩ := ab_r2 h
      exact fun k hk => (congrFun (congrFun q2.symm 75) k).trans (fr k hk)
    · obtain ⟨σ9, e10, h⟩ := ab_1 h
      have fr := fun (k : Int) (hk : nf75_X7_ask k) => (ab_fuj e10 (show k ≠ 31 by unfold nf75_X7_ask at hk; omega)).trans (fr k hk)
      obtain ⟨r12, σ13, e11, h⟩ := ab_2 h
      have fr := fun (k : Int) (hk : nf75_X7_ask k) => (congrFun (congrFun (u_X7_kindIn e11) 75) k).trans (fr k hk)
      rcases ab_i h with ⟨c14, h⟩ | ⟨c14, h⟩
      · exact fun k hk => (v75b_X7_ask_39 h k hk).trans (fr k hk)
      · exact fun k hk => (v75b_X7_ask_39 h k hk).trans (fr k hk)
