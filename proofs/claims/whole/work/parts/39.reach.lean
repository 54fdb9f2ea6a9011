/-! reach -/
def mf_pc (b : Int) : Int := am_and (am_shr b 0) 1 + am_and (am_shr b 1) 1 + am_and (am_shr b 2) 1 + am_and (am_shr b 3) 1 + am_and (am_shr b 4) 1 + am_and (am_shr b 5) 1
theorem mf_pc_dec : ∀ c : Fin 7, ∀ b : Fin 64, ∀ t : Fin 6, b.val < 2 ^ c.val → t.val < c.val → 0 ≤ am_or (b.val : Int) (am_shl 1 (t.val : Int)) ∧ am_or (b.val : Int) (am_shl 1 (t.val : Int)) < 2 ^ c.val ∧ (am_or (b.val : Int) (am_shl 1 (t.val : Int)) = b.val ∨ mf_pc (am_or (b.val : Int) (am_shl 1 (t.val : Int))) = mf_pc (b.val : Int) + 1) := by decide +kernel
theorem mf_pc_dec2 : ∀ c : Fin 7, ∀ b : Fin 64, b.val < 2 ^ c.val → mf_pc (b.val : Int) ≤ c.val := by decide +kernel
theorem mf_pc_dec3 : ∀ c : Fin 7, ∀ t : Fin 6, t.val < c.val → 0 ≤ am_shl 1 (t.val : Int) ∧ am_shl 1 (t.val : Int) < 2 ^ c.val ∧ mf_pc (am_shl 1 (t.val : Int)) = 1 := by decide +kernel
theorem mf_p6 {c : Int} (h0 : 0 ≤ c) (h1 : c ≤ 6) : (2 : Int) ^ c.toNat ≤ 64 := by
  have : c = 0 ∨ c = 1 ∨ c = 2 ∨ c = 3 ∨ c = 4 ∨ c = 5 ∨ c = 6 := by omega
  rcases this with h | h | h | h | h | h | h <;> subst h <;> decide
theorem mf_lt2 {o : Int} {k : Nat} (o0 : 0 ≤ o) (h : o < 2 ^ k) : o.toNat < 2 ^ k := by
  have : ((o.toNat : Nat) : Int) < ((2 ^ k : Nat) : Int) := by
    rw [Int.toNat_of_nonneg o0]
    push_cast
    exact h
  exact Int.ofNat_lt.1 this
theorem mf_or1 {c b t : Int} (c0 : 0 ≤ c) (c6 : c ≤ 6) (b0 : 0 ≤ b) (b1 : b < 2 ^ c.toNat) (t0 : 0 ≤ t) (t1 : t < c) : 0 ≤ am_or b (am_shl 1 t) ∧ am_or b (am_shl 1 t) < 2 ^ c.toNat ∧ (am_or b (am_shl 1 t) = b ∨ mf_pc (am_or b (am_shl 1 t)) = mf_pc b + 1) := by
  have p := mf_p6 c0 c6
  have q := mf_pc_dec ⟨c.toNat, by omega⟩ ⟨b.toNat, by omega⟩ ⟨t.toNat, by omega⟩ (mf_lt2 b0 b1) (by show t.toNat < c.toNat; omega)
  have q : 0 ≤ am_or (b.toNat : Int) (am_shl 1 (t.toNat : Int)) ∧ am_or (b.toNat : Int) (am_shl 1 (t.toNat : Int)) < 2 ^ c.toNat ∧ (am_or (b.toNat : Int) (am_shl 1 (t.toNat : Int)) = (b.toNat : Int) ∨ mf_pc (am_or (b.toNat : Int) (am_shl 1 (t.toNat : Int))) = mf_pc (b.toNat : Int) + 1) := q
  rw [Int.toNat_of_nonneg b0, Int.toNat_of_nonneg t0] at q
  exact q
theorem mf_pc2 {c b : Int} (c0 : 0 ≤ c) (c6 : c ≤ 6) (b0 : 0 ≤ b) (b1 : b < 2 ^ c.toNat) : mf_pc b ≤ c := by
  have p := mf_p6 c0 c6
  have q := mf_pc_dec2 ⟨c.toNat, by omega⟩ ⟨b.toNat, by omega⟩ (mf_lt2 b0 b1)
  have q : mf_pc (b.toNat : Int) ≤ (c.toNat : Int) := q
  rw [Int.toNat_of_nonneg b0, Int.toNat_of_nonneg c0] at q
  exact q
theorem mf_pc3 {c t : Int} (c6 : c ≤ 6) (t0 : 0 ≤ t) (t1 : t < c) : 0 ≤ am_shl 1 t ∧ am_shl 1 t < 2 ^ c.toNat ∧ mf_pc (am_shl 1 t) = 1 := by
  have q := mf_pc_dec3 ⟨c.toNat, by omega⟩ ⟨t.toNat, by omega⟩ (by show t.toNat < c.toNat; omega)
  have q : 0 ≤ am_shl 1 (t.toNat : Int) ∧ am_shl 1 (t.toNat : Int) < 2 ^ c.toNat ∧ mf_pc (am_shl 1 (t.toNat : Int)) = 1 := q
  rw [Int.toNat_of_nonneg t0] at q
  exact q
def mf_stp (v : Int → Int) (x b : Int) : Int := if am_and (am_shr (v 5) x) 1 = 1 then (if am_and (am_shr b (v (26 + 2 * x))) 1 = 1 then am_or b (am_shl 1 (v (27 + 2 * x))) else b) else b
def mf_pass (v : Int → Int) : Nat → Int → Int → Int
  | 0, _, b => b
  | m + 1, x, b => mf_pass v m (x + 1) (mf_stp v x b)
def mf_rnds (v : Int → Int) : Nat → Int → Int
  | 0, b => b
  | k + 1, b => mf_rnds v k (mf_pass v (v 25).toNat 0 b)
theorem mf_stp_in {v : Int → Int} {x b : Int} (w : mv_WF v) (x0 : 0 ≤ x) (x1 : x < v 25) (b0 : 0 ≤ b) (b1 : b < 2 ^ (v 6).toNat) : 0 ≤ mf_stp v x b ∧ mf_stp v x b < 2 ^ (v 6).toNat ∧ (mf_stp v x b = b ∨ mf_pc (mf_stp v x b) = mf_pc b + 1) := by
  have w1 := w.1
  have wx := w.2.2.2.2.2 x x0 x1
  unfold mf_stp
  split
  · split
    · exact mf_or1 w1.1 w1.2.1 b0 b1 wx.2.2.1 wx.2.2.2
    · exact ⟨b0, b1, Or.inl rfl⟩
  · exact ⟨b0, b1, Or.inl rfl⟩
theorem mf_pass_in {v : Int → Int} (w : mv_WF v) : ∀ (m : Nat) (x b : Int), 0 ≤ x → x + m ≤ v 25 → 0 ≤ b → b < 2 ^ (v 6).toNat → 0 ≤ mf_pass v m x b ∧ mf_pass v m x b < 2 ^ (v 6).toNat ∧ (mf_pass v m x b = b ∨ mf_pc b < mf_pc (mf_pass v m x b)) := by
  intro m
  induction m with
  | zero => intro x b x0 hx b0 b1; exact ⟨b0, b1, Or.inl rfl⟩
  | succ m ih =>
    intro x b x0 hx b0 b1
    obtain ⟨s0, s1, s2⟩ := mf_stp_in w x0 (by omega) b0 b1
    obtain ⟨p0, p1, p2⟩ := ih (x + 1) (mf_stp v x b) (by omega) (by omega) s0 s1
    unfold mf_pass
    refine ⟨p0, p1, ?_⟩
    rcases s2 with s2 | s2
    · rw [s2] at p2 ⊢
      exact p2
    · rcases p2 with p2 | p2
      · rw [p2]
        exact Or.inr (by omega)
      · exact Or.inr (by omega)
theorem mf_rnds_fix {v : Int → Int} {b : Int} (h : mf_pass v (v 25).toNat 0 b = b) : ∀ k : Nat, mf_rnds v k b = b := by
  intro k
  induction k with
  | zero => rfl
  | succ k ih =>
    unfold mf_rnds
    rw [h]
    exact ih
theorem mf_rnds_eq {v : Int → Int} (w : mv_WF v) : ∀ (k j : Nat) (b : Int), 0 ≤ b → b < 2 ^ (v 6).toNat → v 6 < mf_pc b + k → mf_rnds v (k + j) b = mf_rnds v k b := by
  have w1 := w.1
  intro k
  induction k with
  | zero =>
    intro j b b0 b1 h
    have := mf_pc2 w1.1 w1.2.1 b0 b1
    omega
  | succ k ih =>
    intro j b b0 b1 h
    obtain ⟨p0, p1, p2⟩ := mf_pass_in w (v 25).toNat 0 b (by omega) (by omega) b0 b1
    rcases p2 with p2 | p2
    · rw [mf_rnds_fix p2, mf_rnds_fix p2]
    · rw [show k + 1 + j = (k + j) + 1 by omega]
      unfold mf_rnds
      exact ih j _ p0 p1 (by omega)
theorem mf_rw19 {n : Nat} {σ : am_Mem} {v : Int → Int} {kh : Int → Int → am_Mem → Option (Int × am_Mem)} {k : Int} (r : mv_TR σ 18 v) (w : mv_WF v) (hk : 0 ≤ k ∧ k ≤ 100) : ∀ (m fu : Nat) (x b : Int), 0 ≤ x → x + m = v 25 → m < fu → fl_X5_openWays_19 n 18 kh fu b k x σ = kh (mf_pass v m x b) (k + 1) σ := by
  have w1 := w.1
  intro m
  induction m with
  | zero =>
    intro fu x b x0 hx hf
    obtain ⟨fu, rfl⟩ : ∃ q, fu = q + 1 := ⟨fu - 1, by omega⟩
    show fb_X5_openWays_19 n 18 kh _ b k x σ = _
    unfold fb_X5_openWays_19
    rw [r.1.2.1, if_neg (show ¬ x < v 25 by omega), am_w_id (z := k + 1) (by omega)]
    rfl
  | succ m ih =>
    intro fu x b x0 hx hf
    obtain ⟨fu, rfl⟩ : ∃ q, fu = q + 1 := ⟨fu - 1, by omega⟩
    have q := r.2.2 x x0 (by omega)
    show fb_X5_openWays_19 n 18 kh (fun y1 y2 y3 σ => fl_X5_openWays_19 n 18 kh fu y1 y2 y3 σ) b k x σ = _
    unfold fb_X5_openWays_19 mf_pass mf_stp
    rw [r.1.2.1, if_pos (show x < v 25 by omega), mv_isOpen r, am_b2_some, am_w_id (z := x + 1) (by omega)]
    by_cases ho : am_and (am_shr (v 5) x) 1 = 1
    · rw [if_pos ho, if_pos ho, if_neg (show ¬ (1 : Int) = 0 by decide), if_pos (show (0 : Int) ≤ x ∧ x < 8 by omega), q.1, q.2]
      by_cases hh : am_and (am_shr b (v (26 + 2 * x))) 1 = 1
      · rw [if_pos hh, if_pos hh]
        exact ih fu (x + 1) _ (by omega) (by omega) (by omega)
      · rw [if_neg hh, if_neg hh]
        exact ih fu (x + 1) _ (by omega) (by omega) (by omega)
    · rw [if_neg ho, if_neg ho, if_pos rfl]
      exact ih fu (x + 1) _ (by omega) (by omega) (by omega)
theorem mf_rw29 {n : Nat} {σ : am_Mem} {v : Int → Int} {kh : Int → Int → am_Mem → Option (Int × am_Mem)} {k : Int} (r : mv_V0 σ 81 v) (w : mv_WF v) (hk : 0 ≤ k ∧ k ≤ 100) : ∀ (m fu : Nat) (x b : Int), 0 ≤ x → x + m = v 25 → m < fu → am_ok b → fl_X7_reach_29 n kh fu b k x σ = kh (mf_pass v m x b) (k + 1) σ := by
  have w1 := w.1
  intro m
  induction m with
  | zero =>
    intro fu x b x0 hx hf hb
    obtain ⟨fu, rfl⟩ : ∃ q, fu = q + 1 := ⟨fu - 1, by omega⟩
    show fb_X7_reach_29 n kh _ b k x σ = _
    unfold fb_X7_reach_29
    rw [r 25 (by decide) (by decide), if_neg (show ¬ x < v 25 by omega), am_w_id (z := k + 1) (by omega)]
    rfl
  | succ m ih =>
    intro fu x b x0 hx hf hb
    obtain ⟨fu, rfl⟩ : ∃ q, fu = q + 1 := ⟨fu - 1, by omega⟩
    show fb_X7_reach_29 n kh (fun y1 y2 y3 σ => fl_X7_reach_29 n kh fu y1 y2 y3 σ) b k x σ = _
    unfold fb_X7_reach_29 mf_pass mf_stp
    rw [r 25 (by decide) (by decide), if_pos (show x < v 25 by omega), r 5 (by decide) (by decide), mv_mhas, am_b2_some, am_w_id (z := x + 1) (by omega), mv_or0 hb]
    by_cases ho : am_and (am_shr (v 5) x) 1 = 1
    · rw [if_pos ho, if_pos ho, if_neg (show ¬ (1 : Int) = 0 by decide), am_w_id (z := 2 * x) (by omega), am_w_id (z := 26 + 2 * x) (by omega), am_w_id (z := 26 + 2 * x + 1) (by omega), if_pos (show (0 : Int) ≤ 26 + 2 * x ∧ 26 + 2 * x < 42 by omega), r (26 + 2 * x) (by omega) (by omega), mv_mhas, am_b2_some, if_pos (show (0 : Int) ≤ 26 + 2 * x + 1 ∧ 26 + 2 * x + 1 < 42 by omega), mv_at r (k' := 27 + 2 * x) (show 26 + 2 * x + 1 = 27 + 2 * x by omega) (by omega)]
      by_cases hh : am_and (am_shr b (v (26 + 2 * x))) 1 = 1
      · rw [if_pos hh, if_pos hh, if_neg (show ¬ (1 : Int) = 0 by decide)]
        exact ih fu (x + 1) _ (by omega) (by omega) (by omega) (an_ok32 _)
      · rw [if_neg hh, if_neg hh, if_pos rfl]
        exact ih fu (x + 1) _ (by omega) (by omega) (by omega) hb
    · rw [if_neg ho, if_neg ho, if_pos rfl]
      exact ih fu (x + 1) _ (by omega) (by omega) (by omega) hb
theorem mf_rw9 {n : Nat} {σ : am_Mem} {v : Int → Int} (hn : 10000000000 ≤ n) (r : mv_TR σ 18 v) (w : mv_WF v) : ∀ (m fu : Nat) (k b : Int), 0 ≤ k → k + m = v 6 → m < fu → fl_X5_openWays_9 n 18 fu b k σ = some (mf_rnds v m b, σ) := by
  have w1 := w.1
  intro m
  induction m with
  | zero =>
    intro fu k b k0 hk hf
    obtain ⟨fu, rfl⟩ : ∃ q, fu = q + 1 := ⟨fu - 1, by omega⟩
    show fb_X5_openWays_9 n 18 _ b k σ = _
    unfold fb_X5_openWays_9
    rw [r.1.1, if_neg (show ¬ k < v 6 by omega)]
    rfl
  | succ m ih =>
    intro fu k b k0 hk hf
    obtain ⟨fu, rfl⟩ : ∃ q, fu = q + 1 := ⟨fu - 1, by omega⟩
    show fb_X5_openWays_9 n 18 (fun y1 y2 σ => fl_X5_openWays_9 n 18 fu y1 y2 σ) b k σ = _
    unfold fb_X5_openWays_9 mf_rnds
    rw [r.1.1, if_pos (show k < v 6 by omega), mf_rw19 r w (by omega) (v 25).toNat n 0 b (by omega) (by omega) (by omega)]
    exact ih fu (k + 1) _ (by omega) (by omega) (by omega)
theorem mf_rw21 {n : Nat} {σ : am_Mem} {v : Int → Int} (hn : 10000000000 ≤ n) (r : mv_V0 σ 81 v) (w : mv_WF v) : ∀ (m fu : Nat) (k b : Int), 0 ≤ k → k + m = 6 → m < fu → 0 ≤ b → b < 2 ^ (v 6).toNat → fl_X7_reach_21 n fu b k σ = some (mf_rnds v m b, σ) := by
  have w1 := w.1
  have p6 := mf_p6 w1.1 w1.2.1
  intro m
  induction m with
  | zero =>
    intro fu k b k0 hk hf b0 b1
    obtain ⟨fu, rfl⟩ : ∃ q, fu = q + 1 := ⟨fu - 1, by omega⟩
    show fb_X7_reach_21 n _ b k σ = _
    unfold fb_X7_reach_21
    rw [if_neg (show ¬ k < 6 by omega)]
    rfl
  | succ m ih =>
    intro fu k b k0 hk hf b0 b1
    obtain ⟨fu, rfl⟩ : ∃ q, fu = q + 1 := ⟨fu - 1, by omega⟩
    obtain ⟨p0, p1, _⟩ := mf_pass_in w (v 25).toNat 0 b (by omega) (by omega) b0 b1
    show fb_X7_reach_21 n (fun y1 y2 σ => fl_X7_reach_21 n fu y1 y2 σ) b k σ = _
    unfold fb_X7_reach_21 mf_rnds
    rw [if_pos (show k < 6 by omega), mf_rw29 r w (by omega) (v 25).toNat n 0 b (by omega) (by omega) (by omega) (by omega)]
    exact ih fu (k + 1) _ (by omega) (by omega) (by omega) p0 p1
theorem ma_reach {n : Nat} {σ : am_Mem} {v : Int → Int} (hn : 10000000000 ≤ n) (R1 : mr_town σ v) : ∃ r, f_X6_reach n σ = some (r, σ) ∧ f_X7_reach n σ = some (r, σ) := by
  obtain ⟨w, w3, r1, r2⟩ := R1
  have w1 := w.1
  unfold f_X6_reach f_X7_reach
  rw [mv_stands r1, am_b2_some, mv_misT r2 w, am_b2_some]
  by_cases ht : 0 < v 6
  · have h4 := w.2.2.1 ht
    obtain ⟨b0, b1, b2⟩ := mf_pc3 w1.2.1 w1.2.2.2.2.2.2.2.2.2.2.2.1 h4
    have e6 : f_X5_openWays n 18 σ = some (mf_rnds v (v 6).toNat (am_shl 1 (v 4)), σ) := by
      unfold f_X5_openWays
      rw [r1.1.2.2.2.2.1]
      exact mf_rw9 hn r1 w (v 6).toNat n 0 _ (by omega) (by omega) (by omega)
    have ee := mf_rnds_eq w (v 6).toNat (6 - (v 6).toNat) (am_shl 1 (v 4)) b0 b1 (by omega)
    rw [show (v 6).toNat + (6 - (v 6).toNat) = 6 by omega] at ee
    rw [if_pos ht, if_neg (show ¬ (1 : Int) = 0 by decide), if_neg (show ¬ (1 : Int) = 0 by decide), e6, am_b2_some, r2 4 (by decide) (by decide), mf_rw21 hn r2 w 6 n 0 _ (by omega) (by omega) (by omega) b0 b1, ee]
    exact ⟨_, rfl, rfl⟩
  · rw [if_neg ht, if_pos rfl, if_pos rfl]
    exact ⟨_, rfl, rfl⟩
