/-! fits, fitsOf -/
theorem mf_fitsOf6 {n : Nat} {c1 a i b j N wh lo hh : Int} {paid str : Int → Int} {v : Int → Int} {pl : Int} (hn : 10000000000 ≤ n) (ha : 0 ≤ a ∧ a < 8) (hb : 0 ≤ b ∧ b < 8) (hi : 0 ≤ i) (hj : 0 ≤ j) (hN : 0 ≤ N ∧ N ≤ 8) (hiN : i + N ≤ 40) (hjN : j + N ≤ 40) (w : mv_WF v) (h3 : v 3 ≤ 999) (hc0 : 0 ≤ c1) (hc1 : c1 < v 6) (hhi : hh ≤ 9) (hw : (wh = 0 ∧ pl = 7 + 3 * c1) ∨ (wh = 1 ∧ pl = 8 + 3 * c1)) (lo0 : 0 ≤ lo) (W : ∀ z : Int, lo ≤ z → z ≤ hh → mv_WF (mv_set v pl z)) : ∀ (m fu : Nat) (x acc : Int) (σ : am_Mem), lo ≤ x → x + m = hh + 1 → m < fu → mv_TR σ 18 v → (∀ t : Int, 0 ≤ t → t < N → σ (8 + b.toNat) (j + t) = str t) → (∀ t : Int, 0 ≤ t → t < N → σ (8 + a.toNat) (i + t) = paid t) → ∃ σ', fl_X6_fitsOf_85 n fu c1 a i b j N wh acc hh x σ = some (mf_bits (fun z => mf_so paid str N.toNat 0 (mv_set v pl z)) m x acc, σ') ∧ σ' 3 8 = 0 := by
  have w1 := w.1
  intro m
  induction m with
  | zero =>
    intro fu x acc σ x0 hx hf r hs hp
    obtain ⟨fu, rfl⟩ : ∃ q, fu = q + 1 := ⟨fu - 1, by omega⟩
    refine ⟨am_up σ 3 8 0, ?_, mv_up_eq⟩
    show fb_X6_fitsOf_85 n _ c1 a i b j N wh acc hh x σ = _
    unfold fb_X6_fitsOf_85
    rw [if_neg (show ¬ x ≤ hh by omega), mv_un6, am_b2_some]
    rfl
  | succ m ih =>
    intro fu x acc σ x0 hx hf r hs hp
    obtain ⟨fu, rfl⟩ : ∃ q, fu = q + 1 := ⟨fu - 1, by omega⟩
    show ∃ σ', fb_X6_fitsOf_85 n (fun y0 y1 y2 y3 y4 y5 y6 y7 y8 y9 σ => fl_X6_fitsOf_85 n fu y0 y1 y2 y3 y4 y5 y6 y7 y8 y9 σ) c1 a i b j N wh acc hh x σ = some (mf_bits (fun z => mf_so paid str N.toNat 0 (mv_set v pl z)) (m + 1) x acc, σ') ∧ σ' 3 8 = 0
    unfold fb_X6_fitsOf_85 mf_bits
    obtain ⟨τ, e, rt⟩ := mv_become (n := n) (t := 24) (u := 18) (by omega) r w
    have F := w_X5_become e
    have F' : ∀ c : Nat, (c < 24 ∨ 30 ≤ c) → τ c = σ c := fun c hc => F c (by unfold nw_X5_become; omega)
    have W' := W x x0 (by omega)
    have s3 : mv_set v pl x 3 = v 3 := mv_set_ne (by omega)
    have K : ∀ μ : am_Mem, mv_TR μ 24 (mv_set v pl x) → (∀ c : Nat, c ≠ 24 → c ≠ 25 → c ≠ 26 → μ c = τ c) → ∃ σ', fb_X6_fitsOf_133 n (fun y0 y1 y2 y3 y4 y5 y6 y7 y8 y9 σ => fl_X6_fitsOf_85 n fu y0 y1 y2 y3 y4 y5 y6 y7 y8 y9 σ) c1 a i b j N wh acc hh x μ = some (mf_bits (fun z => mf_so paid str N.toNat 0 (mv_set v pl z)) m (x + 1) (if mf_so paid str N.toNat 0 (mv_set v pl x) = 0 then acc else am_or acc (am_shl 1 x)), σ') ∧ σ' 3 8 = 0 := by
      intro μ rμ fμ
      have G : ∀ c : Nat, (c < 24 ∨ 30 ≤ c) → μ c = σ c := fun c hc => by rw [fμ c (by omega) (by omega) (by omega), F' c hc]
      obtain ⟨τ2, e2⟩ := mf_isSo (n := n) (paid := paid) (str := str) ha hb hi hj hN.2 hiN hjN N.toNat n 0 μ (mv_set v pl x) (by omega) (by omega) (by omega) rμ W' (by rw [s3]; omega) (by rw [G _ (by omega)]; exact hs) (by rw [G _ (by omega)]; exact hp)
      have e2' : f_X6_isSo n a i b j N μ = some (mf_so paid str N.toNat 0 (mv_set v pl x), τ2) := e2
      have F2 := w_X6_isSo e2'
      have F2' : ∀ c : Nat, (c < 24 ∨ 30 ≤ c) → τ2 c = σ c := fun c hc => by rw [F2 c (by unfold nw_X6_isSo; omega), G c hc]
      have r' : mv_TR τ2 18 v := mv_TR_fr r (F2' _ (by omega)) (F2' _ (by omega)) (F2' _ (by omega)) (F2' _ (by omega)) (F2' _ (by omega)) (F2' _ (by omega))
      have hs' : ∀ t : Int, 0 ≤ t → t < N → τ2 (8 + b.toNat) (j + t) = str t := by rw [F2' _ (by omega)]; exact hs
      have hp' : ∀ t : Int, 0 ≤ t → t < N → τ2 (8 + a.toNat) (i + t) = paid t := by rw [F2' _ (by omega)]; exact hp
      unfold fb_X6_fitsOf_133
      rw [e2', am_b2_some, am_w_id (z := x + 1) (by omega)]
      by_cases h0 : mf_so paid str N.toNat 0 (mv_set v pl x) = 0
      · rw [if_pos h0, if_pos h0]
        exact ih fu (x + 1) acc τ2 (by omega) (by omega) (by omega) r' hs' hp'
      · rw [if_neg h0, if_neg h0]
        exact ih fu (x + 1) _ τ2 (by omega) (by omega) (by omega) r' hs' hp'
    rw [if_pos (show x ≤ hh by omega), e, am_b1_some]
    have w1 := w.1
    rcases hw with ⟨hw, hpl⟩ | ⟨hw, hpl⟩
    · rw [if_pos hw, if_pos (show (0 : Int) ≤ c1 ∧ c1 < 6 by omega), am_b1_some]
      subst hpl
      exact K _ (mv_TR_kind hc0 rt hc1 (by omega)) (fun c _ hc _ => ah_up_ne _ _ _ hc)
    · rw [if_neg (show ¬ wh = 0 by omega), if_pos (show (0 : Int) ≤ c1 ∧ c1 < 6 by omega), am_b1_some]
      subst hpl
      exact K _ (mv_TR_much hc0 rt hc1 (by omega)) (fun c _ _ hc => ah_up_ne _ _ _ hc)
theorem mr_two {n : Nat} {σ : am_Mem} {a i b j k : Int} (R : mr_rows σ) (ha : 0 ≤ a ∧ a < 8) (hb : 0 ≤ b ∧ b < 8) (hk : 1 ≤ k ∧ k ≤ 8) : ∃ fd : Int, (fd = 0 ∨ fd = 1 ∨ fd = 2) ∧ f_X6_findingOfTwo n a i b j k σ = some (fd, σ) ∧ (∀ τ : am_Mem, τ 76 = σ 76 → τ 77 = σ 77 → f_X7_bar n a i b j k τ = if fd = 0 then some (0, τ) else some (-1000010 - fd, am_up τ 75 4 fd)) ∧ (fd = 0 → (0 ≤ i ∧ i + k ≤ σ 6 a ∧ σ 6 a ≤ 40 ∧ ∀ t : Int, 0 ≤ t → t < σ 6 a → σ (8 + a.toNat) t = σ 78 (40 * a + t)) ∧ (0 ≤ j ∧ j + k ≤ σ 6 b ∧ σ 6 b ≤ 40 ∧ ∀ t : Int, 0 ≤ t → t < σ 6 b → σ (8 + b.toNat) t = σ 78 (40 * b + t))) := by
  have w1 : am_w (-1000010 - 1) = -1000010 - 1 := am_w_id (by decide)
  have w2 : am_w (-1000010 - 2) = -1000010 - 2 := am_w_id (by decide)
  rcases R a ha.1 ha.2 with ⟨q1, q2⟩ | ⟨u1, u2, u3, u4, u5, u6, u7⟩
  · refine ⟨1, by omega, ?_, ?_, fun h => absurd h (by decide)⟩
    · unfold f_X6_findingOfTwo
      rw [mv_fnd R ha (by omega), am_b2_some, if_pos q1, if_neg (by decide)]
    · intro τ t6 t7
      unfold f_X7_bar
      rw [mv_mis7 ha, am_b2_some, t6, if_pos q2, if_neg (by decide), mv_fd7, am_b2_some, w1, if_neg (by decide)]
  · by_cases hp : 0 ≤ i ∧ 0 ≤ k ∧ i + k ≤ σ 6 a
    · rcases R b hb.1 hb.2 with ⟨q1, q2⟩ | ⟨v1, v2, v3, v4, v5, v6, v7⟩
      · refine ⟨1, by omega, ?_, ?_, fun h => absurd h (by decide)⟩
        · unfold f_X6_findingOfTwo
          rw [mv_fnd R ha (by omega), am_b2_some, if_neg (show ¬ σ 6 a = -1 by omega), if_pos hp, if_pos rfl, mv_fnd R hb (by omega), am_b2_some, if_pos q1]
        · intro τ t6 t7
          unfold f_X7_bar
          rw [mv_mis7 ha, am_b2_some, t6, if_neg (show ¬ σ 76 a = -1000000 by omega), if_pos rfl, mv_isPart ha (by rw [t7]; omega), am_b2_some, t7, u6, if_pos hp, if_neg (by decide), mv_mis7 hb, am_b2_some, t6, if_pos q2, if_neg (by decide), mv_fd7, am_b2_some, w1, if_neg (by decide)]
      · by_cases hq : 0 ≤ j ∧ 0 ≤ k ∧ j + k ≤ σ 6 b
        · refine ⟨0, by omega, ?_, ?_, fun _ => ⟨⟨hp.1, hp.2.2, u2, u7⟩, hq.1, hq.2.2, v2, v7⟩⟩
          · unfold f_X6_findingOfTwo
            rw [mv_fnd R ha (by omega), am_b2_some, if_neg (show ¬ σ 6 a = -1 by omega), if_pos hp, if_pos rfl, mv_fnd R hb (by omega), am_b2_some, if_neg (show ¬ σ 6 b = -1 by omega), if_pos hq]
          · intro τ t6 t7
            unfold f_X7_bar
            rw [mv_mis7 ha, am_b2_some, t6, if_neg (show ¬ σ 76 a = -1000000 by omega), if_pos rfl, mv_isPart ha (by rw [t7]; omega), am_b2_some, t7, u6, if_pos hp, if_neg (by decide), mv_mis7 hb, am_b2_some, t6, if_neg (show ¬ σ 76 b = -1000000 by omega), if_pos rfl, mv_isPart hb (by rw [t7]; omega), am_b2_some, t7, v6, if_pos hq, if_neg (by decide), if_pos rfl]
        · refine ⟨2, by omega, ?_, ?_, fun h => absurd h (by decide)⟩
          · unfold f_X6_findingOfTwo
            rw [mv_fnd R ha (by omega), am_b2_some, if_neg (show ¬ σ 6 a = -1 by omega), if_pos hp, if_pos rfl, mv_fnd R hb (by omega), am_b2_some, if_neg (show ¬ σ 6 b = -1 by omega), if_neg hq]
          · intro τ t6 t7
            unfold f_X7_bar
            rw [mv_mis7 ha, am_b2_some, t6, if_neg (show ¬ σ 76 a = -1000000 by omega), if_pos rfl, mv_isPart ha (by rw [t7]; omega), am_b2_some, t7, u6, if_pos hp, if_neg (by decide), mv_mis7 hb, am_b2_some, t6, if_neg (show ¬ σ 76 b = -1000000 by omega), if_pos rfl, mv_isPart hb (by rw [t7]; omega), am_b2_some, t7, v6, if_neg hq, if_pos rfl, mv_fd7, am_b2_some, w2, if_neg (by decide)]
    · refine ⟨2, by omega, ?_, ?_, fun h => absurd h (by decide)⟩
      · unfold f_X6_findingOfTwo
        rw [mv_fnd R ha (by omega), am_b2_some, if_neg (show ¬ σ 6 a = -1 by omega), if_neg hp, if_neg (by decide)]
      · intro τ t6 t7
        unfold f_X7_bar
        rw [mv_mis7 ha, am_b2_some, t6, if_neg (show ¬ σ 76 a = -1000000 by omega), if_pos rfl, mv_isPart ha (by rw [t7]; omega), am_b2_some, t7, u6, if_neg hp, if_pos rfl, mv_fd7, am_b2_some, w2, if_neg (by decide)]
theorem mv_areFit {n : Nat} {σ : am_Mem} {a b k wh : Int} : f_X6_areFitting n a b k wh σ = some (if (0 ≤ a ∧ a < 8) ∧ (0 ≤ b ∧ b < 8) ∧ (1 ≤ k ∧ k ≤ 8) ∧ (0 ≤ wh ∧ wh ≤ 1) then 1 else 0, σ) := by
  unfold f_X6_areFitting
  rw [mv_isRow6, am_b2_some]
  by_cases h1 : 0 ≤ a ∧ a < 8
  · rw [if_pos h1, if_neg (by decide), mv_isRow6, am_b2_some]
    by_cases h2 : 0 ≤ b ∧ b < 8
    · rw [if_pos h2, if_neg (by decide)]
      repeat' split
      all_goals first | rfl | omega
    · rw [if_neg h2, if_pos rfl, if_neg (fun q => h2 q.2.1)]
  · rw [if_neg h1, if_pos rfl, if_neg (fun q => h1 q.1)]
