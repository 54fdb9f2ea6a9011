/-! fits, fitsOf -/
def mf_bits (f : Int → Int) : Nat → Int → Int → Int
  | 0, _, acc => acc
  | m + 1, x, acc => mf_bits f m (x + 1) (if f x = 0 then acc else am_or acc (am_shl 1 x))
theorem mv_WF_rate {v : Int → Int} {z : Int} (w : mv_WF v) (h6 : 0 < v 6) (hz : 1 ≤ z ∧ z ≤ 9) : mv_WF (mv_set v 0 z) := by
  have w1 := w.1
  unfold mv_WF
  rw [mv_set_eq, mv_set_ne (j := 1) (by omega), mv_set_ne (j := 2) (by omega), mv_set_ne (j := 3) (by omega), mv_set_ne (j := 4) (by omega), mv_set_ne (j := 5) (by omega), mv_set_ne (j := 6) (by omega), mv_set_ne (j := 25) (by omega)]
  refine ⟨by omega, by omega, w.2.2.1, w.2.2.2.1, ?_, ?_⟩
  · intro x x0 x1
    rw [mv_set_ne (by omega), mv_set_ne (by omega), mv_set_ne (by omega)]
    exact w.2.2.2.2.1 x x0 x1
  · intro x x0 x1
    rw [mv_set_ne (by omega), mv_set_ne (by omega)]
    exact w.2.2.2.2.2 x x0 x1
theorem mv_WF_mood {v : Int → Int} {z : Int} (w : mv_WF v) (hz : 0 ≤ z ∧ z ≤ 9) : mv_WF (mv_set v 1 z) := by
  have w1 := w.1
  exact mv_WF_scal w (fun k hk => mv_set_ne (by omega)) (by rw [mv_set_eq]; exact hz) (by rw [mv_set_ne (by decide)]; omega) (by rw [mv_set_ne (by decide)]; omega) (by rw [mv_set_ne (by decide)]; exact ⟨by omega, w.2.2.1⟩)
theorem mv_WF_kind {v : Int → Int} {c z : Int} (w : mv_WF v) (h0 : 0 ≤ c) (h1 : c < v 6) (hz : 1 ≤ z ∧ z ≤ 5) : mv_WF (mv_set v (7 + 3 * c) z) := by
  have w1 := w.1
  unfold mv_WF
  rw [mv_set_ne (j := 0) (by omega), mv_set_ne (j := 1) (by omega), mv_set_ne (j := 2) (by omega), mv_set_ne (j := 3) (by omega), mv_set_ne (j := 4) (by omega), mv_set_ne (j := 5) (by omega), mv_set_ne (j := 6) (by omega), mv_set_ne (j := 25) (by omega)]
  refine ⟨w.1, w.2.1, w.2.2.1, w.2.2.2.1, ?_, ?_⟩
  · intro x x0 x1
    have q := w.2.2.2.2.1 x x0 x1
    rw [mv_set_ne (j := 8 + 3 * x) (by omega), mv_set_ne (j := 9 + 3 * x) (by omega)]
    by_cases hx : x = c
    · subst hx; rw [mv_set_eq]; omega
    · rw [mv_set_ne (by omega)]; exact q
  · intro x x0 x1
    rw [mv_set_ne (by omega), mv_set_ne (by omega)]
    exact w.2.2.2.2.2 x x0 x1
theorem mv_TR_kind {σ : am_Mem} {t : Nat} {v : Int → Int} {c z : Int} (h0 : 0 ≤ c) (r : mv_TR σ t v) (h1 : c < v 6) (h6 : v 6 ≤ 6) : mv_TR (am_up σ (t + 1) c z) t (mv_set v (7 + 3 * c) z) := by
  refine ⟨?_, ?_, ?_⟩
  · rw [ah_up_ne _ _ _ (by omega), mv_set_ne (by omega), mv_set_ne (by omega), mv_set_ne (by omega), mv_set_ne (by omega), mv_set_ne (by omega), mv_set_ne (by omega), mv_set_ne (by omega), mv_set_ne (by omega)]
    exact r.1
  · intro x x0 x1
    rw [mv_set_ne (by omega)] at x1
    have q := r.2.1 x x0 x1
    refine ⟨?_, ?_, ?_⟩
    · by_cases hx : x = c
      · subst hx; rw [mv_up_eq, mv_set_eq]
      · rw [mv_up_j hx, mv_set_ne (by omega)]; exact q.1
    · rw [ah_up_ne _ _ _ (by omega), mv_set_ne (by omega)]; exact q.2.1
    · rw [ah_up_ne _ _ _ (by omega), mv_set_ne (by omega)]; exact q.2.2
  · intro x x0 x1
    rw [mv_set_ne (by omega)] at x1
    rw [ah_up_ne _ _ _ (by omega), ah_up_ne _ _ _ (by omega), mv_set_ne (by omega), mv_set_ne (by omega)]
    exact r.2.2 x x0 x1
theorem mf_all {n : Nat} {pa fr N hi pl : Int} {paid str : Int → Int} {v : Int → Int} (hn : 10000000000 ≤ n) (hp0 : 0 ≤ pa) (hf0 : 0 ≤ fr) (hN : 0 ≤ N ∧ N ≤ 8) (hpN : pa + N ≤ 320) (hfN : fr + N ≤ 320) (hpl : 0 ≤ pl ∧ pl < 42 ∧ pl ≠ 3) (h3 : v 3 ≤ 999) (lo : Int) (lo0 : 0 ≤ lo) (hhi : hi ≤ 9) (W : ∀ z : Int, lo ≤ z → z ≤ hi → mv_WF (mv_set v pl z)) : ∀ (m fu : Nat) (x acc : Int) (σ : am_Mem), lo ≤ x → x + m = hi + 1 → m < fu → am_ok acc → mv_V0 σ 81 v → (∀ t : Int, 0 ≤ t → t < N → σ 78 (fr + t) = str t) → (∀ t : Int, 0 ≤ t → t < N → σ 78 (pa + t) = paid t) → ∃ σ', fl_X7_all_6 n fu pl hi pa fr N acc x σ = some (mf_bits (fun z => mf_so paid str N.toNat 0 (mv_set v pl z)) m x acc, σ') ∧ σ' 75 4 = 0 := by
  intro m
  induction m with
  | zero =>
    intro fu x acc σ x0 hx hf ha r hs hp
    obtain ⟨fu, rfl⟩ : ∃ q, fu = q + 1 := ⟨fu - 1, by omega⟩
    refine ⟨am_up σ 75 4 0, ?_, mv_up_eq⟩
    show fb_X7_all_6 n _ pl hi pa fr N acc x σ = _
    unfold fb_X7_all_6
    rw [if_neg (show ¬ x ≤ hi by omega), mv_we7, am_b2_some]
    rfl
  | succ m ih =>
    intro fu x acc σ x0 hx hf ha r hs hp
    obtain ⟨fu, rfl⟩ : ∃ q, fu = q + 1 := ⟨fu - 1, by omega⟩
    show ∃ σ', fb_X7_all_6 n (fun y1 y2 y3 y4 y5 y6 y7 σ => fl_X7_all_6 n fu y1 y2 y3 y4 y5 y6 y7 σ) pl hi pa fr N acc x σ = some (mf_bits (fun z => mf_so paid str N.toNat 0 (mv_set v pl z)) (m + 1) x acc, σ') ∧ σ' 75 4 = 0
    unfold fb_X7_all_6 mf_bits
    obtain ⟨τ, e, g1, _⟩ := mv_copies (n := n) (p := 81) (q := 83) (pn := 42) (qn := 42) (σ := σ) (a := 0) (b := 0) (by omega) (by decide) (by omega) (by omega) (by omega) (by omega) (by omega) (by omega)
    have F := w_X7_copies e
    have F' : ∀ c : Nat, c ≠ 83 → τ c = σ c := fun c hc => F c (by unfold nw_X7_copies; omega)
    have rv : mv_V0 τ 83 v := by
      intro k k0 k1
      have q := g1 k k0 k1
      rw [Int.zero_add] at q
      rw [q]
      exact r k k0 k1
    have rv2 := mv_V0_up (k := pl) (z := x) rv
    have W' := W x x0 (by omega)
    have s3 : mv_set v pl x 3 = v 3 := mv_set_ne (by omega)
    obtain ⟨τ2, e2⟩ := mf_goesSo (n := n) (paid := paid) (str := str) hp0 hf0 hN.2 hpN hfN N.toNat n 0 (am_up τ 83 pl x) (mv_set v pl x) (by omega) (by omega) (by omega) rv2 W' (by rw [s3]; omega) (by rw [ah_up_ne _ _ _ (by decide), F' 78 (by decide)]; exact hs) (by rw [ah_up_ne _ _ _ (by decide), F' 78 (by decide)]; exact hp)
    have F2 := w_X7_goesSo (show f_X7_goesSo n pa fr N (am_up τ 83 pl x) = some (_, τ2) from e2)
    have F2' : ∀ c : Nat, c ≠ 83 → τ2 c = σ c := fun c hc => by rw [F2 c (by unfold nw_X7_goesSo; omega), ah_up_ne _ _ _ hc, F' c hc]
    have e2' : f_X7_goesSo n pa fr N (am_up τ 83 pl x) = some (mf_so paid str N.toNat 0 (mv_set v pl x), τ2) := e2
    rw [if_pos (show x ≤ hi by omega), e, am_b1_some, if_pos (show (0 : Int) ≤ pl ∧ pl < 42 by omega), am_b1_some, e2', am_b2_some, mv_or0 ha, am_w_id (z := x + 1) (by omega)]
    have r' : mv_V0 τ2 81 v := by
      unfold mv_V0
      rw [F2' 81 (by decide)]
      exact r
    have hs' : ∀ t : Int, 0 ≤ t → t < N → τ2 78 (fr + t) = str t := by rw [F2' 78 (by decide)]; exact hs
    have hp' : ∀ t : Int, 0 ≤ t → t < N → τ2 78 (pa + t) = paid t := by rw [F2' 78 (by decide)]; exact hp
    by_cases h0 : mf_so paid str N.toNat 0 (mv_set v pl x) = 0
    · rw [if_pos h0, if_pos h0]
      exact ih fu (x + 1) acc τ2 (by omega) (by omega) (by omega) ha r' hs' hp'
    · rw [if_neg h0, if_neg h0]
      exact ih fu (x + 1) _ τ2 (by omega) (by omega) (by omega) (an_ok32 _) r' hs' hp'
theorem mf_fits6 {n : Nat} {a i b j N wh lo : Int} {paid str : Int → Int} {v : Int → Int} {pl : Int} (hn : 10000000000 ≤ n) (ha : 0 ≤ a ∧ a < 8) (hb : 0 ≤ b ∧ b < 8) (hi : 0 ≤ i) (hj : 0 ≤ j) (hN : 0 ≤ N ∧ N ≤ 8) (hiN : i + N ≤ 40) (hjN : j + N ≤ 40) (w : mv_WF v) (h3 : v 3 ≤ 999) (hw : (wh = 0 ∧ pl = 1) ∨ (wh = 1 ∧ pl = 0)) (lo0 : 0 ≤ lo) (W : ∀ z : Int, lo ≤ z → z ≤ 9 → mv_WF (mv_set v pl z)) : ∀ (m fu : Nat) (x acc : Int) (σ : am_Mem), lo ≤ x → x + m = 10 → m < fu → mv_TR σ 18 v → (∀ t : Int, 0 ≤ t → t < N → σ (8 + b.toNat) (j + t) = str t) → (∀ t : Int, 0 ≤ t → t < N → σ (8 + a.toNat) (i + t) = paid t) → ∃ σ', fl_X6_fits_86 n fu a i b j N wh acc 9 x σ = some (mf_bits (fun z => mf_so paid str N.toNat 0 (mv_set v pl z)) m x acc, σ') ∧ σ' 3 8 = 0 := by
  intro m
  induction m with
  | zero =>
    intro fu x acc σ x0 hx hf r hs hp
    obtain ⟨fu, rfl⟩ : ∃ q, fu = q + 1 := ⟨fu - 1, by omega⟩
    refine ⟨am_up σ 3 8 0, ?_, mv_up_eq⟩
    show fb_X6_fits_86 n _ a i b j N wh acc 9 x σ = _
    unfold fb_X6_fits_86
    rw [if_neg (show ¬ x ≤ 9 by omega), mv_un6, am_b2_some]
    rfl
  | succ m ih =>
    intro fu x acc σ x0 hx hf r hs hp
    obtain ⟨fu, rfl⟩ : ∃ q, fu = q + 1 := ⟨fu - 1, by omega⟩
    show ∃ σ', fb_X6_fits_86 n (fun y1 y2 y3 y4 y5 y6 y7 y8 y9 σ => fl_X6_fits_86 n fu y1 y2 y3 y4 y5 y6 y7 y8 y9 σ) a i b j N wh acc 9 x σ = some (mf_bits (fun z => mf_so paid str N.toNat 0 (mv_set v pl z)) (m + 1) x acc, σ') ∧ σ' 3 8 = 0
    unfold fb_X6_fits_86 mf_bits
    obtain ⟨τ, e, rt⟩ := mv_become (n := n) (t := 24) (u := 18) (by omega) r w
    have F := w_X5_become e
    have F' : ∀ c : Nat, (c < 24 ∨ 30 ≤ c) → τ c = σ c := fun c hc => F c (by unfold nw_X5_become; omega)
    have W' := W x x0 (by omega)
    have s3 : mv_set v pl x 3 = v 3 := mv_set_ne (by omega)
    have K : ∀ μ : am_Mem, mv_TR μ 24 (mv_set v pl x) → (∀ c : Nat, c ≠ 24 → μ c = τ c) → ∃ σ', fb_X6_fits_130 n (fun y1 y2 y3 y4 y5 y6 y7 y8 y9 σ => fl_X6_fits_86 n fu y1 y2 y3 y4 y5 y6 y7 y8 y9 σ) a i b j N wh acc 9 x μ = some (mf_bits (fun z => mf_so paid str N.toNat 0 (mv_set v pl z)) m (x + 1) (if mf_so paid str N.toNat 0 (mv_set v pl x) = 0 then acc else am_or acc (am_shl 1 x)), σ') ∧ σ' 3 8 = 0 := by
      intro μ rμ fμ
      have G : ∀ c : Nat, (c < 24 ∨ 30 ≤ c) → μ c = σ c := fun c hc => by rw [fμ c (by omega), F' c hc]
      obtain ⟨τ2, e2⟩ := mf_isSo (n := n) (paid := paid) (str := str) ha hb hi hj hN.2 hiN hjN N.toNat n 0 μ (mv_set v pl x) (by omega) (by omega) (by omega) rμ W' (by rw [s3]; omega) (by rw [G _ (by omega)]; exact hs) (by rw [G _ (by omega)]; exact hp)
      have e2' : f_X6_isSo n a i b j N μ = some (mf_so paid str N.toNat 0 (mv_set v pl x), τ2) := e2
      have F2 := w_X6_isSo e2'
      have F2' : ∀ c : Nat, (c < 24 ∨ 30 ≤ c) → τ2 c = σ c := fun c hc => by rw [F2 c (by unfold nw_X6_isSo; omega), G c hc]
      have r' : mv_TR τ2 18 v := mv_TR_fr r (F2' _ (by omega)) (F2' _ (by omega)) (F2' _ (by omega)) (F2' _ (by omega)) (F2' _ (by omega)) (F2' _ (by omega))
      have hs' : ∀ t : Int, 0 ≤ t → t < N → τ2 (8 + b.toNat) (j + t) = str t := by rw [F2' _ (by omega)]; exact hs
      have hp' : ∀ t : Int, 0 ≤ t → t < N → τ2 (8 + a.toNat) (i + t) = paid t := by rw [F2' _ (by omega)]; exact hp
      unfold fb_X6_fits_130
      rw [e2', am_b2_some, am_w_id (z := x + 1) (by omega)]
      by_cases h0 : mf_so paid str N.toNat 0 (mv_set v pl x) = 0
      · rw [if_pos h0, if_pos h0]
        exact ih fu (x + 1) acc τ2 (by omega) (by omega) (by omega) r' hs' hp'
      · rw [if_neg h0, if_neg h0]
        exact ih fu (x + 1) _ τ2 (by omega) (by omega) (by omega) r' hs' hp'
    rw [if_pos (show x ≤ 9 by omega), e, am_b1_some]
    rcases hw with ⟨hw, hpl⟩ | ⟨hw, hpl⟩
    · rw [if_pos hw, am_b1_some]
      subst hpl
      exact K _ (mv_TR_up10 rt) (fun c hc => ah_up_ne _ _ _ hc)
    · rw [if_neg (show ¬ wh = 0 by omega), am_b1_some]
      subst hpl
      exact K _ (mv_TR_up7 rt) (fun c hc => ah_up_ne _ _ _ hc)
