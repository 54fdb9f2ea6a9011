/-! drawn, the call -/
def mf_nx (x : Int) : Int := Int.tmod (am_wl (x * 16807)) 2147483647
theorem mf_nx_in {x : Int} (h0 : 0 ≤ x) (h1 : x ≤ 2147483647) : 0 ≤ mf_nx x ∧ mf_nx x ≤ 2147483647 := by
  unfold mf_nx
  rw [am_wl_id (z := x * 16807) (by omega), Int.tmod_eq_emod_of_nonneg (by omega)]
  omega
def mf_draw (v : Int → Int) (x : Int) : Int → Int := if mf_cnt v (v 25).toNat 0 = 0 then mv_set v 3 (v 3 + 1) else mv_rides v (mf_nth v (v 25).toNat (Int.tmod x (mf_cnt v (v 25).toNat 0)) 0)
theorem mf_tm {x c : Int} (h0 : 0 ≤ x) (hc : 0 < c) : 0 ≤ Int.tmod x c ∧ Int.tmod x c < c := ⟨Int.tmod_nonneg _ h0, Int.tmod_lt_of_pos _ hc⟩
theorem mf_draw3 (v : Int → Int) (x : Int) : mf_draw v x 3 = v 3 + 1 := by
  unfold mf_draw
  split
  · exact mv_set_eq
  · exact mf_rides3 v _
theorem mf_draw_WF {v : Int → Int} {x : Int} (w : mv_WF v) (h0 : 0 ≤ x) : mv_WF (mf_draw v x) := by
  have w1 := w.1
  have c := mf_cnt_in v (v 25).toNat 0
  unfold mf_draw
  split
  · exact mv_WF_scal w (fun k hk => mv_set_ne (by omega)) (by rw [mv_set_ne (by decide)]; omega) (by rw [mv_set_ne (by decide)]; omega) (by rw [mv_set_eq]; omega) (by rw [mv_set_ne (by decide)]; exact ⟨by omega, w.2.2.1⟩)
  · rename_i hc
    have tm := mf_tm (c := mf_cnt v (v 25).toNat 0) h0 (by omega)
    have g := mv_goesi1.1 (mf_nth_yes v (v 25).toNat _ 0 (by omega) tm.1 tm.2)
    exact mv_rides_WF w g.1 g.2.1
theorem mf_draw6 {n : Nat} {σ : am_Mem} {v : Int → Int} {x : Int} (hn : 10000000000 ≤ n) (r : mv_TR σ 24 v) (w : mv_WF v) (h0 : 0 ≤ x) (h3 : v 3 ≤ 5000) : ∃ τ, f_X5_goByDraw n 24 x σ = some τ ∧ mv_TR τ 24 (mf_draw v x) := by
  have w1 := w.1
  have c := mf_cnt_in v (v 25).toNat 0
  unfold f_X5_goByDraw
  rw [mf_go5 r w (v 25).toNat n 0 0 (by omega) (by omega) (by omega) (by omega) (by omega), Int.zero_add]
  unfold mf_draw
  by_cases hc : mf_cnt v (v 25).toNat 0 = 0
  · rw [if_pos hc, if_pos hc, am_b1_some, r.1.2.2.2.2.2.2.2, am_w_id (z := v 3 + 1) (by omega)]
    exact ⟨_, rfl, mv_TR_up12 r⟩
  · have tm := mf_tm (c := mf_cnt v (v 25).toNat 0) h0 (by omega)
    have g := mv_goesi1.1 (mf_nth_yes v (v 25).toNat _ 0 (by omega) tm.1 tm.2)
    rw [if_neg hc, if_pos hc, if_neg hc, am_w_id (z := Int.tmod x (mf_cnt v (v 25).toNat 0)) (by omega), mf_go57 r w (v 25).toNat n _ 0 (by omega) (by omega) (by omega) tm.1 (by omega) tm.2]
    obtain ⟨τ, e, r'⟩ := mv_goBy (n := n) r w g.1 g.2.1 (by omega)
    rw [e, am_b1_some]
    exact ⟨τ, rfl, r'⟩
theorem mf_after0 {n : Nat} {σ : am_Mem} {v : Int → Int} {a : Int} (hn : 10000000000 ≤ n) (r : mv_V0 σ 83 v) (w : mv_WF v) (a0 : 0 ≤ a) (a1 : a ≤ 100) : f_X7_streetAfter n a σ = some (mf_nth v (v 25).toNat a 0, σ) := by
  have w1 := w.1
  exact mf_after r w (v 25).toNat n a 0 (by omega) (by omega) (by omega) a0 a1
theorem mf_draw7 {n : Nat} {σ : am_Mem} {v : Int → Int} {x N wh k : Int} {kh : Int → Int → Int → Int → am_Mem → Option (Int × am_Mem)} (hn : 10000000000 ≤ n) (r : mv_V0 σ 83 v) (w : mv_WF v) (h0 : 0 ≤ x) (h3 : v 3 ≤ 5000) (hk : 0 ≤ k ∧ k ≤ 100) : ∃ τ, mv_V0 τ 83 (mf_draw v x) ∧ (∀ c : Nat, c ≠ 83 → τ c = σ c) ∧ ∀ (m fu : Nat) (a : Int), 0 ≤ a → a + m = mf_cnt v (v 25).toNat 0 → m < fu → fl_X7_drawn_83 n kh fu N wh x k a σ = kh N wh x (k + 1) τ := by
  have w1 := w.1
  have c := mf_cnt_in v (v 25).toNat 0
  by_cases hc : mf_cnt v (v 25).toNat 0 = 0
  · refine ⟨am_up σ 83 3 (v 3 + 1), ?_, fun c hc => ah_up_ne _ _ _ hc, ?_⟩
    · unfold mf_draw
      rw [if_pos hc]
      exact mv_V0_up r
    · intro m fu a a0 ha hf
      obtain ⟨fu, rfl⟩ : ∃ q, fu = q + 1 := ⟨fu - 1, by omega⟩
      show fb_X7_drawn_83 n kh _ N wh x k a σ = _
      unfold fb_X7_drawn_83
      rw [mf_after0 hn r w a0 (by omega), am_b2_some, if_pos ((mf_nth_no v (v 25).toNat a 0 (by omega) a0).2 (by omega)), if_pos (show a ≤ 0 by omega), am_b1_some, r 3 (by decide) (by decide), am_w_id (z := v 3 + 1) (by omega), am_w_id (z := k + 1) (by omega)]
  · have tm := mf_tm (c := mf_cnt v (v 25).toNat 0) h0 (by omega)
    have g := mv_goesi1.1 (mf_nth_yes v (v 25).toNat _ 0 (by omega) tm.1 tm.2)
    obtain ⟨τ, e, r'⟩ := mv_mrides (n := n) r w g.1 g.2.1 (by omega)
    have F := w_X7_rides e
    refine ⟨τ, ?_, fun c hc => F c (by unfold nw_X7_rides; omega), ?_⟩
    · unfold mf_draw
      rw [if_neg hc]
      exact r'
    · intro m
      induction m with
      | zero =>
        intro fu a a0 ha hf
        obtain ⟨fu, rfl⟩ : ∃ q, fu = q + 1 := ⟨fu - 1, by omega⟩
        have ea : a = mf_cnt v (v 25).toNat 0 := by omega
        show fb_X7_drawn_83 n kh _ N wh x k a σ = _
        unfold fb_X7_drawn_83
        rw [mf_after0 hn r w a0 (by omega), am_b2_some, if_pos ((mf_nth_no v (v 25).toNat a 0 (by omega) a0).2 (by omega)), if_neg (show ¬ a ≤ 0 by omega), if_pos (show a ≠ 0 by omega), ea, am_w_id (z := Int.tmod x (mf_cnt v (v 25).toNat 0)) (by omega), mf_after0 hn r w tm.1 (by omega), am_b2_some, e, am_b1_some, am_w_id (z := k + 1) (by omega)]
      | succ m ih =>
        intro fu a a0 ha hf
        obtain ⟨fu, rfl⟩ : ∃ q, fu = q + 1 := ⟨fu - 1, by omega⟩
        show fb_X7_drawn_83 n kh (fun y1 y2 y3 y4 y5 σ => fl_X7_drawn_83 n kh fu y1 y2 y3 y4 y5 σ) N wh x k a σ = _
        unfold fb_X7_drawn_83
        rw [mf_after0 hn r w a0 (by omega), am_b2_some, if_neg (fun q => by have := (mf_nth_no v (v 25).toNat a 0 (by omega) a0).1 q; omega), am_w_id (z := a + 1) (by omega)]
        exact ih fu (a + 1) (by omega) (by omega) (by omega)
def mf_run : Nat → Int → (Int → Int) → Int → Int
  | 0, _, v, wh => if wh = 0 then v 2 else v 4
  | m + 1, x, v, wh => mf_run m (mf_nx x) (mf_draw v (mf_nx x)) wh
theorem mf_run6 {n : Nat} {N wh : Int} (hn : 10000000000 ≤ n) (hN : N ≤ 60) : ∀ (m fu : Nat) (k x : Int) (σ : am_Mem) (v : Int → Int), 0 ≤ k → k + m = N → m < fu → 0 ≤ x → x ≤ 2147483647 → mv_TR σ 24 v → mv_WF v → v 3 + m ≤ 3000 → ∃ σ', fl_X6_drawn_65 n fu N wh x k σ = some (mf_run m x v wh, σ') := by
  intro m
  induction m with
  | zero =>
    intro fu k x σ v k0 hk hf x0 x1 r w h3
    obtain ⟨fu, rfl⟩ : ∃ q, fu = q + 1 := ⟨fu - 1, by omega⟩
    refine ⟨σ, ?_⟩
    show fb_X6_drawn_65 n _ N wh x k σ = _
    unfold fb_X6_drawn_65 mf_run
    rw [if_neg (show ¬ k < N by omega), r.1.2.2.2.2.2.2.1, r.1.2.2.2.2.1]
    split <;> rfl
  | succ m ih =>
    intro fu k x σ v k0 hk hf x0 x1 r w h3
    obtain ⟨fu, rfl⟩ : ∃ q, fu = q + 1 := ⟨fu - 1, by omega⟩
    have nx := mf_nx_in x0 x1
    obtain ⟨τ, e, r'⟩ := mf_draw6 (n := n) hn r w nx.1 (by omega)
    show ∃ σ', fb_X6_drawn_65 n (fun y1 y2 y3 y4 σ => fl_X6_drawn_65 n fu y1 y2 y3 y4 σ) N wh x k σ = some (mf_run (m + 1) x v wh, σ')
    unfold fb_X6_drawn_65 mf_run
    have e' : f_X5_goByDraw n 24 (Int.tmod (am_wl (x * 16807)) 2147483647) σ = some τ := e
    rw [if_pos (show k < N by omega), e', am_b1_some, am_w_id (z := k + 1) (by omega)]
    exact ih fu (k + 1) (mf_nx x) τ _ (by omega) (by omega) (by omega) nx.1 nx.2 r' (mf_draw_WF w nx.1) (by rw [mf_draw3]; omega)
theorem mf_run7 {n : Nat} {N wh : Int} (hn : 10000000000 ≤ n) (hN : N ≤ 60) : ∀ (m fu : Nat) (k x : Int) (σ : am_Mem) (v : Int → Int), 0 ≤ k → k + m = N → m < fu → 0 ≤ x → x ≤ 2147483647 → mv_V0 σ 83 v → mv_WF v → v 3 + m ≤ 3000 → ∃ σ', fl_X7_drawn_62 n fu N wh x k σ = some (mf_run m x v wh, σ') := by
  intro m
  induction m with
  | zero =>
    intro fu k x σ v k0 hk hf x0 x1 r w h3
    obtain ⟨fu, rfl⟩ : ∃ q, fu = q + 1 := ⟨fu - 1, by omega⟩
    refine ⟨σ, ?_⟩
    show fb_X7_drawn_62 n _ N wh x k σ = _
    unfold fb_X7_drawn_62 mf_run
    rw [if_neg (show ¬ k < N by omega), r 2 (by decide) (by decide), r 4 (by decide) (by decide)]
    split <;> rfl
  | succ m ih =>
    intro fu k x σ v k0 hk hf x0 x1 r w h3
    have w1 := w.1
    obtain ⟨fu, rfl⟩ : ∃ q, fu = q + 1 := ⟨fu - 1, by omega⟩
    have nx := mf_nx_in x0 x1
    have c := mf_cnt_in v (v 25).toNat 0
    obtain ⟨τ, r', _, H⟩ := mf_draw7 (n := n) (N := N) (wh := wh) (k := k) (kh := fun y1 y2 y3 y4 σ => fl_X7_drawn_62 n fu y1 y2 y3 y4 σ) hn r w nx.1 (by omega) (by omega)
    show ∃ σ', fb_X7_drawn_62 n (fun y1 y2 y3 y4 σ => fl_X7_drawn_62 n fu y1 y2 y3 y4 σ) N wh x k σ = some (mf_run (m + 1) x v wh, σ')
    unfold fb_X7_drawn_62 mf_run
    have H' := H (mf_cnt v (v 25).toNat 0).toNat n 0 (by omega) (by omega) (by omega)
    rw [if_pos (show k < N by omega)]
    have H2 : fl_X7_drawn_83 n (fun y1 y2 y3 y4 σ => fl_X7_drawn_62 n fu y1 y2 y3 y4 σ) n N wh (Int.tmod (am_wl (x * 16807)) 2147483647) k 0 σ = fl_X7_drawn_62 n fu N wh (mf_nx x) (k + 1) τ := H'
    rw [H2]
    exact ih fu (k + 1) (mf_nx x) τ _ (by omega) (by omega) (by omega) nx.1 nx.2 r' (mf_draw_WF w nx.1) (by rw [mf_draw3]; omega)
theorem ma_drawn {n : Nat} {σ : am_Mem} {v : Int → Int} {p1 p2 p3 : Int} (hn : 10000000000 ≤ n) (R1 : mr_town σ v) : ∃ r σ1 σ2, f_X6_drawn n p1 p2 p3 σ = some (r, σ1) ∧ f_X7_drawn n p1 p2 p3 σ1 = some (r, σ2) := by
  obtain ⟨w, w3, r1, r2⟩ := R1
  have w1 := w.1
  by_cases ht : 0 < v 6
  · by_cases hf : (0 ≤ p1 ∧ p1 ≤ 60) ∧ (1 ≤ p2 ∧ p2 ≤ 999999) ∧ (0 ≤ p3 ∧ p3 ≤ 1)
    · obtain ⟨ha, hb, hc⟩ := hf
      obtain ⟨τ, e, rt⟩ := mv_become (n := n) (t := 24) (u := 18) (by omega) r1 w
      obtain ⟨σ1, e1⟩ := mf_run6 (n := n) (wh := p3) hn ha.2 p1.toNat n 0 p2 τ v (by omega) (by omega) (by omega) (by omega) (by omega) rt w (by omega)
      have E6 : f_X6_drawn n p1 p2 p3 σ = some (mf_run p1.toNat p2 v p3, σ1) := by
        unfold f_X6_drawn
        rw [mv_stands r1, am_b2_some, if_pos ht, if_neg (by decide), if_neg (show ¬ p1 < 0 by omega), if_pos ha.2, if_neg (show ¬ p2 < 1 by omega), if_pos hb.2, if_neg (show ¬ p3 < 0 by omega), if_pos hc.2, e, am_b1_some, e1]
      have F := w_X6_drawn E6
      have rv : mv_V0 σ1 81 v := by
        unfold mv_V0
        rw [F 81 (by unfold nw_X6_drawn; omega)]
        exact r2
      obtain ⟨μ, e3, g1, _⟩ := mv_copies (n := n) (p := 81) (q := 83) (pn := 42) (qn := 42) (σ := σ1) (a := 0) (b := 0) (by omega) (by decide) (by omega) (by omega) (by omega) (by omega) (by omega) (by omega)
      have rw2 : mv_V0 μ 83 v := by
        intro k k0 k1
        have q := g1 k k0 k1
        rw [Int.zero_add] at q
        rw [q]
        exact rv k k0 k1
      obtain ⟨σ2, e4⟩ := mf_run7 (n := n) (wh := p3) hn ha.2 p1.toNat n 0 p2 μ v (by omega) (by omega) (by omega) (by omega) (by omega) rw2 w (by omega)
      refine ⟨_, σ1, σ2, E6, ?_⟩
      unfold f_X7_drawn
      rw [mv_misT rv w, am_b2_some, if_pos ht, if_neg (by decide), mv_in, am_b2_some, if_pos ha, if_neg (by decide), mv_in, am_b2_some, if_pos hb, if_neg (by decide), mv_in, am_b2_some, if_pos hc, if_neg (by decide), e3, am_b1_some, e4]
    · refine ⟨-1000001, σ, σ, ?_, ?_⟩
      · unfold f_X6_drawn
        rw [mv_stands r1, am_b2_some, if_pos ht, if_neg (by decide)]
        repeat' split
        all_goals first | rfl | omega
      · unfold f_X7_drawn
        rw [mv_misT r2 w, am_b2_some, if_pos ht, if_neg (by decide), mv_in, am_b2_some]
        by_cases ha : 0 ≤ p1 ∧ p1 ≤ 60
        · rw [if_pos ha, if_neg (by decide), mv_in, am_b2_some]
          by_cases hk : 1 ≤ p2 ∧ p2 ≤ 999999
          · rw [if_pos hk, if_neg (by decide), mv_in, am_b2_some, if_neg (show ¬ (0 ≤ p3 ∧ p3 ≤ 1) from fun q => hf ⟨ha, hk, q⟩), if_pos rfl]
          · rw [if_neg hk, if_pos rfl]
        · rw [if_neg ha, if_pos rfl]
  · refine ⟨-1000002, σ, σ, ?_, ?_⟩
    · unfold f_X6_drawn
      rw [mv_stands r1, am_b2_some, if_neg ht, if_pos rfl]
    · unfold f_X7_drawn
      rw [mv_misT r2 w, am_b2_some, if_neg ht, if_pos rfl]
