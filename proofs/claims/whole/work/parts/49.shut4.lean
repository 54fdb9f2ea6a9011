/-! shut: the model's sum; the answers -/
theorem mh_ways0 {n k O : Nat} {σ : am_Mem} {v : Int → Int} {kh : Int → Int → Int → Int → Int → Int → Int → am_Mem → Option (Int × am_Mem)} {p1 p2 p3 p4 A B s : Int} (r : mv_V0 σ 81 v) (hk : v 25 = k) (hk8 : k ≤ 8) (s0 : 0 ≤ s ∧ s ≤ 1000) : ∀ (m fu x : Nat), x + m = k → m < fu → fl_X7_shut_132 n kh fu p1 p2 p3 p4 A B s 0 (x : Int) σ = kh p1 p2 p3 p4 A B (s + 1) σ := by
  intro m
  induction m with
  | zero =>
    intro fu x hx hf
    obtain ⟨fu, rfl⟩ : ∃ q, fu = q + 1 := ⟨fu - 1, by omega⟩
    show fb_X7_shut_132 n kh _ p1 p2 p3 p4 A B s 0 (x : Int) σ = _
    unfold fb_X7_shut_132
    rw [r 25 (by decide) (by decide), hk, if_neg (show ¬ (x : Int) < (k : Int) by omega), if_pos (show (0 : Int) ≤ 0 by decide), am_w_id (z := s + 1) (by omega)]
  | succ m ih =>
    intro fu x hx hf
    obtain ⟨fu, rfl⟩ : ∃ q, fu = q + 1 := ⟨fu - 1, by omega⟩
    have ih' := ih fu (x + 1) (by omega) (by omega)
    show fb_X7_shut_132 n kh (fun y1 y2 y3 y4 y5 y6 y7 y8 y9 σ => fl_X7_shut_132 n kh fu y1 y2 y3 y4 y5 y6 y7 y8 y9 σ) p1 p2 p3 p4 A B s 0 (x : Int) σ = _
    unfold fb_X7_shut_132
    rw [r 25 (by decide) (by decide), hk, if_pos (show (x : Int) < (k : Int) by omega), mv_mhas, am_b2_some, mv_mhas, am_b2_some, Int.zero_mul, Int.zero_mul, Int.zero_mul, am_w_id (z := 0) (by omega), am_w_id (z := (x : Int) + 1) (by omega), show (x : Int) + 1 = ((x + 1 : Nat) : Int) by omega]
    repeat' split
    all_goals exact ih'
theorem mh_ways1 {n k O c : Nat} {σ : am_Mem} {v : Int → Int} {kh : Int → Int → Int → Int → Int → Int → Int → am_Mem → Option (Int × am_Mem)} {p1 p2 p4 A B : Int} {s : Nat} (r : mv_V0 σ 81 v) (hk : v 25 = k) (hk8 : k ≤ 8) (hO : v 5 = O) (hO1 : O < 256) (hs : s < 256) (hc : c ≤ 10) (hsub : mh_sub s O) : ∀ (m fu x : Nat), x + m = k → m < fu → fl_X7_shut_132 n kh fu p1 p2 (c : Int) p4 A B (s : Int) ((mh_P O c s x : Nat) : Int) (x : Int) σ = (if ((mh_P O c s k : Nat) : Int) ≤ 0 then (kh p1 p2 (c : Int) p4 A B ((s : Int) + 1) σ) else (am_b1 (f_X7_finds n p1 (s : Int) σ) fun σ36 => if σ36 75 27 = (-1000000) then (kh p1 p2 (c : Int) p4 (am_w (A + 0)) B ((s : Int) + 1) σ36) else (if σ36 75 27 ≤ p2 then (kh p1 p2 (c : Int) p4 (am_w (A + ((mh_P O c s k : Nat) : Int))) B ((s : Int) + 1) σ36) else (kh p1 p2 (c : Int) p4 (am_w (A + 0)) B ((s : Int) + 1) σ36)))) := by
  intro m
  induction m with
  | zero =>
    intro fu x hx hf
    obtain ⟨fu, rfl⟩ : ∃ q, fu = q + 1 := ⟨fu - 1, by omega⟩
    show fb_X7_shut_132 n kh _ p1 p2 (c : Int) p4 A B (s : Int) _ (x : Int) σ = _
    unfold fb_X7_shut_132
    rw [r 25 (by decide) (by decide), hk, if_neg (show ¬ (x : Int) < (k : Int) by omega), am_w_id (z := (s : Int) + 1) (by omega), show x = k by omega]
  | succ m ih =>
    intro fu x hx hf
    obtain ⟨fu, rfl⟩ : ∃ q, fu = q + 1 := ⟨fu - 1, by omega⟩
    have ih' := ih fu (x + 1) (by omega) (by omega)
    have hP : mh_P O c s (x + 1) = mh_P O c s x * mh_g O c x (s.testBit x) := rfl
    have hl := mh_P_le (s := s) (O := O) hc (x + 1)
    have hl8 : (10 : Nat) ^ (x + 1) ≤ 10 ^ 8 := Nat.pow_le_pow_right (by decide) (by omega)
    have f : (10 : Nat) ^ 8 = 100000000 := by decide
    have G : ∀ z : Int, z = ((mh_g O c x (s.testBit x) : Nat) : Int) → am_w (((mh_P O c s x : Nat) : Int) * z) = ((mh_P O c s (x + 1) : Nat) : Int) := by
      intro z hz
      have e : ((mh_P O c s x : Nat) : Int) * z = ((mh_P O c s (x + 1) : Nat) : Int) := by
        rw [hz, hP]
        exact (Int.natCast_mul _ _).symm
      rw [e, am_w_id (by omega)]
    show fb_X7_shut_132 n kh (fun y1 y2 y3 y4 y5 y6 y7 y8 y9 σ => fl_X7_shut_132 n kh fu y1 y2 y3 y4 y5 y6 y7 y8 y9 σ) p1 p2 (c : Int) p4 A B (s : Int) _ (x : Int) σ = _
    unfold fb_X7_shut_132
    rw [r 25 (by decide) (by decide), hk, if_pos (show (x : Int) < (k : Int) by omega), r 5 (by decide) (by decide), hO, mv_mhas, am_b2_some, mv_mhas, am_b2_some, am_w_id (z := (x : Int) + 1) (by omega), show (x : Int) + 1 = ((x + 1 : Nat) : Int) by omega, am_w_id (z := 10 - (c : Int)) (by omega)]
    by_cases o : O.testBit x = true
    · rw [if_pos ((mh_bit hO1 (by omega)).2 o), if_neg (show ¬ (1 : Int) = 0 by decide)]
      by_cases b : s.testBit x = true
      · rw [if_pos ((mh_bit hs (by omega)).2 b), if_neg (show ¬ (1 : Int) = 0 by decide), G (10 - (c : Int)) (by unfold mh_g; rw [if_pos o, if_pos b]; omega)]
        exact ih'
      · rw [if_neg (fun q => b ((mh_bit hs (by omega)).1 q)), if_pos rfl, G (c : Int) (by unfold mh_g; rw [if_pos o, if_neg b])]
        exact ih'
    · have b : ¬ s.testBit x = true := fun q => o (hsub x (by omega) q)
      rw [if_neg (fun q => o ((mh_bit hO1 (by omega)).1 q)), if_pos rfl, G 1 (by unfold mh_g; rw [if_neg o, if_neg b]; rfl)]
      exact ih'
theorem mh_turn {n k O c : Nat} {σ : am_Mem} {v : Int → Int} {kh : Int → Int → Int → Int → Int → Int → Int → am_Mem → Option (Int × am_Mem)} {p1 p2 p4 B : Int} {s A : Nat} {en : Nat → Prop} (hn : 10000000000 ≤ n) (w : mv_WF v) (h6 : 0 < v 6) (w3 : v 3 ≤ 999) (r : mv_V0 σ 81 v) (hk : v 25 = k) (hk8 : k ≤ 8) (hO : v 5 = O) (hO1 : O < 256) (hOk : O < 2 ^ k) (hs : s ≤ O) (hc : c ≤ 10) (hA : A + mh_F O c en s ≤ 100000000)
    (hen : mh_sub s O → (en s ↔ (0 ≤ (mg_tree (mv_set v 5 s) (mg_fc p1) 8 mg_a0 0 (v 4) (v 1) 0 0 (fun _ => 0)).1 ∧ (mg_tree (mv_set v 5 s) (mg_fc p1) 8 mg_a0 0 (v 4) (v 1) 0 0 (fun _ => 0)).2.1 ≤ p2))) : ∃ σ', fb_X7_shut_97 n kh p1 p2 (c : Int) p4 (A : Int) B (s : Int) σ = kh p1 p2 (c : Int) p4 ((A + mh_F O c en s : Nat) : Int) B ((s + 1 : Nat) : Int) σ' ∧ mv_V0 σ' 81 v := by
  have es : (s : Int) + 1 = ((s + 1 : Nat) : Int) := by omega
  unfold fb_X7_shut_97
  rw [r 5 (by decide) (by decide), hO, if_pos (show (s : Int) ≤ (O : Int) by omega)]
  by_cases hsub : mh_sub s O
  · have hW := mh_ways1 (n := n) (kh := kh) (p1 := p1) (p2 := p2) (p4 := p4) (A := (A : Int)) (B := B) r hk hk8 hO hO1 (show s < 256 by omega) hc hsub k n 0 (by omega) (by omega)
    have hW : fl_X7_shut_132 n kh n p1 p2 (c : Int) p4 (A : Int) B (s : Int) 1 0 σ = _ := hW
    have h8 : mh_P O c s k = mh_P O c s 8 := by
      have := mh_P_end (c := c) hsub hOk (m := 8 - k) (by omega)
      rw [show k + (8 - k) = 8 by omega] at this
      exact this.symm
    rw [if_pos ((mh_and (by omega) hO1).2 hsub), hW, h8, es]
    by_cases z : ((mh_P O c s 8 : Nat) : Int) ≤ 0
    · rw [if_pos z]
      have : mh_F O c en s = 0 := by
        have := mh_F_le (O := O) (c := c) (en := en) (s := s)
        omega
      rw [this, Nat.add_zero]
      exact ⟨σ, rfl, r⟩
    · have wS : mv_WF (mv_set v 5 (s : Int)) := mh_WF w (by omega) (by
        have := w.2.2.2.1
        omega)
      obtain ⟨σ', e', s'⟩ := mg_finds (c := p1) (set := (s : Int)) hn r wS h6 w3
      have F := w_X7_finds e'
      have r' : mv_V0 σ' 81 v := by
        unfold mv_V0
        rw [F 81 (by unfold nw_X7_finds; decide)]
        exact r
      have hen := hen hsub
      rw [if_neg z, e', am_b1_some]
      refine ⟨σ', ?_, r'⟩
      generalize mg_tree (mv_set v 5 (s : Int)) (mg_fc p1) 8 mg_a0 0 (v 4) (v 1) 0 0 (fun _ => 0) = a at s' hen
      rcases s' with ⟨q1, q2⟩ | ⟨q1, q2, q3, q4, q5, q6, q7⟩
      · have : mh_F O c en s = 0 := mh_F_neg (fun q => by have := hen.1 q.2; omega)
        rw [if_pos q2, this, Int.add_zero, am_w_id (z := (A : Int)) (by omega)]
        rfl
      · rw [q4, if_neg (show ¬ a.2.1 = -1000000 by omega)]
        by_cases g : a.2.1 ≤ p2
        · have e : mh_F O c en s = mh_P O c s 8 := mh_F_pos ⟨hsub, hen.2 ⟨q1, g⟩⟩
          rw [e] at hA
          rw [if_pos g, e, am_w_id (z := (A : Int) + ((mh_P O c s 8 : Nat) : Int)) (by omega)]
          rfl
        · have : mh_F O c en s = 0 := mh_F_neg (fun q => g (hen.1 q.2).2)
          rw [if_neg g, this, Int.add_zero, am_w_id (z := (A : Int)) (by omega)]
          rfl
  · have : mh_F O c en s = 0 := mh_F_neg (fun q => hsub q.1)
    have hW := mh_ways0 (n := n) (O := O) (kh := kh) (p1 := p1) (p2 := p2) (p3 := (c : Int)) (p4 := p4) (A := (A : Int)) (B := B) (s := (s : Int)) r hk hk8 (by omega) k n 0 (by omega) (by omega)
    have hW : fl_X7_shut_132 n kh n p1 p2 (c : Int) p4 (A : Int) B (s : Int) 0 0 σ = _ := hW
    rw [if_neg (fun q => hsub ((mh_and (by omega) hO1).1 q)), hW, this, Nat.add_zero, es]
    exact ⟨σ, rfl, r⟩
theorem mh_sum7 {n k O c : Nat} {v : Int → Int} {p1 p2 p4 B : Int} {en : Nat → Prop} (hn : 10000000000 ≤ n) (w : mv_WF v) (h6 : 0 < v 6) (w3 : v 3 ≤ 999) (hk : v 25 = k) (hk8 : k ≤ 8) (hO : v 5 = O) (hO1 : O < 256) (hOk : O < 2 ^ k) (hc : c ≤ 10)
    (hen : ∀ s : Nat, s ≤ O → mh_sub s O → (en s ↔ (0 ≤ (mg_tree (mv_set v 5 s) (mg_fc p1) 8 mg_a0 0 (v 4) (v 1) 0 0 (fun _ => 0)).1 ∧ (mg_tree (mv_set v 5 s) (mg_fc p1) 8 mg_a0 0 (v 4) (v 1) 0 0 (fun _ => 0)).2.1 ≤ p2))) : ∀ (m fu s : Nat) (σ : am_Mem), s + m = O + 1 → m < fu → mv_V0 σ 81 v → ∃ σ', fl_X7_shut_97 n fu p1 p2 (c : Int) p4 ((mh_S (mh_F O c en) s : Nat) : Int) B (s : Int) σ = fl_X7_shut_245 n n p4 ((mh_S (mh_F O c en) (O + 1) : Nat) : Int) B ((mh_S (mh_F O c en) (O + 1) : Nat) : Int) B σ' := by
  intro m
  induction m with
  | zero =>
    intro fu s σ hs hf r
    obtain ⟨fu, rfl⟩ : ∃ q, fu = q + 1 := ⟨fu - 1, by omega⟩
    refine ⟨σ, ?_⟩
    show fb_X7_shut_97 n _ p1 p2 (c : Int) p4 _ B (s : Int) σ = _
    unfold fb_X7_shut_97
    rw [r 5 (by decide) (by decide), hO, if_neg (show ¬ (s : Int) ≤ (O : Int) by omega), show s = O + 1 by omega]
  | succ m ih =>
    intro fu s σ hs hf r
    obtain ⟨fu, rfl⟩ : ∃ q, fu = q + 1 := ⟨fu - 1, by omega⟩
    have hb := mh_sum_le (O := O) (en := en) (k := s + 1) hc (by omega)
    obtain ⟨σ1, e1, r1⟩ := mh_turn (n := n) (kh := fun y1 y2 y3 y4 y5 y6 y7 σ => fl_X7_shut_97 n fu y1 y2 y3 y4 y5 y6 y7 σ) (p1 := p1) (p2 := p2) (p4 := p4) (B := B) (s := s) (A := mh_S (mh_F O c en) s) (en := en) hn w h6 w3 r hk hk8 hO hO1 hOk (by omega) hc hb (hen s (by omega))
    obtain ⟨σ2, e2⟩ := ih fu (s + 1) σ1 (by omega) (by omega) r1
    exact ⟨σ2, e1.trans e2⟩
theorem mh_below {n k O : Nat} {σ : am_Mem} {v : Int → Int} {p1 p2 p3 p4 : Int} (r : mv_V0 σ 81 v) (hk : v 25 = k) (hk8 : k ≤ 8) (hO : v 5 = O) (hO1 : O < 256) : ∀ (m fu x : Nat), x + m = k → m < fu → fl_X7_shut_51 n fu p1 p2 p3 p4 0 ((10 ^ mh_pc O x : Nat) : Int) (x : Int) σ = fl_X7_shut_97 n n p1 p2 p3 p4 0 ((10 ^ mh_pc O k : Nat) : Int) 0 σ := by
  intro m
  induction m with
  | zero =>
    intro fu x hx hf
    obtain ⟨fu, rfl⟩ : ∃ q, fu = q + 1 := ⟨fu - 1, by omega⟩
    show fb_X7_shut_51 n _ p1 p2 p3 p4 0 _ (x : Int) σ = _
    unfold fb_X7_shut_51
    rw [r 25 (by decide) (by decide), hk, if_neg (show ¬ (x : Int) < (k : Int) by omega), show x = k by omega]
  | succ m ih =>
    intro fu x hx hf
    obtain ⟨fu, rfl⟩ : ∃ q, fu = q + 1 := ⟨fu - 1, by omega⟩
    have ih' := ih fu (x + 1) (by omega) (by omega)
    have hp : mh_pc O (x + 1) = mh_pc O x + (if O.testBit x = true then 1 else 0) := rfl
    have hl := mh_pc_m O (x + 1)
    have hl8 : (10 : Nat) ^ mh_pc O (x + 1) ≤ 10 ^ 8 := Nat.pow_le_pow_right (by decide) (by omega)
    have f : (10 : Nat) ^ 8 = 100000000 := by decide
    show fb_X7_shut_51 n (fun y1 y2 y3 y4 y5 y6 y7 σ => fl_X7_shut_51 n fu y1 y2 y3 y4 y5 y6 y7 σ) p1 p2 p3 p4 0 _ (x : Int) σ = _
    unfold fb_X7_shut_51
    rw [r 25 (by decide) (by decide), hk, if_pos (show (x : Int) < (k : Int) by omega), r 5 (by decide) (by decide), hO, mv_mhas, am_b2_some, am_w_id (z := (x : Int) + 1) (by omega), show (x : Int) + 1 = ((x + 1 : Nat) : Int) by omega]
    by_cases o : O.testBit x = true
    · rw [if_pos o] at hp
      have e : ((10 ^ mh_pc O x : Nat) : Int) * 10 = ((10 ^ mh_pc O (x + 1) : Nat) : Int) := by
        rw [hp, Nat.pow_succ]
        exact (Int.natCast_mul _ _).symm
      rw [if_pos ((mh_bit hO1 (by omega)).2 o), if_neg (show ¬ (1 : Int) = 0 by decide), e]
      generalize (10 : Nat) ^ mh_pc O (x + 1) = Y at ih' hl8
      rw [am_w_id (z := (Y : Int)) (by omega)]
      exact ih'
    · have hp' : mh_pc O (x + 1) = mh_pc O x := by
        rw [hp, if_neg o]
        rfl
      rw [if_neg (fun q => o ((mh_bit hO1 (by omega)).1 q)), if_pos rfl, ← hp', Int.mul_one]
      generalize (10 : Nat) ^ mh_pc O (x + 1) = Y at ih' hl8
      rw [am_w_id (z := (Y : Int)) (by omega)]
      exact ih'
theorem ma_shut {n : Nat} {σ : am_Mem} {v : Int → Int} {p1 p2 p3 p4 : Int} (hn : 10000000000 ≤ n) (R1 : mr_town σ v) : ∃ r σ1 σ2, f_X6_shut n p1 p2 p3 p4 σ = some (r, σ1) ∧ f_X7_shut n p1 p2 p3 p4 σ1 = some (r, σ2) := by
  obtain ⟨w, w3, r1, r2⟩ := R1
  have w1 := w.1
  by_cases hc : 0 ≤ p1 ∧ p1 < v 6
  · by_cases hq : 0 ≤ p2 ∧ p2 ≤ 999
    · by_cases hd : 0 ≤ p3 ∧ p3 ≤ 10
      · by_cases hw : 0 ≤ p4 ∧ p4 ≤ 1
        · obtain ⟨k, hk⟩ : ∃ k : Nat, v 25 = k := ⟨(v 25).toNat, by omega⟩
          obtain ⟨O, hO⟩ : ∃ k : Nat, v 5 = k := ⟨(v 5).toNat, by omega⟩
          obtain ⟨c, rfl⟩ : ∃ k : Nat, p3 = k := ⟨p3.toNat, by omega⟩
          have hk8 : k ≤ 8 := by omega
          have hOk : O < 2 ^ k := by
            have h := w.2.2.2.1
            rw [hO, hk, Int.toNat_natCast] at h
            exact Int.ofNat_lt.1 (by push_cast; exact h)
          have hO1 : O < 256 := Nat.lt_of_lt_of_le hOk (Nat.pow_le_pow_right (n := 2) (j := 8) (by decide) hk8)
          have hc10 : c ≤ 10 := by omega
          obtain ⟨σ1, e1, h1⟩ := mh_within (c := p1) (q := p2) hn r1 w (by omega) w3
          have F1 := w_X3_seekWithin e1
          have e18 : σ1 18 8 = O := by
            rw [F1 18 (by unfold nw_X3_seekWithin; decide), r1.1.2.2.2.1, hO]
          have r2' : mv_V0 σ1 81 v := by
            unfold mv_V0
            rw [F1 81 (by unfold nw_X3_seekWithin; decide)]
            exact r2
          generalize hen : mh_up (fun k => mg_tree v (mg_fw p1 p2) 8 (fun _ => 0) 0 (v 4) (v 1) 0 0 (fun _ => 0) (k : Int) ≠ 0) = en at h1
          have hen7 : ∀ s : Nat, s ≤ O → mh_sub s O → (en s ↔ (0 ≤ (mg_tree (mv_set v 5 s) (mg_fc p1) 8 mg_a0 0 (v 4) (v 1) 0 0 (fun _ => 0)).1 ∧ (mg_tree (mv_set v 5 s) (mg_fc p1) 8 mg_a0 0 (v 4) (v 1) 0 0 (fun _ => 0)).2.1 ≤ p2)) := by
            intro s hs hsub
            rw [← hen]
            exact (mh_found w (by omega) hO hO1 hsub (by omega)).symm
          have hS : mh_S (mh_F O c en) 256 = mh_S (mh_F O c en) (O + 1) := by
            have : mh_S (mh_F O c en) (O + 1 + (255 - O)) = mh_S (mh_F O c en) (O + 1) + mh_S (fun k => mh_F O c en (O + 1 + k)) (255 - O) := mh_S_add _ _ _
            rw [show O + 1 + (255 - O) = 256 by omega] at this
            have z : mh_S (fun k => mh_F O c en (O + 1 + k)) (255 - O) = mh_S (fun _ => 0) (255 - O) := mh_S_congr (fun s hs => mh_F_neg (fun q => by have := mh_sub_le (by omega) hO1 q.1; omega))
            have z2 : ∀ m : Nat, mh_S (fun _ => 0) m = 0 := by
              intro m
              induction m with
              | zero => rfl
              | succ m ih => exact ih
            rw [this, z, z2, Nat.add_zero]
          have hle := mh_sum_le (O := O) (en := en) (k := O + 1) hc10 (by omega)
          have hpc : mh_pc O k = mh_pc O 8 := by
            have := mh_pc_end hOk (m := 8 - k)
            rw [show k + (8 - k) = 8 by omega] at this
            exact this.symm
          have hp8 := mh_pc_m O 8
          have hb8 : (10 : Nat) ^ mh_pc O 8 ≤ 10 ^ 8 := Nat.pow_le_pow_right (by decide) hp8
          have hbp : 0 < (10 : Nat) ^ mh_pc O 8 := Nat.pow_pos (by decide)
          have f : (10 : Nat) ^ 8 = 100000000 := by decide
          have A1 : f_X3_weightOfEnough n (O : Int) (c : Int) σ1 = some (((mh_S (mh_F O c en) (O + 1) : Nat) : Int), σ1) := by
            unfold f_X3_weightOfEnough
            rw [mh_bc hO1, am_b2_some, ← hS]
            exact mh_weight hn hO1 hc10 h1 256 n 0 (by omega) (by omega)
          have A2 : f_X6_power n 10 ((mh_pc O 8 : Nat) : Int) σ1 = some (((10 ^ mh_pc O 8 : Nat) : Int), σ1) := mh_power (b := 10) (by decide) hp8 (mh_pc O 8) n 0 (by omega) (by omega)
          generalize hA : mh_S (mh_F O c en) (O + 1) = A at A1 hle
          generalize hB : (10 : Nat) ^ mh_pc O 8 = B at A2 hb8 hbp
          have A3 : f_X6_commonDivisor n (A : Int) (B : Int) σ1 = some (((Nat.gcd B A : Nat) : Int), σ1) := mh_gcd6 27 n B A 0 (by omega) (by
            have : (2 : Nat) ^ 27 = 134217728 := by decide
            omega) (by decide)
          have hg : 0 < Nat.gcd B A := Nat.gcd_pos_of_pos_left _ hbp
          obtain ⟨σ2, e2⟩ := mh_sum7 (n := n) (p1 := p1) (p2 := p2) (p4 := p4) (B := (B : Int)) (en := en) hn w (by omega) w3 hk hk8 hO hO1 hOk hc10 hen7 (O + 1) n 0 σ1 (by omega) (by omega) r2'
          have e2 : fl_X7_shut_97 n n p1 p2 (c : Int) p4 0 (B : Int) 0 σ1 = fl_X7_shut_245 n n p4 ((mh_S (mh_F O c en) (O + 1) : Nat) : Int) (B : Int) ((mh_S (mh_F O c en) (O + 1) : Nat) : Int) (B : Int) σ2 := e2
          rw [hA] at e2
          have e3 := mh_gcd7 (n := n) (σ := σ2) (w := p4) (a := (A : Int)) (b := (B : Int)) B (n - 1) A (by omega) (by omega)
          rw [show n - 1 + 1 = n by omega, Nat.gcd_comm A B] at e3
          have e4 := mh_below (n := n) (p1 := p1) (p2 := p2) (p3 := (c : Int)) (p4 := p4) r2' hk hk8 hO hO1 k n 0 (by omega) (by omega)
          have e4 : fl_X7_shut_51 n n p1 p2 (c : Int) p4 0 1 0 σ1 = fl_X7_shut_97 n n p1 p2 (c : Int) p4 0 ((10 ^ mh_pc O k : Nat) : Int) 0 σ1 := e4
          rw [hpc, hB] at e4
          have hmax : (if (1 : Int) < ((Nat.gcd B A : Nat) : Int) then ((Nat.gcd B A : Nat) : Int) else 1) = ((Nat.gcd B A : Nat) : Int) := by
            split
            · rfl
            · omega
          refine ⟨(if p4 = 0 then am_w (Int.tdiv (A : Int) (Nat.gcd B A : Nat)) else am_w (Int.tdiv (B : Int) (Nat.gcd B A : Nat))), σ1, σ2, ?_, ?_⟩
          · unfold f_X6_shut
            rw [mv_hasC r1, am_b2_some, if_pos hc, if_neg (show ¬ (1 : Int) = 0 by decide), if_neg (show ¬ p2 < 0 by omega), if_pos (show p2 ≤ 999 by omega), if_neg (show ¬ (c : Int) < 0 by omega), if_pos (show (c : Int) ≤ 10 by omega), if_neg (show ¬ p4 < 0 by omega), if_pos (show p4 ≤ 1 by omega), e1, am_b1_some, e18, A1, am_b2_some, e18, mh_bc hO1, am_b2_some, A2, am_b2_some, A3, am_b2_some, hmax, if_pos (show ((Nat.gcd B A : Nat) : Int) ≠ 0 by omega), if_pos (show ((Nat.gcd B A : Nat) : Int) ≠ 0 by omega)]
            by_cases h0 : p4 = 0
            · rw [if_pos h0, if_pos h0]
            · rw [if_neg h0, if_neg h0]
          · unfold f_X7_shut
            rw [mv_misC r2' w, am_b2_some, if_pos hc, if_neg (show ¬ (1 : Int) = 0 by decide), mv_in, am_b2_some, if_pos hq, if_neg (show ¬ (1 : Int) = 0 by decide), mv_in, am_b2_some, if_pos hd, if_neg (show ¬ (1 : Int) = 0 by decide), mv_in, am_b2_some, if_pos hw, if_neg (show ¬ (1 : Int) = 0 by decide), e4, e2, e3]
        · refine ⟨-1000001, σ, σ, ?_, ?_⟩
          · unfold f_X6_shut
            rw [mv_hasC r1, am_b2_some, if_pos hc, if_neg (show ¬ (1 : Int) = 0 by decide), if_neg (show ¬ p2 < 0 by omega), if_pos (show p2 ≤ 999 by omega), if_neg (show ¬ p3 < 0 by omega), if_pos (show p3 ≤ 10 by omega)]
            by_cases h2 : p4 < 0
            · rw [if_pos h2]
            · rw [if_neg h2, if_neg (show ¬ p4 ≤ 1 by omega)]
          · unfold f_X7_shut
            rw [mv_misC r2 w, am_b2_some, if_pos hc, if_neg (show ¬ (1 : Int) = 0 by decide), mv_in, am_b2_some, if_pos hq, if_neg (show ¬ (1 : Int) = 0 by decide), mv_in, am_b2_some, if_pos hd, if_neg (show ¬ (1 : Int) = 0 by decide), mv_in, am_b2_some, if_neg hw, if_pos rfl]
      · refine ⟨-1000001, σ, σ, ?_, ?_⟩
        · unfold f_X6_shut
          rw [mv_hasC r1, am_b2_some, if_pos hc, if_neg (show ¬ (1 : Int) = 0 by decide), if_neg (show ¬ p2 < 0 by omega), if_pos (show p2 ≤ 999 by omega)]
          by_cases h2 : p3 < 0
          · rw [if_pos h2]
          · rw [if_neg h2, if_neg (show ¬ p3 ≤ 10 by omega)]
        · unfold f_X7_shut
          rw [mv_misC r2 w, am_b2_some, if_pos hc, if_neg (show ¬ (1 : Int) = 0 by decide), mv_in, am_b2_some, if_pos hq, if_neg (show ¬ (1 : Int) = 0 by decide), mv_in, am_b2_some, if_neg hd, if_pos rfl]
    · refine ⟨-1000001, σ, σ, ?_, ?_⟩
      · unfold f_X6_shut
        rw [mv_hasC r1, am_b2_some, if_pos hc, if_neg (show ¬ (1 : Int) = 0 by decide)]
        by_cases h2 : p2 < 0
        · rw [if_pos h2]
        · rw [if_neg h2, if_neg (show ¬ p2 ≤ 999 by omega)]
      · unfold f_X7_shut
        rw [mv_misC r2 w, am_b2_some, if_pos hc, if_neg (show ¬ (1 : Int) = 0 by decide), mv_in, am_b2_some, if_neg hq, if_pos rfl]
  · refine ⟨-1000001, σ, σ, ?_, ?_⟩
    · unfold f_X6_shut
      rw [mv_hasC r1, am_b2_some, if_neg hc, if_pos rfl]
    · unfold f_X7_shut
      rw [mv_misC r2 w, am_b2_some, if_neg hc, if_pos rfl]
