/-! shut: the class's marks, closed upwards, and their weight -/
def mg_SW (ai q : Int) (σ : am_Mem) (a : Int → Int) : Prop := σ 69 3 = 4 ∧ σ 69 4 = ai ∧ σ 69 5 = 8 ∧ σ 69 6 = q ∧ ∀ k : Int, 0 ≤ k → k < 256 → σ 72 k = a k
theorem mg_weigh4 {n : Nat} {σ : am_Mem} {ai q d p mo gr us : Int} {pa a : Int → Int} (h : mg_SW ai q σ a) (u0 : 0 ≤ us) (u1 : us < 256) : ∃ σ', f_X3_weigh n d p mo gr us σ = some σ' ∧ mg_SW ai q σ' (mg_fw ai q a d p mo gr us pa) := by
  have H := h
  obtain ⟨h1, h2, h3, h4, h5⟩ := h
  rw [mg_weigh]
  unfold fb_X3_weigh_45 mg_fw
  rw [h1, if_neg (show ¬ (4 : Int) = 0 by decide), if_neg (show ¬ (4 : Int) = 1 by decide), if_neg (show ¬ (4 : Int) = 2 by decide), if_neg (show ¬ (4 : Int) = 3 by decide), h2, h4]
  by_cases hp : p = ai
  · rw [if_pos hp]
    by_cases hq : gr ≤ q
    · rw [if_pos hq, if_pos (show (0 : Int) ≤ us ∧ us < 256 by omega), if_pos ⟨hp, hq⟩]
      refine ⟨_, rfl, ?_, ?_, ?_, ?_, fun k k0 k1 => ?_⟩
      · rw [ah_up_ne _ _ _ (by decide)]; exact h1
      · rw [ah_up_ne _ _ _ (by decide)]; exact h2
      · rw [ah_up_ne _ _ _ (by decide)]; exact h3
      · rw [ah_up_ne _ _ _ (by decide)]; exact h4
      · by_cases e : k = us
        · rw [e, mv_up_eq, mv_set_eq]
        · rw [mv_up_j e, mv_set_ne e]
          exact h5 k k0 k1
    · rw [if_neg hq, if_neg (fun x => hq x.2)]
      exact ⟨σ, rfl, H⟩
  · rw [if_neg hp, if_neg (fun x => hp x.1)]
    exact ⟨σ, rfl, H⟩
theorem mh_zero {n : Nat} {c : Int} : ∀ (m fu : Nat) (x : Int) (σ : am_Mem), 0 ≤ x → x + m = 256 → m < fu → (∀ k : Int, 0 ≤ k → k < x → σ 72 k = 0) → ∃ σ', fl_X3_seekWithin_8 n 18 fu c x σ = am_b1 (f_X3_seek n 18 4 c 8 σ') (fun σ9 => fl_X3_seekWithin_44 n 18 n 0 σ9) ∧ (∀ k : Int, 0 ≤ k → k < 256 → σ' 72 k = 0) ∧ ∀ a : Nat, a ≠ 72 → σ' a = σ a := by
  intro m
  induction m with
  | zero =>
    intro fu x σ x0 hx hf h
    obtain ⟨fu, rfl⟩ : ∃ q, fu = q + 1 := ⟨fu - 1, by omega⟩
    refine ⟨σ, ?_, fun k k0 k1 => h k k0 (by omega), fun _ _ => rfl⟩
    show fb_X3_seekWithin_8 n 18 _ c x σ = _
    unfold fb_X3_seekWithin_8
    rw [if_neg (show ¬ x < 256 by omega)]
  | succ m ih =>
    intro fu x σ x0 hx hf h
    obtain ⟨fu, rfl⟩ : ∃ q, fu = q + 1 := ⟨fu - 1, by omega⟩
    obtain ⟨σ', e, h1, h2⟩ := ih fu (x + 1) (am_up σ 72 x 0) (by omega) (by omega) (by omega) (fun k k0 k1 => by
      by_cases e : k = x
      · rw [e, mv_up_eq]
      · rw [mv_up_j e]
        exact h k k0 (by omega))
    refine ⟨σ', ?_, h1, fun a ha => by rw [h2 a ha, ah_up_ne _ _ _ ha]⟩
    show fb_X3_seekWithin_8 n 18 (fun y2 y4 σ => fl_X3_seekWithin_8 n 18 fu y2 y4 σ) c x σ = _
    unfold fb_X3_seekWithin_8
    rw [if_pos (show x < 256 by omega), if_pos (show (0 : Int) ≤ x ∧ x < 256 by omega), am_b1_some, am_w_id (z := x + 1) (by omega)]
    exact e
theorem mh_close57 {n : Nat} {kh : Int → am_Mem → Option am_Mem} {mk : Nat → Prop} {s : Nat} (hs : s < 256) : ∀ (m fu x : Nat) (σ : am_Mem), x + m = 8 → m < fu → (∀ t : Nat, t < s → (σ 72 t ≠ 0 ↔ mh_up mk t)) → (∀ t : Nat, s < t → t < 256 → (σ 72 t ≠ 0 ↔ mk t)) → (σ 72 s ≠ 0 ↔ mk s ∨ ∃ y, y < x ∧ s.testBit y = true ∧ mh_up mk (s - 2 ^ y)) → ∃ σ', fl_X3_seekWithin_57 n 18 kh fu (s : Int) (x : Int) σ = kh ((s : Int) + 1) σ' ∧ (∀ t : Nat, t ≤ s → (σ' 72 t ≠ 0 ↔ mh_up mk t)) ∧ (∀ t : Nat, s < t → t < 256 → (σ' 72 t ≠ 0 ↔ mk t)) := by
  intro m
  induction m with
  | zero =>
    intro fu x σ hx hf h1 h2 h3
    obtain ⟨fu, rfl⟩ : ∃ q, fu = q + 1 := ⟨fu - 1, by omega⟩
    refine ⟨σ, ?_, fun t ht => ?_, h2⟩
    · show fb_X3_seekWithin_57 n 18 kh _ (s : Int) (x : Int) σ = _
      unfold fb_X3_seekWithin_57
      rw [if_neg (show ¬ (x : Int) < 8 by omega), am_w_id (z := (s : Int) + 1) (by omega)]
    · by_cases e : t = s
      · rw [e, mh_up_step hs, h3, show x = 8 by omega]
      · exact h1 t (by omega)
  | succ m ih =>
    intro fu x σ hx hf h1 h2 h3
    obtain ⟨fu, rfl⟩ : ∃ q, fu = q + 1 := ⟨fu - 1, by omega⟩
    have E : fl_X3_seekWithin_57 n 18 kh (fu + 1) (s : Int) (x : Int) σ = if σ 72 ((if s.testBit x = true then s - 2 ^ x else s : Nat) : Int) = 0 then fl_X3_seekWithin_57 n 18 kh fu (s : Int) ((x + 1 : Nat) : Int) σ else fl_X3_seekWithin_57 n 18 kh fu (s : Int) ((x + 1 : Nat) : Int) (am_up σ 72 (s : Int) 1) := by
      show fb_X3_seekWithin_57 n 18 kh (fun y4 y5 σ => fl_X3_seekWithin_57 n 18 kh fu y4 y5 σ) (s : Int) (x : Int) σ = _
      unfold fb_X3_seekWithin_57
      have hle : (if s.testBit x = true then s - 2 ^ x else s) ≤ s := by
        split
        · exact Nat.sub_le _ _
        · exact Nat.le_refl _
      rw [if_pos (show (x : Int) < 8 by omega), mh_del hs (show x < 8 by omega), if_pos (show (0 : Int) ≤ ((if s.testBit x = true then s - 2 ^ x else s : Nat) : Int) ∧ ((if s.testBit x = true then s - 2 ^ x else s : Nat) : Int) < 256 by omega), am_w_id (z := (x : Int) + 1) (by omega), if_pos (show (0 : Int) ≤ (s : Int) ∧ (s : Int) < 256 by omega), am_b1_some]
      rfl
    rw [E]
    by_cases b : s.testBit x = true
    · have hlt : s - 2 ^ x < s := (mh_less_dec ⟨s, hs⟩ ⟨x, by omega⟩ b).1
      rw [if_pos b]
      by_cases z : σ 72 ((s - 2 ^ x : Nat) : Int) = 0
      · rw [if_pos z]
        refine ih fu (x + 1) σ (by omega) (by omega) h1 h2 (h3.trans ⟨?_, ?_⟩)
        · rintro (k | ⟨y, y1, y2, y3⟩)
          · exact Or.inl k
          · exact Or.inr ⟨y, by omega, y2, y3⟩
        · rintro (k | ⟨y, y1, y2, y3⟩)
          · exact Or.inl k
          · by_cases e : y = x
            · rw [e] at y3
              exact absurd z ((h1 _ hlt).2 y3)
            · exact Or.inr ⟨y, by omega, y2, y3⟩
      · rw [if_neg z]
        refine ih fu (x + 1) (am_up σ 72 (s : Int) 1) (by omega) (by omega) (fun t ht => by rw [mv_up_j (by omega)]; exact h1 t ht) (fun t ht ht2 => by rw [mv_up_j (by omega)]; exact h2 t ht ht2) ?_
        rw [mv_up_eq]
        exact ⟨fun _ => Or.inr ⟨x, by omega, b, (h1 _ hlt).1 z⟩, fun _ => by decide⟩
    · rw [if_neg b]
      have same : (∃ y, y < x + 1 ∧ s.testBit y = true ∧ mh_up mk (s - 2 ^ y)) ↔ (∃ y, y < x ∧ s.testBit y = true ∧ mh_up mk (s - 2 ^ y)) := by
        constructor
        · rintro ⟨y, y1, y2, y3⟩
          by_cases e : y = x
          · rw [e] at y2
            exact absurd y2 b
          · exact ⟨y, by omega, y2, y3⟩
        · rintro ⟨y, y1, y2, y3⟩
          exact ⟨y, by omega, y2, y3⟩
      by_cases z : σ 72 (s : Int) = 0
      · rw [if_pos z]
        refine ih fu (x + 1) σ (by omega) (by omega) h1 h2 ?_
        rw [same]
        exact h3
      · rw [if_neg z]
        refine ih fu (x + 1) (am_up σ 72 (s : Int) 1) (by omega) (by omega) (fun t ht => by rw [mv_up_j (by omega)]; exact h1 t ht) (fun t ht ht2 => by rw [mv_up_j (by omega)]; exact h2 t ht ht2) ?_
        rw [mv_up_eq, same]
        exact ⟨fun _ => h3.1 z, fun _ => by decide⟩
theorem mh_close44 {n : Nat} {mk : Nat → Prop} (hn : 10000000000 ≤ n) : ∀ (m fu s : Nat) (σ : am_Mem), s + m = 256 → m < fu → (∀ t : Nat, t < s → (σ 72 t ≠ 0 ↔ mh_up mk t)) → (∀ t : Nat, s ≤ t → t < 256 → (σ 72 t ≠ 0 ↔ mk t)) → ∃ σ', fl_X3_seekWithin_44 n 18 fu (s : Int) σ = some σ' ∧ ∀ t : Nat, t < 256 → (σ' 72 t ≠ 0 ↔ mh_up mk t) := by
  intro m
  induction m with
  | zero =>
    intro fu s σ hs hf h1 h2
    obtain ⟨fu, rfl⟩ : ∃ q, fu = q + 1 := ⟨fu - 1, by omega⟩
    refine ⟨σ, ?_, fun t ht => h1 t (by omega)⟩
    show fb_X3_seekWithin_44 n 18 _ (s : Int) σ = _
    unfold fb_X3_seekWithin_44
    rw [if_neg (show ¬ (s : Int) < 256 by omega)]
  | succ m ih =>
    intro fu s σ hs hf h1 h2
    obtain ⟨fu, rfl⟩ : ∃ q, fu = q + 1 := ⟨fu - 1, by omega⟩
    obtain ⟨σ1, e1, k1, k2⟩ := mh_close57 (n := n) (kh := fun y4 σ => fl_X3_seekWithin_44 n 18 fu y4 σ) (mk := mk) (s := s) (by omega) 8 n 0 σ (by omega) (by omega) h1 (fun t ht ht2 => h2 t (by omega) ht2) ((h2 s (by omega) (by omega)).trans ⟨Or.inl, fun h => h.elim id (fun ⟨y, y1, _⟩ => absurd y1 (by omega))⟩)
    obtain ⟨σ2, e2, k3⟩ := ih fu (s + 1) σ1 (by omega) (by omega) (fun t ht => k1 t (by omega)) (fun t ht ht2 => k2 t (by omega) ht2)
    refine ⟨σ2, ?_, k3⟩
    show fb_X3_seekWithin_44 n 18 (fun y4 σ => fl_X3_seekWithin_44 n 18 fu y4 σ) (s : Int) σ = _
    unfold fb_X3_seekWithin_44
    rw [if_pos (show (s : Int) < 256 by omega)]
    exact e1.trans e2
theorem mh_within {n : Nat} {σ : am_Mem} {v : Int → Int} {c q : Int} (hn : 10000000000 ≤ n) (r : mv_TR σ 18 v) (w : mv_WF v) (h6 : 0 < v 6) (w3 : v 3 ≤ 999) : ∃ σ', f_X3_seekWithin n 18 c q σ = some σ' ∧ ∀ t : Nat, t < 256 → (σ' 72 t ≠ 0 ↔ mh_up (fun k => mg_tree v (mg_fw c q) 8 (fun _ => 0) 0 (v 4) (v 1) 0 0 (fun _ => 0) (k : Int) ≠ 0) t) := by
  obtain ⟨σ1, e1, h1, F1⟩ := mh_zero (n := n) (c := c) 256 n 0 (am_up σ 69 6 q) (by omega) (by omega) (by omega) (fun k k0 k1 => by omega)
  have F2 : ∀ a : Nat, a ≠ 72 → a ≠ 69 → σ1 a = σ a := fun a a1 a2 => by rw [F1 a a1, ah_up_ne _ _ _ a2]
  have r1 : mv_TR σ1 18 v := mv_TR_fr r (F2 _ (by decide) (by decide)) (F2 _ (by decide) (by decide)) (F2 _ (by decide) (by decide)) (F2 _ (by decide) (by decide)) (F2 _ (by decide) (by decide)) (F2 _ (by decide) (by decide))
  obtain ⟨σ2, e2, s2⟩ := mg_seekA (n := n) (pu := 4) (ai := c) (li := 8) (f := mg_fw c q) (SA := mg_SW c q) (a := fun _ => 0) hn r1 w h6 w3 (by decide) (by decide) (fun σ a j z h => by
      unfold mg_SW
      rw [ah_up_ne _ _ _ (show (69 : Nat) ≠ 70 by decide), ah_up_ne _ _ _ (show (72 : Nat) ≠ 70 by decide)]
      exact h) (fun _ _ h => h.2.2.1) (fun σ a d p mo gr us pa h hN hd hp => mg_weigh4 h hN.2.2.2.2.2.2.2.2.1 hN.2.2.2.2.2.2.2.2.2) (by
      refine ⟨?_, ?_, ?_, ?_, fun k k0 k1 => ?_⟩
      · simp (disch := decide) only [mv_up_j, mv_up_eq]
      · simp (disch := decide) only [mv_up_j, mv_up_eq]
      · simp (disch := decide) only [mv_up_j, mv_up_eq]
      · simp (disch := decide) only [mv_up_j, mv_up_eq]
        rw [F1 69 (by decide), mv_up_eq]
      · rw [ah_up_ne _ _ _ (by decide), ah_up_ne _ _ _ (by decide), ah_up_ne _ _ _ (by decide), ah_up_ne _ _ _ (by decide), ah_up_ne _ _ _ (by decide), ah_up_ne _ _ _ (by decide), ah_up_ne _ _ _ (by decide)]
        exact h1 k k0 k1)
  obtain ⟨σ3, e3, k3⟩ := mh_close44 (n := n) (mk := fun k => mg_tree v (mg_fw c q) 8 (fun _ => 0) 0 (v 4) (v 1) 0 0 (fun _ => 0) (k : Int) ≠ 0) hn 256 n 0 σ2 (by omega) (by omega) (fun t ht => by omega) (fun t _ ht => by
    have := s2.2.2.2.2 (t : Int) (by omega) (by omega)
    rw [this]
    exact Iff.rfl)
  refine ⟨σ3, ?_, k3⟩
  unfold f_X3_seekWithin
  rw [am_b1_some, e1, e2, am_b1_some]
  exact e3
/-- the weight of a set, if it counts -/
noncomputable def mh_F (O c : Nat) (en : Nat → Prop) (s : Nat) : Nat := @ite Nat (mh_sub s O ∧ en s) (Classical.propDecidable _) (mh_P O c s 8) 0
theorem mh_F_pos {O c : Nat} {en : Nat → Prop} {s : Nat} (h : mh_sub s O ∧ en s) : mh_F O c en s = mh_P O c s 8 := @if_pos _ (Classical.propDecidable _) h _ _ _
theorem mh_F_neg {O c : Nat} {en : Nat → Prop} {s : Nat} (h : ¬ (mh_sub s O ∧ en s)) : mh_F O c en s = 0 := @if_neg _ (Classical.propDecidable _) h _ _ _
theorem mh_F_le {O c : Nat} {en : Nat → Prop} {s : Nat} : mh_F O c en s ≤ mh_P O c s 8 := by
  by_cases h : mh_sub s O ∧ en s
  · rw [mh_F_pos h]; exact Nat.le_refl _
  · rw [mh_F_neg h]; exact Nat.zero_le _
theorem mh_sum_le {O c : Nat} {en : Nat → Prop} {k : Nat} (hc : c ≤ 10) (hk : k ≤ 256) : mh_S (mh_F O c en) k ≤ 100000000 := by
  have a := mh_total O c hc 8
  have b : mh_S (mh_F O c en) k ≤ mh_S (fun s => mh_P O c s 8) k := mh_S_le (fun s _ => mh_F_le)
  have d : mh_S (fun s => mh_P O c s 8) k ≤ mh_S (fun s => mh_P O c s 8) (2 ^ 8) := mh_S_mono hk
  have e : 10 ^ mh_pc O 8 ≤ 10 ^ 8 := Nat.pow_le_pow_right (by decide) (mh_pc_m O 8)
  have f : (10 : Nat) ^ 8 = 100000000 := by decide
  omega
theorem mh_weight {n O c : Nat} {σ : am_Mem} {en : Nat → Prop} (hn : 10000000000 ≤ n) (hO : O < 256) (hc : c ≤ 10) (h : ∀ t : Nat, t < 256 → (σ 72 t ≠ 0 ↔ en t)) : ∀ (m fu s : Nat), s + m = 256 → m < fu → fl_X3_weightOfEnough_11 n fu (O : Int) (c : Int) ((mh_S (mh_F O c en) s : Nat) : Int) ((mh_pc O 8 : Nat) : Int) (s : Int) σ = some (((mh_S (mh_F O c en) 256 : Nat) : Int), σ) := by
  intro m
  induction m with
  | zero =>
    intro fu s hs hf
    obtain ⟨fu, rfl⟩ : ∃ q, fu = q + 1 := ⟨fu - 1, by omega⟩
    show fb_X3_weightOfEnough_11 n _ (O : Int) (c : Int) _ _ (s : Int) σ = _
    unfold fb_X3_weightOfEnough_11
    rw [if_neg (show ¬ (s : Int) < 256 by omega), show s = 256 by omega]
  | succ m ih =>
    intro fu s hs hf
    obtain ⟨fu, rfl⟩ : ∃ q, fu = q + 1 := ⟨fu - 1, by omega⟩
    have ih' := ih fu (s + 1) (by omega) (by omega)
    have hS : mh_S (mh_F O c en) (s + 1) = mh_S (mh_F O c en) s + mh_F O c en s := rfl
    have hb := mh_sum_le (O := O) (en := en) (k := s + 1) hc (by omega)
    show fb_X3_weightOfEnough_11 n (fun y1 y2 y3 y4 y5 σ => fl_X3_weightOfEnough_11 n fu y1 y2 y3 y4 y5 σ) (O : Int) (c : Int) _ _ (s : Int) σ = _
    unfold fb_X3_weightOfEnough_11
    rw [if_pos (show (s : Int) < 256 by omega), am_w_id (z := (s : Int) + 1) (by omega), if_pos (show (0 : Int) ≤ (s : Int) ∧ (s : Int) < 256 by omega), show (s : Int) + 1 = ((s + 1 : Nat) : Int) by omega]
    by_cases hsub : mh_sub s O
    · rw [if_pos ((mh_and (by omega) hO).2 hsub)]
      by_cases z : σ 72 (s : Int) = 0
      · rw [if_pos z]
        have : mh_F O c en s = 0 := mh_F_neg (fun q => (h s (by omega)).2 q.2 z)
        rw [hS, this, Nat.add_zero] at ih'
        exact ih'
      · have e : mh_F O c en s = mh_P O c s 8 := mh_F_pos ⟨hsub, (h s (by omega)).1 z⟩
        have p1 := mh_pc_le hsub (m := 8) (Nat.le_refl _)
        have p2 := mh_pc_m O 8
        have W1 : f_X6_power n (am_w (10 - (c : Int))) ((mh_pc s 8 : Nat) : Int) σ = some ((((10 - c) ^ mh_pc s 8 : Nat) : Int), σ) := by
          rw [am_w_id (z := 10 - (c : Int)) (by omega), show (10 : Int) - (c : Int) = ((10 - c : Nat) : Int) by omega]
          exact mh_power (by omega) (by omega) (mh_pc s 8) n 0 (by omega) (by omega)
        have W2 : f_X6_power n (c : Int) (am_w (((mh_pc O 8 : Nat) : Int) - ((mh_pc s 8 : Nat) : Int))) σ = some (((c ^ (mh_pc O 8 - mh_pc s 8) : Nat) : Int), σ) := by
          rw [am_w_id (z := ((mh_pc O 8 : Nat) : Int) - ((mh_pc s 8 : Nat) : Int)) (by omega), show ((mh_pc O 8 : Nat) : Int) - ((mh_pc s 8 : Nat) : Int) = ((mh_pc O 8 - mh_pc s 8 : Nat) : Int) by omega]
          exact mh_power hc (by omega) (mh_pc O 8 - mh_pc s 8) n 0 (by omega) (by omega)
        have hP := mh_P_pow (c := c) hsub (m := 8) (Nat.le_refl _)
        have hPl := mh_P_le (s := s) (O := O) hc 8
        have f : (10 : Nat) ^ 8 = 100000000 := by decide
        have em : (((10 - c) ^ mh_pc s 8 : Nat) : Int) * ((c ^ (mh_pc O 8 - mh_pc s 8) : Nat) : Int) = ((mh_P O c s 8 : Nat) : Int) := by
          rw [hP]
          exact (Int.natCast_mul _ _).symm
        rw [if_neg z, mh_bc (by omega), am_b2_some, W1, am_b2_some, W2, am_b2_some, em, am_w_id (z := ((mh_P O c s 8 : Nat) : Int)) (by omega), am_w_id (z := ((mh_S (mh_F O c en) s : Nat) : Int) + ((mh_P O c s 8 : Nat) : Int)) (by omega)]
        rw [hS, e] at ih'
        rw [show ((mh_S (mh_F O c en) s : Nat) : Int) + ((mh_P O c s 8 : Nat) : Int) = ((mh_S (mh_F O c en) s + mh_P O c s 8 : Nat) : Int) by omega]
        exact ih'
    · rw [if_neg (fun q => hsub ((mh_and (by omega) hO).1 q))]
      have : mh_F O c en s = 0 := mh_F_neg (fun q => hsub q.1)
      rw [hS, this, Nat.add_zero] at ih'
      exact ih'
