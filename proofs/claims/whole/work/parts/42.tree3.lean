/-! the model's loop over the tree -/
theorem mg_C_pos : ∀ l : Nat, 1 ≤ mg_C l
  | 0 => Nat.le_refl 1
  | l + 1 => by
    show 1 ≤ 1 + 8 * mg_C l
    omega
theorem mg_loop {A R : Type} {n : Nat} {v : Int → Int} {lim : Int} {f : A → Int → Int → Int → Int → Int → (Int → Int) → A} {SM : am_Mem → A → Prop} {Lp : Nat → Int → A → am_Mem → Option R} (hn : 10000000000 ≤ n) (w : mv_WF v) (w3 : v 3 ≤ 999) (hlim : lim ≤ 8)
    (hS : ∀ (σ τ : am_Mem) (a : A), SM σ a → τ 92 = σ 92 → (∀ j : Int, j ≠ 20 → τ 75 j = σ 75 j) → SM τ a)
    (hT : ∀ (fu : Nat) (a : A) (σ : am_Mem) (d p mo gr us : Int) (pa : Int → Int), SM σ a → mg_N v d p mo gr us → d ≤ lim → mg_M σ v d p mo gr pa → ∃ σ', SM σ' (f a d p mo gr us pa) ∧ (∀ c : Nat, c ≠ 75 → c ≠ 92 → σ' c = σ c) ∧ σ' 75 20 = σ 75 20 ∧ Lp (fu + 1) 1 a σ = am_b2 (f_X7_goesOn n lim σ') (fun r s => Lp fu r (f a d p mo gr us pa) s)) :
    ∀ (l fu : Nat) (a : A) (d p mo gr us : Int) (pa : Int → Int) (σ : am_Mem), d + l = lim → mg_C l ≤ fu → SM σ a → mg_N v d p mo gr us → mg_M σ v d p mo gr pa → ∃ (σ' : am_Mem) (fu' q : Nat), fu ≤ fu' + mg_C l ∧ n ≤ q + l ∧ SM σ' (mg_tree v f l a d p mo gr us pa) ∧ mg_B σ' σ d ∧ σ' 75 20 = d - 1 ∧ Lp fu 1 a σ = am_b2 (fl_X7_goesOn_31 n q σ') (fun r s => Lp fu' r (mg_tree v f l a d p mo gr us pa) s) := by
  have w1 := w.1
  intro l
  induction l with
  | zero =>
    intro fu a d p mo gr us pa σ hd hf sm hN hM
    obtain ⟨fu, rfl⟩ : ∃ q, fu = q + 1 := ⟨fu - 1, by have := mg_C_pos 0; omega⟩
    obtain ⟨σ1, s1, F1, F2, e1⟩ := hT fu a σ d p mo gr us pa sm hN (by omega) hM
    have hd1 := hN.1
    have hd2 := hN.2.1
    refine ⟨am_up σ1 75 20 (d - 1), fu, n, Nat.le_refl _, Nat.le_refl _, hS σ1 _ _ s1 (ah_up_ne _ _ _ (by decide)) (fun j hj => mv_up_j hj), ?_, mv_up_eq, ?_⟩
    · refine mg_B_trans mg_B_20 (d := d) ⟨F1 83 (by decide) (by decide), fun i _ => ?_⟩ (Int.le_refl _)
      rw [F1 87 (by decide) (by decide), F1 88 (by decide) (by decide), F1 89 (by decide) (by decide), F1 90 (by decide) (by decide), F1 91 (by decide) (by decide)]
      exact ⟨rfl, rfl, rfl, rfl, rfl⟩
    · rw [e1]
      unfold f_X7_goesOn
      rw [F2, hM.1, if_neg (show ¬ d < lim by omega), am_b1_some, am_w_id (z := d - 1) (by omega)]
      rfl
  | succ l ih =>
    intro fu a d p mo gr us pa σ hd hf sm hN hM
    have hd1 := hN.1
    have K : ∀ (m k fu q : Nat) (x : Int) (b : A) (τ : am_Mem), 0 ≤ x → x + m = v 25 → m < k → m * mg_C l ≤ fu → n ≤ q + (l + 1) → SM τ b → mg_M τ v d p mo gr pa → ∃ (σ' : am_Mem) (fu' q' : Nat), fu ≤ fu' + m * mg_C l ∧ n ≤ q' + (l + 1) ∧ SM σ' (mg_kids v p (fun a x => mg_tree v f l a (d + 1) (v (27 + 2 * x)) (mv_passed v (v (27 + 2 * x)) mo (v 3 + d)) (gr + mv_cost v (v (27 + 2 * x)) mo (v 3 + d)) (am_or us (am_shl 1 x)) (mv_set pa d x)) m x b) ∧ mg_B σ' τ d ∧ σ' 75 20 = d - 1 ∧ am_b2 (fl_X7_goesOn_48 n (fun σ => fl_X7_goesOn_31 n q σ) k x τ) (fun r s => Lp fu r b s) = am_b2 (fl_X7_goesOn_31 n q' σ') (fun r s => Lp fu' r (mg_kids v p (fun a x => mg_tree v f l a (d + 1) (v (27 + 2 * x)) (mv_passed v (v (27 + 2 * x)) mo (v 3 + d)) (gr + mv_cost v (v (27 + 2 * x)) mo (v 3 + d)) (am_or us (am_shl 1 x)) (mv_set pa d x)) m x b) s) := by
      intro m
      induction m with
      | zero =>
        intro k fu q x b τ x0 hx hk hf hq sb mb
        obtain ⟨k, rfl⟩ : ∃ q, k = q + 1 := ⟨k - 1, by omega⟩
        refine ⟨am_up τ 75 20 (d - 1), fu, q, by omega, hq, hS τ _ _ sb (ah_up_ne _ _ _ (by decide)) (fun j hj => mv_up_j hj), mg_B_20, mv_up_eq, ?_⟩
        show am_b2 (fb_X7_goesOn_48 n (fun σ => fl_X7_goesOn_31 n q σ) _ x τ) _ = _
        unfold fb_X7_goesOn_48
        rw [mb.2.1 25 (by decide) (by decide), if_neg (show ¬ x < v 25 by omega), mb.1, am_b1_some, am_w_id (z := d - 1) (by omega)]
        rfl
      | succ m ihm =>
        intro k fu q x b τ x0 hx hk hf hq sb mb
        obtain ⟨k, rfl⟩ : ∃ q, k = q + 1 := ⟨k - 1, by omega⟩
        have hmul : (m + 1) * mg_C l = m * mg_C l + mg_C l := Nat.succ_mul _ _
        have E : fl_X7_goesOn_48 n (fun σ => fl_X7_goesOn_31 n q σ) (k + 1) x τ = (if mv_goesi v x p = 0 then fl_X7_goesOn_48 n (fun σ => fl_X7_goesOn_31 n q σ) k (x + 1) τ else am_b1 (f_X7_adds n x τ) fun σ15 => some (1, σ15)) := by
          show fb_X7_goesOn_48 n (fun σ => fl_X7_goesOn_31 n q σ) (fun y2 σ => fl_X7_goesOn_48 n (fun σ => fl_X7_goesOn_31 n q σ) k y2 σ) x τ = _
          unfold fb_X7_goesOn_48
          rw [mb.2.1 25 (by decide) (by decide), if_pos (show x < v 25 by omega), mb.1, if_pos (show (0 : Int) ≤ d ∧ d < 9 by omega), mb.2.2.1, mv_mgoes mb.2.1 w, am_b2_some, am_w_id (z := x + 1) (by omega)]
        rw [E]
        unfold mg_kids
        rcases mv_goesi01 v x p with hg | hg
        · rw [hg, if_pos rfl, if_neg (show ¬ (0 : Int) = 1 by decide)]
          obtain ⟨σ', fu', q', h1, h2, h3, h4, h5, h6⟩ := ihm k fu q (x + 1) b τ (by omega) (by omega) (by omega) (by omega) hq sb mb
          exact ⟨σ', fu', q', by omega, h2, h3, h4, h5, h6⟩
        · rw [hg, if_neg (show ¬ (1 : Int) = 0 by decide), if_pos rfl, mg_adds w w3 mb hN (by omega) x0 (by omega), am_b1_some, am_b2_some]
          obtain ⟨σ1, fu1, q1, h1, h2, h3, h4, h5, h6⟩ := ih fu b (d + 1) (v (27 + 2 * x)) (mv_passed v (v (27 + 2 * x)) mo (v 3 + d)) (gr + mv_cost v (v (27 + 2 * x)) mo (v 3 + d)) (am_or us (am_shl 1 x)) (mv_set pa d x) (mg_add v τ d mo gr x) (by omega) (by omega) (hS τ _ _ sb (mg_add_ne (by decide)) (fun j hj => mg_add_75 hj)) (mg_N_kid w hN (by omega) x0 (by omega)) (mg_add_M mb)
          have h5 : σ1 75 20 = d := by omega
          have B1 : mg_B σ1 τ d := mg_B_trans h4 mg_add_B (by omega)
          have M1 : mg_M σ1 v d p mo gr pa := by
            have q := h4.2 d (by omega)
            refine ⟨h5, ?_, ?_, ?_, ?_, ?_⟩
            · intro k k0 k1
              rw [h4.1, mg_add_ne (by decide)]
              exact mb.2.1 k k0 k1
            · rw [q.2.2.1, mg_add_89, mv_up_j (by omega)]
              exact mb.2.2.1
            · rw [q.2.2.2.1, mg_add_90, mv_up_j (by omega)]
              exact mb.2.2.2.1
            · rw [q.2.2.2.2, mg_add_91, mv_up_j (by omega)]
              exact mb.2.2.2.2.1
            · intro i i0 i1
              rw [(B1.2 i i1).1]
              exact mb.2.2.2.2.2 i i0 i1
          have e88 : σ1 88 d = x + 1 := by
            rw [(h4.2 d (by omega)).2.1, mg_add_88, mv_up_eq]
          obtain ⟨q1, rfl⟩ : ∃ q, q1 = q + 1 := ⟨q1 - 1, by omega⟩
          have E1 : fl_X7_goesOn_31 n (q1 + 1) σ1 = fl_X7_goesOn_48 n (fun σ => fl_X7_goesOn_31 n q1 σ) n (x + 1) σ1 := by
            show fb_X7_goesOn_31 n (fun σ => fl_X7_goesOn_31 n q1 σ) σ1 = _
            unfold fb_X7_goesOn_31
            rw [h5, if_neg (show ¬ d < 0 by omega), if_pos (show (0 : Int) ≤ d ∧ d < 9 by omega), e88]
          rw [h6, E1]
          obtain ⟨σ', fu', q', k1, k2, k3, k4, k5, k6⟩ := ihm n fu1 q1 (x + 1) _ σ1 (by omega) (by omega) (by omega) (by omega) (by omega) h3 M1
          exact ⟨σ', fu', q', by omega, k2, k3, mg_B_trans k4 B1 (Int.le_refl _), k5, k6⟩
    have hC : mg_C (l + 1) = 1 + 8 * mg_C l := rfl
    obtain ⟨fu, rfl⟩ : ∃ q, fu = q + 1 := ⟨fu - 1, by omega⟩
    obtain ⟨n', hn'⟩ : ∃ q, n = q + 1 := ⟨n - 1, by omega⟩
    obtain ⟨σ1, s1, F1, F2, e1⟩ := hT fu a σ d p mo gr us pa sm hN (by omega) hM
    have B1 : mg_B σ1 σ d := by
      refine ⟨F1 83 (by decide) (by decide), fun i _ => ?_⟩
      rw [F1 87 (by decide) (by decide), F1 88 (by decide) (by decide), F1 89 (by decide) (by decide), F1 90 (by decide) (by decide), F1 91 (by decide) (by decide)]
      exact ⟨rfl, rfl, rfl, rfl, rfl⟩
    have M1 : mg_M σ1 v d p mo gr pa := by
      unfold mg_M mv_V0
      rw [F2, F1 83 (by decide) (by decide), F1 87 (by decide) (by decide), F1 89 (by decide) (by decide), F1 90 (by decide) (by decide), F1 91 (by decide) (by decide)]
      exact hM
    have E1 : f_X7_goesOn n lim σ1 = fl_X7_goesOn_48 n (fun σ => fl_X7_goesOn_31 n n' σ) n 0 (am_up σ1 88 d 0) := by
      unfold f_X7_goesOn
      rw [M1.1, if_pos (show d < lim by omega), if_pos (show (0 : Int) ≤ d ∧ d < 9 by omega), am_b1_some]
      conv => lhs; arg 2; rw [hn']
      show fb_X7_goesOn_31 n (fun σ => fl_X7_goesOn_31 n n' σ) (am_up σ1 88 d 0) = _
      unfold fb_X7_goesOn_31
      rw [ah_up_ne _ _ _ (show (75 : Nat) ≠ 88 by decide), M1.1, if_neg (show ¬ d < 0 by omega), if_pos (show (0 : Int) ≤ d ∧ d < 9 by omega), mv_up_eq]
    have h8 : (v 25).toNat * mg_C l ≤ 8 * mg_C l := Nat.mul_le_mul_right _ (by omega)
    obtain ⟨σ', fu', q', k1, k2, k3, k4, k5, k6⟩ := K (v 25).toNat n fu n' 0 (f a d p mo gr us pa) (am_up σ1 88 d 0) (by omega) (by omega) (by omega) (by omega) (by omega) (hS σ1 _ _ s1 (ah_up_ne _ _ _ (by decide)) (fun j _ => by rw [ah_up_ne _ _ _ (by decide)])) (mg_M_88 M1)
    refine ⟨σ', fu', q', by omega, k2, k3, mg_B_trans k4 (mg_B_trans mg_B_88 B1 (Int.le_refl _)) (Int.le_refl _), k5, ?_⟩
    rw [e1, E1]
    exact k6
theorem mg_top {A R : Type} {n : Nat} {v : Int → Int} {lim : Int} {f : A → Int → Int → Int → Int → Int → (Int → Int) → A} {SM : am_Mem → A → Prop} {Lp : Nat → Int → A → am_Mem → Option R} (hn : 10000000000 ≤ n) (w : mv_WF v) (w3 : v 3 ≤ 999) (hlim0 : 0 ≤ lim) (hlim : lim ≤ 8)
    (hS : ∀ (σ τ : am_Mem) (a : A), SM σ a → τ 92 = σ 92 → (∀ j : Int, j ≠ 20 → τ 75 j = σ 75 j) → SM τ a)
    (hT : ∀ (fu : Nat) (a : A) (σ : am_Mem) (d p mo gr us : Int) (pa : Int → Int), SM σ a → mg_N v d p mo gr us → d ≤ lim → mg_M σ v d p mo gr pa → ∃ σ', SM σ' (f a d p mo gr us pa) ∧ (∀ c : Nat, c ≠ 75 → c ≠ 92 → σ' c = σ c) ∧ σ' 75 20 = σ 75 20 ∧ Lp (fu + 1) 1 a σ = am_b2 (f_X7_goesOn n lim σ') (fun r s => Lp fu r (f a d p mo gr us pa) s))
    {a : A} {p mo : Int} {pa : Int → Int} {σ : am_Mem} (sm : SM σ a) (hN : mg_N v 0 p mo 0 0) (hM : mg_M σ v 0 p mo 0 pa) : ∃ (σ' : am_Mem) (fu' : Nat), Lp n 1 a σ = Lp (fu' + 1) 0 (mg_tree v f lim.toNat a 0 p mo 0 0 pa) σ' ∧ SM σ' (mg_tree v f lim.toNat a 0 p mo 0 0 pa) := by
  have hC : ∀ l : Nat, l ≤ 8 → mg_C l ≤ 100000000 := by decide
  have hC := hC lim.toNat (by omega)
  obtain ⟨σ', fu', q, h1, h2, h3, h4, h5, h6⟩ := mg_loop hn w w3 hlim hS hT lim.toNat n a 0 p mo 0 0 pa σ (by omega) (by omega) sm hN hM
  obtain ⟨q, rfl⟩ : ∃ k, q = k + 1 := ⟨q - 1, by omega⟩
  refine ⟨σ', fu' - 1, ?_, h3⟩
  rw [h6, show fl_X7_goesOn_31 n (q + 1) σ' = some (0, σ') by
    show fb_X7_goesOn_31 n (fun σ => fl_X7_goesOn_31 n q σ) σ' = _
    unfold fb_X7_goesOn_31
    rw [h5, if_pos (by decide)], am_b2_some, show fu' - 1 + 1 = fu' by omega]
