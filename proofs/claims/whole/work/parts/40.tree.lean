/-! the tree of rows of streets -/
def mg_kids {A : Type} (v : Int → Int) (at' : Int) (g : A → Int → A) : Nat → Int → A → A
  | 0, _, a => a
  | m + 1, x, a => mg_kids v at' g m (x + 1) (if mv_goesi v x at' = 1 then g a x else a)
def mg_tree {A : Type} (v : Int → Int) (f : A → Int → Int → Int → Int → Int → (Int → Int) → A) : Nat → A → Int → Int → Int → Int → Int → (Int → Int) → A
  | 0, a, d, p, mo, gr, us, pa => f a d p mo gr us pa
  | l + 1, a, d, p, mo, gr, us, pa => mg_kids v p (fun a x => mg_tree v f l a (d + 1) (v (27 + 2 * x)) (mv_passed v (v (27 + 2 * x)) mo (v 3 + d)) (gr + mv_cost v (v (27 + 2 * x)) mo (v 3 + d)) (am_or us (am_shl 1 x)) (mv_set pa d x)) (v 25).toNat 0 (f a d p mo gr us pa)
/-- what a node keeps to -/
def mg_N (v : Int → Int) (d p mo gr us : Int) : Prop := 0 ≤ d ∧ d ≤ 8 ∧ 0 ≤ p ∧ p < v 6 ∧ 0 ≤ mo ∧ mo ≤ 9 ∧ 0 ≤ gr ∧ gr ≤ 90 * d ∧ 0 ≤ us ∧ us < 256
theorem mg_or_dec : ∀ u : Fin 256, ∀ x : Fin 8, 0 ≤ am_or (u.val : Int) (am_shl 1 (x.val : Int)) ∧ am_or (u.val : Int) (am_shl 1 (x.val : Int)) < 256 := by decide +kernel
theorem mg_or {u x : Int} (u0 : 0 ≤ u) (u1 : u < 256) (x0 : 0 ≤ x) (x1 : x < 8) : 0 ≤ am_or u (am_shl 1 x) ∧ am_or u (am_shl 1 x) < 256 := by
  have q := mg_or_dec ⟨u.toNat, by omega⟩ ⟨x.toNat, by omega⟩
  have q : 0 ≤ am_or (u.toNat : Int) (am_shl 1 (x.toNat : Int)) ∧ am_or (u.toNat : Int) (am_shl 1 (x.toNat : Int)) < 256 := q
  rw [Int.toNat_of_nonneg u0, Int.toNat_of_nonneg x0] at q
  exact q
theorem mg_N_kid {v : Int → Int} {d p mo gr us x : Int} (w : mv_WF v) (h : mg_N v d p mo gr us) (hd : d < 8) (x0 : 0 ≤ x) (x1 : x < v 25) : mg_N v (d + 1) (v (27 + 2 * x)) (mv_passed v (v (27 + 2 * x)) mo (v 3 + d)) (gr + mv_cost v (v (27 + 2 * x)) mo (v 3 + d)) (am_or us (am_shl 1 x)) := by
  obtain ⟨h1, h2, h3, h4, h5, h6, h7, h8, h9, h10⟩ := h
  have w1 := w.1
  have wx := w.2.2.2.2.2 x x0 x1
  have kc := mv_cost_in (s := v 3 + d) w wx.2.2.1 wx.2.2.2 h5 h6
  have kp := mv_pass_in (s := v 3 + d) w wx.2.2.1 wx.2.2.2 h5 h6
  have o := mg_or h9 h10 x0 (show x < 8 by omega)
  exact ⟨by omega, by omega, wx.2.2.1, wx.2.2.2, kp.1, kp.2, by omega, by omega, o.1, o.2⟩
theorem mg_walk {A : Type} {n : Nat} {v : Int → Int} {lim : Int} {f : A → Int → Int → Int → Int → Int → (Int → Int) → A} {SA : am_Mem → A → Prop} (hn : 10000000000 ≤ n) (w : mv_WF v) (w3 : v 3 ≤ 999) (hlim : lim ≤ 8)
    (h70 : ∀ (σ : am_Mem) (a : A) (j z : Int), SA σ a → SA (am_up σ 70 j z) a) (h5 : ∀ (σ : am_Mem) (a : A), SA σ a → σ 69 5 = lim)
    (hW : ∀ (σ : am_Mem) (a : A) (d p mo gr us : Int) (pa : Int → Int), SA σ a → mg_N v d p mo gr us → d ≤ lim → (∀ i : Int, 0 ≤ i → i < d → σ 70 i = pa i) → ∃ σ', f_X3_weigh n d p mo gr us σ = some σ' ∧ SA σ' (f a d p mo gr us pa)) :
    ∀ (l r : Nat) (a : A) (d p mo gr us : Int) (pa : Int → Int) (σ : am_Mem), l < r → d + l = lim → mg_N v d p mo gr us → SA σ a → mv_TR σ 18 v → (∀ i : Int, 0 ≤ i → i < d → σ 70 i = pa i) → ∃ σ', f_X3_walk n r 18 d p mo gr us σ = some σ' ∧ SA σ' (mg_tree v f l a d p mo gr us pa) ∧ mv_TR σ' 18 v ∧ ∀ i : Int, 0 ≤ i → i < d → σ' 70 i = pa i := by
  have w1 := w.1
  intro l
  induction l with
  | zero =>
    intro r a d p mo gr us pa σ hr hd hN sa rt hp
    obtain ⟨r, rfl⟩ : ∃ q, r = q + 1 := ⟨r - 1, by omega⟩
    obtain ⟨σ', e, s'⟩ := hW σ a d p mo gr us pa sa hN (by omega) hp
    have F := w_X3_weigh e
    have F' : ∀ c : Nat, c < 69 ∨ c = 70 → σ' c = σ c := fun c hc => F c (by unfold nw_X3_weigh; omega)
    refine ⟨σ', ?_, s', mv_TR_fr rt (F' _ (by omega)) (F' _ (by omega)) (F' _ (by omega)) (F' _ (by omega)) (F' _ (by omega)) (F' _ (by omega)), by rw [F' 70 (by omega)]; exact hp⟩
    show fe_X3_walk _ n 18 d p mo gr us σ = _
    unfold fe_X3_walk
    rw [e, am_b1_some, h5 _ _ s', if_neg (show ¬ d < lim by omega)]
  | succ l ih =>
    intro r a d p mo gr us pa σ hr hd hN sa rt hp
    obtain ⟨r, rfl⟩ : ∃ q, r = q + 1 := ⟨r - 1, by omega⟩
    obtain ⟨σ1, e, s1⟩ := hW σ a d p mo gr us pa sa hN (by omega) hp
    have F := w_X3_weigh e
    have F' : ∀ c : Nat, c < 69 ∨ c = 70 → σ1 c = σ c := fun c hc => F c (by unfold nw_X3_weigh; omega)
    have rt1 : mv_TR σ1 18 v := mv_TR_fr rt (F' _ (by omega)) (F' _ (by omega)) (F' _ (by omega)) (F' _ (by omega)) (F' _ (by omega)) (F' _ (by omega))
    have hp1 : ∀ i : Int, 0 ≤ i → i < d → σ1 70 i = pa i := by rw [F' 70 (by omega)]; exact hp
    obtain ⟨hN1, hN2, hN3, hN4, hN5, hN6, hN7, hN8, hN9, hN10⟩ := hN
    have L : ∀ (m fu : Nat) (x : Int) (b : A) (τ : am_Mem), 0 ≤ x → x + m = v 25 → m < fu → SA τ b → mv_TR τ 18 v → (∀ i : Int, 0 ≤ i → i < d → τ 70 i = pa i) → ∃ σ', fl_X3_walk_24 (fun p1 p2 p3 p4 p5 p6 σ => f_X3_walk n r p1 p2 p3 p4 p5 p6 σ) n 18 fu d p mo gr us x τ = some σ' ∧ SA σ' (mg_kids v p (fun a x => mg_tree v f l a (d + 1) (v (27 + 2 * x)) (mv_passed v (v (27 + 2 * x)) mo (v 3 + d)) (gr + mv_cost v (v (27 + 2 * x)) mo (v 3 + d)) (am_or us (am_shl 1 x)) (mv_set pa d x)) m x b) ∧ mv_TR σ' 18 v ∧ ∀ i : Int, 0 ≤ i → i < d → σ' 70 i = pa i := by
      intro m
      induction m with
      | zero =>
        intro fu x b τ x0 hx hf sb rb hb
        obtain ⟨fu, rfl⟩ : ∃ q, fu = q + 1 := ⟨fu - 1, by omega⟩
        refine ⟨τ, ?_, sb, rb, hb⟩
        show fb_X3_walk_24 _ n 18 _ d p mo gr us x τ = _
        unfold fb_X3_walk_24
        rw [rb.1.2.1, if_neg (show ¬ x < v 25 by omega)]
      | succ m ihm =>
        intro fu x b τ x0 hx hf sb rb hb
        obtain ⟨fu, rfl⟩ : ∃ q, fu = q + 1 := ⟨fu - 1, by omega⟩
        show ∃ σ', fb_X3_walk_24 _ n 18 (fun y2 y3 y4 y5 y6 y7 σ => fl_X3_walk_24 (fun p1 p2 p3 p4 p5 p6 σ => f_X3_walk n r p1 p2 p3 p4 p5 p6 σ) n 18 fu y2 y3 y4 y5 y6 y7 σ) d p mo gr us x τ = some σ' ∧ _
        unfold fb_X3_walk_24
        unfold mg_kids
        rw [rb.1.2.1, if_pos (show x < v 25 by omega), mv_leadsFrom rb w, am_b2_some, am_w_id (z := x + 1) (by omega)]
        rcases mv_goesi01 v x p with hg | hg
        · rw [hg, if_pos rfl, if_neg (show ¬ (0 : Int) = 1 by decide)]
          exact ihm fu (x + 1) b τ (by omega) (by omega) (by omega) sb rb hb
        · have wx := w.2.2.2.2.2 x x0 (by omega)
          have kc := mv_cost_in (s := v 3 + d) w wx.2.2.1 wx.2.2.2 hN5 hN6
          have q5 : τ 23 x = v (27 + 2 * x) := (rb.2.2 x x0 (by omega)).2
          have q5 : τ (18 + 5) x = v (27 + 2 * x) := q5
          rw [hg, if_neg (show ¬ (1 : Int) = 0 by decide), if_pos rfl, if_pos (show (0 : Int) ≤ x ∧ x < 8 by omega), q5, rb.1.2.2.2.2.2.2.2, am_w_id (z := v 3 + d) (by omega), mv_behind rb w wx.2.2.1 wx.2.2.2 hN5 hN6, am_b2_some, mv_between rb w wx.2.2.1 wx.2.2.2 hN5 hN6, am_b2_some, if_pos (show (0 : Int) ≤ d ∧ d < 8 by omega), am_b1_some, am_w_id (z := d + 1) (by omega), am_w_id (z := gr + mv_cost v (v (27 + 2 * x)) mo (v 3 + d)) (by omega)]
          obtain ⟨σ2, e2, s2, r2, hp2⟩ := ih r b (d + 1) (v (27 + 2 * x)) (mv_passed v (v (27 + 2 * x)) mo (v 3 + d)) (gr + mv_cost v (v (27 + 2 * x)) mo (v 3 + d)) (am_or us (am_shl 1 x)) (mv_set pa d x) (am_up τ 70 d x) (by omega) (by omega) (mg_N_kid w ⟨hN1, hN2, hN3, hN4, hN5, hN6, hN7, hN8, hN9, hN10⟩ (by omega) x0 (by omega)) (h70 _ _ _ _ sb) (mv_TR_fr rb (ah_up_ne _ _ _ (by decide)) (ah_up_ne _ _ _ (by decide)) (ah_up_ne _ _ _ (by decide)) (ah_up_ne _ _ _ (by decide)) (ah_up_ne _ _ _ (by decide)) (ah_up_ne _ _ _ (by decide))) (by
            intro i i0 i1
            by_cases hi : i = d
            · subst hi
              rw [mv_up_eq, mv_set_eq]
            · rw [mv_up_j hi, mv_set_ne hi]
              exact hb i i0 (by omega))
          simp only [e2, am_b1_some]
          exact ihm fu (x + 1) _ σ2 (by omega) (by omega) (by omega) s2 r2 (fun i i0 i1 => by rw [hp2 i i0 (by omega), mv_set_ne (by omega)])
    obtain ⟨σ', e', s', r', hp'⟩ := L (v 25).toNat n 0 _ σ1 (by omega) (by omega) (by omega) s1 rt1 hp1
    refine ⟨σ', ?_, s', r', hp'⟩
    show fe_X3_walk _ n 18 d p mo gr us σ = _
    unfold fe_X3_walk
    rw [e, am_b1_some, h5 _ _ s1, if_pos (show d < lim by omega)]
    exact e'
