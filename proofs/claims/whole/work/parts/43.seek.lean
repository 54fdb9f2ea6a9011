/-! the best row: class and model -/
/-- length (below 0: none), cost, end, the row -/
abbrev mg_A : Type := Int × Int × Int × (Int → Int)
def mg_fc (aim : Int) (a : mg_A) (d p _mo gr _us : Int) (pa : Int → Int) : mg_A := if p = aim ∧ (a.1 < 0 ∨ gr < a.2.1 ∨ (gr = a.2.1 ∧ d < a.1)) then (d, gr, p, pa) else a
def mg_fd (lim : Int) (a : mg_A) (d p _mo gr _us : Int) (pa : Int → Int) : mg_A := if d = lim ∧ (a.1 < 0 ∨ a.2.1 < gr) then (d, gr, p, pa) else a
def mg_fg (aim : Int) (a : mg_A) (d p mo gr _us : Int) (pa : Int → Int) : mg_A := if mo = aim ∧ (a.1 < 0 ∨ d < a.1) then (d, gr, p, pa) else a
def mg_fm (aim lim : Int) (a : Int) (d p mo _gr _us : Int) (_pa : Int → Int) : Int := if d = lim ∧ p = aim then am_or a (am_shl 1 mo) else a
/-- the class's Search -/
def mg_SA (pu ai li : Int) (σ : am_Mem) (a : mg_A) : Prop := σ 69 3 = pu ∧ σ 69 4 = ai ∧ σ 69 5 = li ∧ σ 69 7 = a.1 ∧ σ 69 8 = a.2.1 ∧ σ 69 9 = a.2.2.1 ∧ a.1 ≤ 8 ∧ ∀ i : Int, 0 ≤ i → i < a.1 → σ 71 i = a.2.2.2 i
/-- the model's best -/
def mg_SM (σ : am_Mem) (a : mg_A) : Prop := (a.1 < 0 ∧ σ 75 27 = -1000000) ∨ (0 ≤ a.1 ∧ a.1 ≤ 8 ∧ 0 ≤ a.2.1 ∧ σ 75 27 = a.2.1 ∧ σ 75 28 = a.1 ∧ σ 75 29 = a.2.2.1 ∧ ∀ i : Int, 0 ≤ i → i < a.1 → σ 92 i = a.2.2.2 i)
theorem mg_keepPath {n : Nat} {σ : am_Mem} {pu ai li d p gr : Int} {pa : Int → Int} {a : mg_A} (h : mg_SA pu ai li σ a) (d0 : 0 ≤ d) (d8 : d ≤ 8) (hp : ∀ i : Int, 0 ≤ i → i < d → σ 70 i = pa i) : ∃ σ', f_X3_keepPath n d p gr σ = some σ' ∧ mg_SA pu ai li σ' (d, gr, p, pa) := by
  obtain ⟨h1, h2, h3, h4, h5, h6, h7, h8⟩ := h
  have n69 : ∀ k : Int, am_cpy σ 70 0 71 0 d 69 k = σ 69 k := fun k => if_neg (fun q => absurd q.1 (by decide))
  refine ⟨am_up (am_up (am_up (am_cpy σ 70 0 71 0 d) 69 7 d) 69 9 p) 69 8 gr, ?_, ?_, ?_, ?_, ?_, ?_, ?_, d8, ?_⟩
  · unfold f_X3_keepPath
    rw [if_pos (show (0 : Int) ≤ 0 ∧ (0 : Int) ≤ 0 ∧ (0 : Int) ≤ d ∧ 0 + d ≤ (8 : Int) ∧ 0 + d ≤ (8 : Int) by omega)]
    rfl
  · rw [mv_up_j (by decide), mv_up_j (by decide), mv_up_j (by decide), n69]; exact h1
  · rw [mv_up_j (by decide), mv_up_j (by decide), mv_up_j (by decide), n69]; exact h2
  · rw [mv_up_j (by decide), mv_up_j (by decide), mv_up_j (by decide), n69]; exact h3
  · rw [mv_up_j (by decide), mv_up_j (by decide), mv_up_eq]
  · rw [mv_up_eq]
  · rw [mv_up_j (by decide), mv_up_eq]
  · intro i i0 i1
    rw [ah_up_ne _ _ _ (by decide), ah_up_ne _ _ _ (by decide), ah_up_ne _ _ _ (by decide), mv_cpy_at ⟨i0, by have : i < d := i1; omega⟩, show (0 : Int) + (i - 0) = i by omega]
    exact hp i i0 i1
theorem mg_weigh {n : Nat} {σ : am_Mem} {d p mo gr us : Int} : f_X3_weigh n d p mo gr us σ = fb_X3_weigh_45 n d p mo gr us (if σ 69 7 < 0 then 1 else 0) (if gr < σ 69 8 ∨ (gr = σ 69 8 ∧ d < σ 69 7) then 1 else 0) σ := by
  unfold f_X3_weigh fb_X3_weigh_12
  by_cases h1 : σ 69 7 < 0
  · rw [if_pos h1, if_pos h1]
    by_cases h2 : gr < σ 69 8
    · rw [if_pos h2, if_pos (Or.inl h2)]
    · rw [if_neg h2]
      by_cases h3 : gr = σ 69 8
      · rw [if_pos h3]
        by_cases h4 : d < σ 69 7
        · rw [if_pos h4, if_pos (Or.inr ⟨h3, h4⟩)]
        · rw [if_neg h4, if_neg (show ¬ (gr < σ 69 8 ∨ (gr = σ 69 8 ∧ d < σ 69 7)) by omega)]
      · rw [if_neg h3, if_neg (show ¬ (gr < σ 69 8 ∨ (gr = σ 69 8 ∧ d < σ 69 7)) by omega)]
  · rw [if_neg h1, if_neg h1]
    by_cases h2 : gr < σ 69 8
    · rw [if_pos h2, if_pos (Or.inl h2)]
    · rw [if_neg h2]
      by_cases h3 : gr = σ 69 8
      · rw [if_pos h3]
        by_cases h4 : d < σ 69 7
        · rw [if_pos h4, if_pos (Or.inr ⟨h3, h4⟩)]
        · rw [if_neg h4, if_neg (show ¬ (gr < σ 69 8 ∨ (gr = σ 69 8 ∧ d < σ 69 7)) by omega)]
      · rw [if_neg h3, if_neg (show ¬ (gr < σ 69 8 ∨ (gr = σ 69 8 ∧ d < σ 69 7)) by omega)]
theorem mg_weigh0 {n : Nat} {σ : am_Mem} {ai li d p mo gr us : Int} {pa : Int → Int} {a : mg_A} (h : mg_SA 0 ai li σ a) (d0 : 0 ≤ d) (d8 : d ≤ 8) (hp : ∀ i : Int, 0 ≤ i → i < d → σ 70 i = pa i) : ∃ σ', f_X3_weigh n d p mo gr us σ = some σ' ∧ mg_SA 0 ai li σ' (mg_fc ai a d p mo gr us pa) := by
  obtain ⟨σ', e, s⟩ := mg_keepPath (n := n) (p := p) (gr := gr) h d0 d8 hp
  have H := h
  obtain ⟨h1, h2, h3, h4, h5, h6, h7, h8⟩ := h
  rw [mg_weigh, h4, h5]
  unfold fb_X3_weigh_45 mg_fc
  rw [h1, if_pos rfl, h2]
  by_cases hp : p = ai
  · rw [if_pos hp]
    by_cases hf : a.1 < 0
    · rw [if_pos hf, if_neg (show ¬ (1 : Int) = 0 by decide), e, if_pos ⟨hp, Or.inl hf⟩]
      exact ⟨σ', rfl, s⟩
    · rw [if_neg hf, if_pos rfl]
      by_cases hl : gr < a.2.1 ∨ (gr = a.2.1 ∧ d < a.1)
      · rw [if_pos hl, if_neg (show ¬ (1 : Int) = 0 by decide), e, if_pos ⟨hp, Or.inr hl⟩]
        exact ⟨σ', rfl, s⟩
      · rw [if_neg hl, if_pos rfl, if_neg (show ¬ (p = ai ∧ (a.1 < 0 ∨ gr < a.2.1 ∨ (gr = a.2.1 ∧ d < a.1))) by omega)]
        exact ⟨σ, rfl, H⟩
  · rw [if_neg hp, if_neg (fun q => hp q.1)]
    exact ⟨σ, rfl, H⟩
theorem mg_weigh1 {n : Nat} {σ : am_Mem} {ai li d p mo gr us : Int} {pa : Int → Int} {a : mg_A} (h : mg_SA 1 ai li σ a) (d0 : 0 ≤ d) (d8 : d ≤ 8) (hp : ∀ i : Int, 0 ≤ i → i < d → σ 70 i = pa i) : ∃ σ', f_X3_weigh n d p mo gr us σ = some σ' ∧ mg_SA 1 ai li σ' (mg_fd li a d p mo gr us pa) := by
  obtain ⟨σ', e, s⟩ := mg_keepPath (n := n) (p := p) (gr := gr) h d0 d8 hp
  have H := h
  obtain ⟨h1, h2, h3, h4, h5, h6, h7, h8⟩ := h
  rw [mg_weigh, h4]
  unfold fb_X3_weigh_45 mg_fd
  rw [h1, if_neg (show ¬ (1 : Int) = 0 by decide), if_pos rfl, h3, h5]
  by_cases hp : d = li
  · rw [if_pos hp]
    by_cases hf : a.1 < 0
    · rw [if_pos hf, if_neg (show ¬ (1 : Int) = 0 by decide), e, if_pos ⟨hp, Or.inl hf⟩]
      exact ⟨σ', rfl, s⟩
    · rw [if_neg hf, if_pos rfl]
      by_cases hl : gr ≤ a.2.1
      · rw [if_pos hl, if_neg (show ¬ (d = li ∧ (a.1 < 0 ∨ a.2.1 < gr)) by omega)]
        exact ⟨σ, rfl, H⟩
      · rw [if_neg hl, e, if_pos (show d = li ∧ (a.1 < 0 ∨ a.2.1 < gr) by omega)]
        exact ⟨σ', rfl, s⟩
  · rw [if_neg hp, if_neg (fun q => hp q.1)]
    exact ⟨σ, rfl, H⟩
theorem mg_weigh3 {n : Nat} {σ : am_Mem} {ai li d p mo gr us : Int} {pa : Int → Int} {a : mg_A} (h : mg_SA 3 ai li σ a) (d0 : 0 ≤ d) (d8 : d ≤ 8) (hp : ∀ i : Int, 0 ≤ i → i < d → σ 70 i = pa i) : ∃ σ', f_X3_weigh n d p mo gr us σ = some σ' ∧ mg_SA 3 ai li σ' (mg_fg ai a d p mo gr us pa) := by
  obtain ⟨σ', e, s⟩ := mg_keepPath (n := n) (p := p) (gr := gr) h d0 d8 hp
  have H := h
  obtain ⟨h1, h2, h3, h4, h5, h6, h7, h8⟩ := h
  rw [mg_weigh, h4]
  unfold fb_X3_weigh_45 mg_fg
  rw [h1, if_neg (show ¬ (3 : Int) = 0 by decide), if_neg (show ¬ (3 : Int) = 1 by decide), if_neg (show ¬ (3 : Int) = 2 by decide), if_pos rfl, h2, h4]
  by_cases hp : mo = ai
  · rw [if_pos hp]
    by_cases hf : a.1 < 0
    · rw [if_pos hf, if_neg (show ¬ (1 : Int) = 0 by decide), e, if_pos ⟨hp, Or.inl hf⟩]
      exact ⟨σ', rfl, s⟩
    · rw [if_neg hf, if_pos rfl]
      by_cases hl : d < a.1
      · rw [if_pos hl, e, if_pos ⟨hp, Or.inr hl⟩]
        exact ⟨σ', rfl, s⟩
      · rw [if_neg hl, if_neg (show ¬ (mo = ai ∧ (a.1 < 0 ∨ d < a.1)) by omega)]
        exact ⟨σ, rfl, H⟩
  · rw [if_neg hp, if_neg (fun q => hp q.1)]
    exact ⟨σ, rfl, H⟩
def mg_SB (ai li : Int) (σ : am_Mem) (a : Int) : Prop := σ 69 3 = 2 ∧ σ 69 4 = ai ∧ σ 69 5 = li ∧ σ 69 10 = a
theorem mg_weigh2 {n : Nat} {σ : am_Mem} {ai li d p mo gr us : Int} {pa : Int → Int} {a : Int} (h : mg_SB ai li σ a) : ∃ σ', f_X3_weigh n d p mo gr us σ = some σ' ∧ mg_SB ai li σ' (mg_fm ai li a d p mo gr us pa) := by
  have H := h
  obtain ⟨h1, h2, h3, h4⟩ := h
  rw [mg_weigh]
  unfold fb_X3_weigh_45 mg_fm
  rw [h1, if_neg (show ¬ (2 : Int) = 0 by decide), if_neg (show ¬ (2 : Int) = 1 by decide), if_pos rfl, h3, h2, h4]
  by_cases hp : d = li
  · rw [if_pos hp]
    by_cases hq : p = ai
    · rw [if_pos hq, if_pos ⟨hp, hq⟩]
      refine ⟨_, rfl, ?_, ?_, ?_, mv_up_eq⟩
      · rw [mv_up_j (by decide)]; exact h1
      · rw [mv_up_j (by decide)]; exact h2
      · rw [mv_up_j (by decide)]; exact h3
    · rw [if_neg hq, if_neg (fun q => hq q.2)]
      exact ⟨σ, rfl, H⟩
  · rw [if_neg hp, if_neg (fun q => hp q.1)]
    exact ⟨σ, rfl, H⟩
theorem mg_keeps_go {n : Nat} {d : Int} {pa : Int → Int} (d8 : d ≤ 8) : ∀ (m fu : Nat) (i : Int) (σ : am_Mem), 0 ≤ i → i + m = d → m < fu → (∀ j : Int, 0 ≤ j → j < d → σ 87 j = pa j) → (∀ j : Int, 0 ≤ j → j < i → σ 92 j = pa j) → ∃ σ', fl_X7_keeps_27 n fu d i σ = some σ' ∧ (∀ j : Int, 0 ≤ j → j < d → σ' 92 j = pa j) ∧ ∀ c : Nat, c ≠ 92 → σ' c = σ c := by
  intro m
  induction m with
  | zero =>
    intro fu i σ i0 hi hf h1 h2
    obtain ⟨fu, rfl⟩ : ∃ q, fu = q + 1 := ⟨fu - 1, by omega⟩
    refine ⟨σ, ?_, fun j j0 j1 => h2 j j0 (by omega), fun _ _ => rfl⟩
    show fb_X7_keeps_27 n _ d i σ = _
    unfold fb_X7_keeps_27
    rw [if_neg (by omega)]
  | succ m ih =>
    intro fu i σ i0 hi hf h1 h2
    obtain ⟨fu, rfl⟩ : ∃ q, fu = q + 1 := ⟨fu - 1, by omega⟩
    obtain ⟨σ', e, k1, k2⟩ := ih fu (i + 1) (am_up σ 92 i (σ 87 i)) (by omega) (by omega) (by omega) (fun j j0 j1 => by rw [ah_up_ne _ _ _ (by decide)]; exact h1 j j0 j1) (fun j j0 j1 => by
      by_cases hj : j = i
      · rw [hj, mv_up_eq]; exact h1 i i0 (by omega)
      · rw [mv_up_j hj]; exact h2 j j0 (by omega))
    refine ⟨σ', ?_, k1, fun c hc => by rw [k2 c hc, ah_up_ne _ _ _ hc]⟩
    show fb_X7_keeps_27 n (fun y1 y2 σ => fl_X7_keeps_27 n fu y1 y2 σ) d i σ = _
    unfold fb_X7_keeps_27
    rw [if_pos (show i < d by omega), if_pos (show (0 : Int) ≤ i ∧ i < 8 by omega), am_b1_some, am_w_id (z := i + 1) (by omega)]
    exact e
theorem mg_keeps {n : Nat} {σ : am_Mem} {v : Int → Int} {d p mo gr us : Int} {pa : Int → Int} (hn : 10000000000 ≤ n) (hN : mg_N v d p mo gr us) (hM : mg_M σ v d p mo gr pa) : ∃ σ', f_X7_keeps n d σ = some σ' ∧ mg_SM σ' (d, gr, p, pa) ∧ (∀ c : Nat, c ≠ 75 → c ≠ 92 → σ' c = σ c) ∧ σ' 75 20 = σ 75 20 := by
  obtain ⟨hN1, hN2, hN3, hN4, hN5, hN6, hN7, hN8, hN9, hN10⟩ := hN
  obtain ⟨h1, h2, h3, h4, h5, h6⟩ := hM
  obtain ⟨σ', e, k1, k2⟩ := mg_keeps_go (n := n) (d := d) (pa := pa) hN2 d.toNat n 0 (am_up (am_up (am_up σ 75 27 gr) 75 28 d) 75 29 p) (by omega) (by omega) (by omega) (fun j j0 j1 => by rw [ah_up_ne _ _ _ (by decide), ah_up_ne _ _ _ (by decide), ah_up_ne _ _ _ (by decide)]; exact h6 j j0 j1) (fun j j0 j1 => by omega)
  have e0 : f_X7_keeps n d σ = some σ' := by
    unfold f_X7_keeps
    rw [if_pos (show (0 : Int) ≤ d ∧ d < 9 by omega), h5, am_b1_some, am_b1_some, ah_up_ne _ _ _ (show (89 : Nat) ≠ 75 by decide), ah_up_ne _ _ _ (show (89 : Nat) ≠ 75 by decide), h3, am_b1_some]
    exact e
  refine ⟨σ', e0, Or.inr ⟨hN1, hN2, hN7, ?_, ?_, ?_, k1⟩, fun c c1 c2 => w_X7_keeps e0 c ⟨c1, c2⟩, v75_X7_keeps e0 20 (by unfold nf75_X7_keeps; decide)⟩
  · rw [k2 75 (by decide), mv_up_j (by decide), mv_up_j (by decide), mv_up_eq]
  · rw [k2 75 (by decide), mv_up_j (by decide), mv_up_eq]
  · rw [k2 75 (by decide), mv_up_eq]
theorem mg_SM_S (σ τ : am_Mem) (a : mg_A) (h : mg_SM σ a) (e : τ 92 = σ 92) (k : ∀ j : Int, j ≠ 20 → τ 75 j = σ 75 j) : mg_SM τ a := by
  unfold mg_SM
  rw [e, k 27 (by decide), k 28 (by decide), k 29 (by decide)]
  exact h
theorem mg_finds_turn {n : Nat} {v : Int → Int} {c : Int} (hn : 10000000000 ≤ n) (fu : Nat) (a : mg_A) (σ : am_Mem) (d p mo gr us : Int) (pa : Int → Int) (sm : mg_SM σ a) (hN : mg_N v d p mo gr us) (_hd : d ≤ 8) (hM : mg_M σ v d p mo gr pa) : ∃ σ', mg_SM σ' (mg_fc c a d p mo gr us pa) ∧ (∀ c : Nat, c ≠ 75 → c ≠ 92 → σ' c = σ c) ∧ σ' 75 20 = σ 75 20 ∧ fl_X7_finds_19 n (fu + 1) c 1 σ = am_b2 (f_X7_goesOn n 8 σ') (fun r s => fl_X7_finds_19 n fu c r s) := by
  have hN1 := hN.1
  have hN2 := hN.2.1
  have hN7 := hN.2.2.2.2.2.2.1
  obtain ⟨σ1, e1, s1, F1, F2⟩ := mg_keeps hn hN hM
  obtain ⟨h1, h2, h3, h4, h5, h6⟩ := hM
  have E : fl_X7_finds_19 n (fu + 1) c 1 σ = fb_X7_finds_80 n (fun y1 y3 σ => fl_X7_finds_19 n fu y1 y3 σ) c (if a.1 < 0 ∨ gr < a.2.1 ∨ (gr = a.2.1 ∧ d < a.1) then 1 else 0) σ := by
    show fb_X7_finds_19 n (fun y1 y3 σ => fl_X7_finds_19 n fu y1 y3 σ) c 1 σ = _
    unfold fb_X7_finds_19
    rw [if_neg (show ¬ (1 : Int) = 0 by decide), h1, h5]
    rcases sm with ⟨q1, q2⟩ | ⟨q1, q2, q3, q4, q5, q6, q7⟩
    · rw [if_pos q2, if_pos (Or.inl q1)]
    · rw [q4, if_neg (show ¬ a.2.1 = -1000000 by omega), if_pos (show (0 : Int) ≤ d ∧ d < 9 by omega), q5]
      by_cases g1 : gr < a.2.1
      · rw [if_pos g1, if_pos (Or.inr (Or.inl g1))]
      · rw [if_neg g1]
        by_cases g2 : gr = a.2.1
        · rw [if_pos g2]
          by_cases g3 : d < a.1
          · rw [if_pos g3, if_pos (Or.inr (Or.inr ⟨g2, g3⟩))]
          · rw [if_neg g3, if_neg (show ¬ (a.1 < 0 ∨ gr < a.2.1 ∨ (gr = a.2.1 ∧ d < a.1)) by omega)]
        · rw [if_neg g2, if_neg (show ¬ (a.1 < 0 ∨ gr < a.2.1 ∨ (gr = a.2.1 ∧ d < a.1)) by omega)]
  rw [E]
  unfold fb_X7_finds_80 mg_fc
  rw [h1, if_pos (show (0 : Int) ≤ d ∧ d < 9 by omega), h3]
  by_cases hp : p = c
  · rw [if_pos hp]
    by_cases hl : a.1 < 0 ∨ gr < a.2.1 ∨ (gr = a.2.1 ∧ d < a.1)
    · rw [if_pos hl, if_neg (show ¬ (1 : Int) = 0 by decide), e1, am_b1_some, if_pos ⟨hp, hl⟩]
      exact ⟨σ1, s1, F1, F2.trans h1, rfl⟩
    · rw [if_neg hl, if_pos rfl, if_neg (fun q => hl q.2)]
      exact ⟨σ, sm, fun _ _ _ => rfl, h1, rfl⟩
  · rw [if_neg hp, if_neg (fun q => hp q.1)]
    exact ⟨σ, sm, fun _ _ _ => rfl, h1, rfl⟩
