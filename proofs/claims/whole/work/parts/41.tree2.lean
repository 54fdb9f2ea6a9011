/-! the tree of rows of streets, the model's side -/
def mg_C : Nat → Nat
  | 0 => 1
  | l + 1 => 1 + 8 * mg_C l
/-- a node in the model's arrays -/
def mg_M (σ : am_Mem) (v : Int → Int) (d p mo gr : Int) (pa : Int → Int) : Prop :=
  σ 75 20 = d ∧ mv_V0 σ 83 v ∧ σ 89 d = p ∧ σ 90 d = mo ∧ σ 91 d = gr ∧ ∀ i : Int, 0 ≤ i → i < d → σ 87 i = pa i
/-- what lies below a depth stays -/
def mg_B (τ σ : am_Mem) (d : Int) : Prop :=
  τ 83 = σ 83 ∧ ∀ i : Int, i < d → τ 87 i = σ 87 i ∧ τ 88 i = σ 88 i ∧ τ 89 i = σ 89 i ∧ τ 90 i = σ 90 i ∧ τ 91 i = σ 91 i
theorem mg_B_trans {τ σ ρ : am_Mem} {d e : Int} (h : mg_B τ σ d) (k : mg_B σ ρ e) (de : e ≤ d) : mg_B τ ρ e := by
  refine ⟨h.1.trans k.1, fun i hi => ?_⟩
  have a := h.2 i (by omega)
  have b := k.2 i hi
  exact ⟨a.1.trans b.1, a.2.1.trans b.2.1, a.2.2.1.trans b.2.2.1, a.2.2.2.1.trans b.2.2.2.1, a.2.2.2.2.trans b.2.2.2.2⟩
theorem mg_M_B {τ σ : am_Mem} {v : Int → Int} {d p mo gr : Int} {pa : Int → Int} (h : mg_M σ v d p mo gr pa) (b : mg_B τ σ (d + 1)) (e : τ 75 20 = d) : mg_M τ v d p mo gr pa := by
  have q := b.2 d (by omega)
  refine ⟨e, ?_, q.2.2.1.trans h.2.2.1, q.2.2.2.1.trans h.2.2.2.1, q.2.2.2.2.trans h.2.2.2.2.1, fun i i0 i1 => (b.2 i (by omega)).1.trans (h.2.2.2.2.2 i i0 i1)⟩
  intro k k0 k1
  rw [b.1]
  exact h.2.1 k k0 k1
def mg_add (v : Int → Int) (σ : am_Mem) (d mo gr x : Int) : am_Mem :=
  am_up (am_up (am_up (am_up (am_up (am_up σ 87 d x) 88 d (x + 1)) 89 (d + 1) (v (27 + 2 * x))) 90 (d + 1) (mv_passed v (v (27 + 2 * x)) mo (v 3 + d))) 91 (d + 1) (gr + mv_cost v (v (27 + 2 * x)) mo (v 3 + d))) 75 20 (d + 1)
theorem mg_adds {n : Nat} {σ : am_Mem} {v : Int → Int} {d p mo gr us x : Int} {pa : Int → Int} (w : mv_WF v) (w3 : v 3 ≤ 999) (h : mg_M σ v d p mo gr pa) (hN : mg_N v d p mo gr us) (hd : d < 8) (x0 : 0 ≤ x) (x1 : x < v 25) :
    f_X7_adds n x σ = some (mg_add v σ d mo gr x) := by
  obtain ⟨h1, h2, h3, h4, h5, h6⟩ := h
  obtain ⟨hN1, hN2, hN3, hN4, hN5, hN6, hN7, hN8, hN9, hN10⟩ := hN
  have w1 := w.1
  have wx := w.2.2.2.2.2 x x0 x1
  have kc := mv_cost_in (s := v 3 + d) w wx.2.2.1 wx.2.2.2 hN5 hN6
  have e3 : σ 83 3 = v 3 := h2 3 (by decide) (by decide)
  have e5 : σ 83 (26 + 2 * x + 1) = v (27 + 2 * x) := mv_at h2 (by omega) (by omega)
  unfold f_X7_adds
  rw [am_w_id (z := 2 * x) (by omega), am_w_id (z := 26 + 2 * x) (by omega), am_w_id (z := 26 + 2 * x + 1) (by omega), if_pos (show (0 : Int) ≤ 26 + 2 * x + 1 ∧ 26 + 2 * x + 1 < 42 by omega), h1, if_pos (show (0 : Int) ≤ d ∧ d < 8 by omega), e5, e3]
  have n75 : ∀ (τ : am_Mem) (a : Nat) (j z : Int), a ≠ 75 → am_up τ a j z 75 = τ 75 := fun τ a j z ha => ah_up_ne τ j z (Ne.symm ha)
  simp only [am_b1_some, n75 _ 87 _ _ (by decide), n75 _ 88 _ _ (by decide), n75 _ 89 _ _ (by decide), n75 _ 90 _ _ (by decide), n75 _ 91 _ _ (by decide), h1]
  rw [am_w_id (z := d + 1) (by omega), am_w_id (z := v 3 + d) (by omega), am_w_id (z := x + 1) (by omega)]
  simp only [if_pos (show (0 : Int) ≤ d ∧ d < 9 by omega), if_pos (show (0 : Int) ≤ d + 1 ∧ d + 1 < 9 by omega)]
  have V1 : mv_V0 (am_up (am_up (am_up σ 87 d x) 88 d (x + 1)) 89 (d + 1) (v (27 + 2 * x))) 83 v := by
    intro k k0 k1
    rw [ah_up_ne _ _ _ (by decide), ah_up_ne _ _ _ (by decide), ah_up_ne _ _ _ (by decide)]
    exact h2 k k0 k1
  rw [show (am_up (am_up (am_up σ 87 d x) 88 d (x + 1)) 89 (d + 1) (v (27 + 2 * x))) 90 d = mo by rw [ah_up_ne _ _ _ (by decide), ah_up_ne _ _ _ (by decide), ah_up_ne _ _ _ (by decide)]; exact h4]
  rw [mv_mpassed V1 w wx.2.2.1 wx.2.2.2 hN5 hN6, am_b2_some]
  have n75' : ∀ (τ : am_Mem) (a : Nat) (j z : Int), a ≠ 75 → am_up τ a j z 75 = τ 75 := n75
  simp only [n75 _ 87 _ _ (by decide), n75 _ 88 _ _ (by decide), n75 _ 89 _ _ (by decide), n75 _ 90 _ _ (by decide), n75 _ 91 _ _ (by decide), h1, if_pos (show (0 : Int) ≤ d ∧ d < 9 by omega), if_pos (show (0 : Int) ≤ d + 1 ∧ d + 1 < 9 by omega)]
  have V2 : mv_V0 (am_up (am_up (am_up (am_up σ 87 d x) 88 d (x + 1)) 89 (d + 1) (v (27 + 2 * x))) 90 (d + 1) (mv_passed v (v (27 + 2 * x)) mo (v 3 + d))) 83 v := by
    intro k k0 k1
    rw [ah_up_ne _ _ _ (by decide)]
    exact V1 k k0 k1
  rw [show (am_up (am_up (am_up (am_up σ 87 d x) 88 d (x + 1)) 89 (d + 1) (v (27 + 2 * x))) 90 (d + 1) (mv_passed v (v (27 + 2 * x)) mo (v 3 + d))) 90 d = mo by rw [mv_up_j (by omega), ah_up_ne _ _ _ (by decide), ah_up_ne _ _ _ (by decide), ah_up_ne _ _ _ (by decide)]; exact h4]
  rw [mv_mcost V2 w wx.2.2.1 wx.2.2.2 hN5 hN6, am_b2_some]
  simp only [n75 _ 87 _ _ (by decide), n75 _ 88 _ _ (by decide), n75 _ 89 _ _ (by decide), n75 _ 90 _ _ (by decide), n75 _ 91 _ _ (by decide), h1, if_pos (show (0 : Int) ≤ d + 1 ∧ d + 1 < 9 by omega)]
  rw [show (am_up (am_up (am_up (am_up σ 87 d x) 88 d (x + 1)) 89 (d + 1) (v (27 + 2 * x))) 90 (d + 1) (mv_passed v (v (27 + 2 * x)) mo (v 3 + d))) 91 d = gr by rw [ah_up_ne _ _ _ (by decide), ah_up_ne _ _ _ (by decide), ah_up_ne _ _ _ (by decide), ah_up_ne _ _ _ (by decide)]; exact h5]
  rw [am_w_id (z := gr + mv_cost v (v (27 + 2 * x)) mo (v 3 + d)) (by omega)]
  try rw [am_w_id (z := d + 1) (by omega)]
  rw [if_pos (show (0 : Int) ≤ d + 1 ∧ d + 1 < 9 by omega)]
  rfl
theorem mg_add_ne {v : Int → Int} {σ : am_Mem} {d mo gr x : Int} {c : Nat} (h : c ≠ 75 ∧ c ≠ 87 ∧ c ≠ 88 ∧ c ≠ 89 ∧ c ≠ 90 ∧ c ≠ 91) : mg_add v σ d mo gr x c = σ c := by
  unfold mg_add
  rw [ah_up_ne _ _ _ h.1, ah_up_ne _ _ _ h.2.2.2.2.2, ah_up_ne _ _ _ h.2.2.2.2.1, ah_up_ne _ _ _ h.2.2.2.1, ah_up_ne _ _ _ h.2.2.1, ah_up_ne _ _ _ h.2.1]
theorem mg_add_75 {v : Int → Int} {σ : am_Mem} {d mo gr x j : Int} (h : j ≠ 20) : mg_add v σ d mo gr x 75 j = σ 75 j := by
  unfold mg_add
  rw [mv_up_j h, ah_up_ne _ _ _ (by decide), ah_up_ne _ _ _ (by decide), ah_up_ne _ _ _ (by decide), ah_up_ne _ _ _ (by decide), ah_up_ne _ _ _ (by decide)]
theorem mg_add_87 {v : Int → Int} {σ : am_Mem} {d mo gr x : Int} : mg_add v σ d mo gr x 87 = am_up σ 87 d x 87 := by
  unfold mg_add
  rw [ah_up_ne _ _ _ (by decide), ah_up_ne _ _ _ (by decide), ah_up_ne _ _ _ (by decide), ah_up_ne _ _ _ (by decide), ah_up_ne _ _ _ (by decide)]
theorem mg_add_88 {v : Int → Int} {σ : am_Mem} {d mo gr x : Int} : mg_add v σ d mo gr x 88 = am_up σ 88 d (x + 1) 88 := by
  unfold mg_add
  rw [ah_up_ne _ _ _ (by decide), ah_up_ne _ _ _ (by decide), ah_up_ne _ _ _ (by decide), ah_up_ne _ _ _ (by decide)]
  funext j
  unfold am_up
  simp
theorem mg_add_89 {v : Int → Int} {σ : am_Mem} {d mo gr x : Int} : mg_add v σ d mo gr x 89 = am_up σ 89 (d + 1) (v (27 + 2 * x)) 89 := by
  unfold mg_add
  rw [ah_up_ne _ _ _ (by decide), ah_up_ne _ _ _ (by decide), ah_up_ne _ _ _ (by decide)]
  funext j
  unfold am_up
  simp
theorem mg_add_90 {v : Int → Int} {σ : am_Mem} {d mo gr x : Int} : mg_add v σ d mo gr x 90 = am_up σ 90 (d + 1) (mv_passed v (v (27 + 2 * x)) mo (v 3 + d)) 90 := by
  unfold mg_add
  rw [ah_up_ne _ _ _ (by decide), ah_up_ne _ _ _ (by decide)]
  funext j
  unfold am_up
  simp
theorem mg_add_91 {v : Int → Int} {σ : am_Mem} {d mo gr x : Int} : mg_add v σ d mo gr x 91 = am_up σ 91 (d + 1) (gr + mv_cost v (v (27 + 2 * x)) mo (v 3 + d)) 91 := by
  unfold mg_add
  rw [ah_up_ne _ _ _ (by decide)]
  funext j
  unfold am_up
  simp
theorem mg_add_M {σ : am_Mem} {v : Int → Int} {d p mo gr x : Int} {pa : Int → Int} (h : mg_M σ v d p mo gr pa) : mg_M (mg_add v σ d mo gr x) v (d + 1) (v (27 + 2 * x)) (mv_passed v (v (27 + 2 * x)) mo (v 3 + d)) (gr + mv_cost v (v (27 + 2 * x)) mo (v 3 + d)) (mv_set pa d x) := by
  refine ⟨mv_up_eq, ?_, ?_, ?_, ?_, ?_⟩
  · intro k k0 k1
    rw [mg_add_ne (by decide)]
    exact h.2.1 k k0 k1
  · rw [mg_add_89, mv_up_eq]
  · rw [mg_add_90, mv_up_eq]
  · rw [mg_add_91, mv_up_eq]
  · intro i i0 i1
    rw [mg_add_87]
    by_cases hi : i = d
    · rw [hi, mv_up_eq, mv_set_eq]
    · rw [mv_up_j hi, mv_set_ne hi]
      exact h.2.2.2.2.2 i i0 (by omega)
theorem mg_add_B {σ : am_Mem} {v : Int → Int} {d mo gr x : Int} : mg_B (mg_add v σ d mo gr x) σ d := by
  refine ⟨mg_add_ne (by decide), fun i hi => ⟨?_, ?_, ?_, ?_, ?_⟩⟩
  · rw [mg_add_87, mv_up_j (by omega)]
  · rw [mg_add_88, mv_up_j (by omega)]
  · rw [mg_add_89, mv_up_j (by omega)]
  · rw [mg_add_90, mv_up_j (by omega)]
  · rw [mg_add_91, mv_up_j (by omega)]
theorem mg_B_20 {σ : am_Mem} {d e z : Int} : mg_B (am_up σ 75 e z) σ d :=
  ⟨ah_up_ne _ _ _ (by decide), fun i hi => by rw [ah_up_ne _ _ _ (by decide), ah_up_ne _ _ _ (by decide), ah_up_ne _ _ _ (by decide), ah_up_ne _ _ _ (by decide), ah_up_ne _ _ _ (by decide)]; exact ⟨rfl, rfl, rfl, rfl, rfl⟩⟩
theorem mg_B_88 {σ : am_Mem} {d z : Int} : mg_B (am_up σ 88 d z) σ d :=
  ⟨ah_up_ne _ _ _ (by decide), fun i hi => by rw [ah_up_ne _ _ _ (by decide), mv_up_j (by omega), ah_up_ne _ _ _ (by decide), ah_up_ne _ _ _ (by decide), ah_up_ne _ _ _ (by decide)]; exact ⟨rfl, rfl, rfl, rfl, rfl⟩⟩
theorem mg_M_88 {σ : am_Mem} {v : Int → Int} {d p mo gr j z : Int} {pa : Int → Int} (h : mg_M σ v d p mo gr pa) : mg_M (am_up σ 88 j z) v d p mo gr pa := by
  unfold mg_M mv_V0
  rw [ah_up_ne _ _ _ (show (75 : Nat) ≠ 88 by decide), ah_up_ne _ _ _ (show (83 : Nat) ≠ 88 by decide), ah_up_ne _ _ _ (show (89 : Nat) ≠ 88 by decide), ah_up_ne _ _ _ (show (90 : Nat) ≠ 88 by decide), ah_up_ne _ _ _ (show (91 : Nat) ≠ 88 by decide), ah_up_ne _ _ _ (show (87 : Nat) ≠ 88 by decide)]
  exact h
