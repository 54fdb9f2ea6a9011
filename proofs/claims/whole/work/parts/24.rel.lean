/-! the class's memory and the model's -/
def mr_un (σ : am_Mem) (q : Nat) (w w' : Int → Int) : Prop :=
  (σ q 0 = 0 ∧ ∀ k : Int, 0 ≤ k → k < 42 → w' k = (if k = 4 then σ q 1 else if k = 1 then σ q 2 else if k = 2 then σ q 3 else if k = 3 then w 3 - 1 else w k))
  ∨ (σ q 0 = 1 ∧ 0 ≤ σ q 1 ∧ σ q 1 < w 6 ∧ ∀ k : Int, 0 ≤ k → k < 42 → w' k = (if k = 8 + 3 * σ q 1 then σ q 2 else w k))
  ∨ (σ q 0 = 2 ∧ ∀ k : Int, 0 ≤ k → k < 42 → w' k = (if k = 2 then σ q 1 else w k))
  ∨ (σ q 0 = 3 ∧ ∀ k : Int, 0 ≤ k → k < 42 → w' k = (if k = 5 then am_xor (w 5) (am_shl 1 (σ q 1)) else w k))
def mr_rows (σ : am_Mem) : Prop := ∀ r : Int, 0 ≤ r → r < 8 → (σ 6 r = -1 ∧ σ 76 r = -1000000) ∨ (0 ≤ σ 6 r ∧ σ 6 r ≤ 40 ∧ 0 ≤ σ 76 r ∧ σ 76 r ≤ 2 ∧ σ 5 r = σ 76 r ∧ σ 77 r = σ 6 r ∧ ∀ i : Int, 0 ≤ i → i < σ 6 r → σ (8 + r.toNat) i = σ 78 (40 * r + i))
def mr_st (σ : am_Mem) : Prop := σ 3 8 = σ 75 4
def mr_ft (σ : am_Mem) : Prop := σ 3 9 = σ 75 7
def mr_tape (σ : am_Mem) : Prop := σ 16 1 = σ 75 6 ∧ 0 ≤ σ 75 6 ∧ σ 75 6 ≤ 120 ∧ ∀ i : Int, 0 ≤ i → i < σ 75 6 → σ 17 i = σ 80 i ∧ 0 ≤ σ 80 i ∧ σ 80 i ≤ 255
def mr_town (σ : am_Mem) (v : Int → Int) : Prop := mv_WF v ∧ v 3 ≤ 999 ∧ mv_TR σ 18 v ∧ mv_V0 σ 81 v
def mr_acts (σ : am_Mem) (v : Int → Int) : Prop := σ 43 2 = σ 75 17 ∧ 0 ≤ σ 75 17 ∧ σ 75 17 ≤ 24 ∧ 0 ≤ σ 43 1 ∧ σ 43 1 < 24 ∧ ∃ P : Int → Int → Int, (∀ k : Int, 0 ≤ k → k < 42 → P (σ 75 17) k = v k) ∧ ∀ i : Int, 0 ≤ i → i < σ 75 17 → mv_VR σ 84 (42 * i) (P i) ∧ mr_un σ (45 + (Int.tmod (σ 43 1 + i) 24).toNat) (P (i + 1)) (P i) ∧ mv_WF (P i) ∧ P i 3 ≤ 999
def mr_img (σ : am_Mem) : Prop := ∀ k : Int, 0 ≤ k → k < 2 → (σ 86 k = 0 ∧ σ (31 + 6 * k.toNat) 5 = 0) ∨ (σ 86 k = 1 ∧ ∃ w, mv_WF w ∧ 0 < w 6 ∧ w 3 ≤ 999 ∧ mv_TR σ (31 + 6 * k.toNat) w ∧ mv_VR σ 85 (42 * k) w)
def mr_tr (σ : am_Mem) : Prop := σ 73 1 = σ 75 31 ∧ 0 ≤ σ 75 31 ∧ σ 75 31 ≤ 16 ∧ ∀ i : Int, 0 ≤ i → i < σ 75 31 → σ 74 i = σ 93 i
def mr_cst (σ : am_Mem) : Prop := (∀ i : Int, am_ok (σ 0 i)) ∧ (σ 1 0 = 10 ∧ σ 1 1 = 11 ∧ σ 1 2 = 12 ∧ σ 1 3 = 11 ∧ σ 1 4 = 13 ∧ σ 1 5 = 14) ∧ (σ 2 0 = 20 ∧ σ 2 1 = 21 ∧ σ 2 2 = 24 ∧ σ 2 3 = 22 ∧ σ 2 4 = 23 ∧ σ 2 5 = 23)
def mr_R (σ : am_Mem) : Prop := ∃ v, mr_town σ v ∧ mr_acts σ v ∧ mr_rows σ ∧ mr_st σ ∧ mr_ft σ ∧ mr_tape σ ∧ mr_img σ ∧ mr_tr σ ∧ mr_cst σ
theorem mr_rows_fr {σ τ : am_Mem} (h : mr_rows σ) (e : ∀ a : Nat, (a = 5 ∨ a = 6 ∨ (8 ≤ a ∧ a ≤ 15) ∨ a = 76 ∨ a = 77 ∨ a = 78) → τ a = σ a) : mr_rows τ := by
  unfold mr_rows
  rw [e 5 (by omega), e 6 (by omega), e 76 (by omega), e 77 (by omega), e 78 (by omega)]
  intro r r0 r1
  rw [e (8 + r.toNat) (by omega)]
  exact h r r0 r1
theorem mr_tape_fr {σ τ : am_Mem} (h : mr_tape σ) (e : ∀ a : Nat, (a = 16 ∨ a = 17 ∨ a = 80) → τ a = σ a) (e75 : τ 75 6 = σ 75 6) : mr_tape τ := by
  unfold mr_tape
  rw [e 16 (by omega), e 17 (by omega), e 80 (by omega), e75]
  exact h
theorem mr_st_fr {σ τ : am_Mem} (h : mr_st σ) (e3 : τ 3 8 = σ 3 8) (e75 : τ 75 4 = σ 75 4) : mr_st τ := by
  unfold mr_st
  rw [e3, e75]
  exact h
theorem mr_ft_fr {σ τ : am_Mem} (h : mr_ft σ) (e3 : τ 3 9 = σ 3 9) (e75 : τ 75 7 = σ 75 7) : mr_ft τ := by
  unfold mr_ft
  rw [e3, e75]
  exact h
theorem mr_town_fr {σ τ : am_Mem} {v : Int → Int} (h : mr_town σ v) (e : ∀ a : Nat, ((18 ≤ a ∧ a ≤ 23) ∨ a = 81) → τ a = σ a) : mr_town τ v := by
  unfold mr_town mv_V0
  rw [e 81 (by omega)]
  exact ⟨h.1, h.2.1, mv_TR_fr h.2.2.1 (e _ (by omega)) (e _ (by omega)) (e _ (by omega)) (e _ (by omega)) (e _ (by omega)) (e _ (by omega)), h.2.2.2⟩
theorem mr_un_fr {σ τ : am_Mem} {q : Nat} {w w' : Int → Int} (h : mr_un σ q w w') (e : τ q = σ q) : mr_un τ q w w' := by
  unfold mr_un
  rw [e]
  exact h
theorem mr_acts_fr {σ τ : am_Mem} {v : Int → Int} (h : mr_acts σ v) (e : ∀ a : Nat, (a = 43 ∨ (45 ≤ a ∧ a ≤ 68) ∨ a = 84) → τ a = σ a) (e75 : τ 75 17 = σ 75 17) : mr_acts τ v := by
  unfold mr_acts mv_VR
  rw [e 43 (by omega), e 84 (by omega), e75]
  obtain ⟨h1, h2, h3, h4, h5, P, h6, h7⟩ := h
  refine ⟨h1, h2, h3, h4, h5, P, h6, fun i i0 i1 => ?_⟩
  have q := h7 i i0 i1
  refine ⟨q.1, mr_un_fr q.2.1 (e _ ?_), q.2.2⟩
  have : Int.tmod (σ 43 1 + i) 24 = (σ 43 1 + i) % 24 := Int.tmod_eq_emod_of_nonneg (by omega)
  omega
theorem mr_img_fr {σ τ : am_Mem} (h : mr_img σ) (e : ∀ a : Nat, ((31 ≤ a ∧ a ≤ 42) ∨ a = 85 ∨ a = 86) → τ a = σ a) : mr_img τ := by
  unfold mr_img mv_VR
  rw [e 85 (by omega), e 86 (by omega)]
  intro k k0 k1
  rw [e (31 + 6 * k.toNat) (by omega)]
  rcases h k k0 k1 with q | ⟨q1, w, q2, q3, q4, q5, q6⟩
  · exact Or.inl q
  · exact Or.inr ⟨q1, w, q2, q3, q4, mv_TR_fr q5 (e _ (by omega)) (e _ (by omega)) (e _ (by omega)) (e _ (by omega)) (e _ (by omega)) (e _ (by omega)), q6⟩
theorem mr_tr_fr {σ τ : am_Mem} (h : mr_tr σ) (e : ∀ a : Nat, (a = 73 ∨ a = 74 ∨ a = 93) → τ a = σ a) (e75 : τ 75 31 = σ 75 31) : mr_tr τ := by
  unfold mr_tr
  rw [e 73 (by omega), e 74 (by omega), e 93 (by omega), e75]
  exact h
theorem mr_cst_fr {σ τ : am_Mem} (h : mr_cst σ) (e : ∀ a : Nat, (a = 0 ∨ a = 1 ∨ a = 2) → τ a = σ a) : mr_cst τ := by
  unfold mr_cst
  rw [e 0 (by omega), e 1 (by omega), e 2 (by omega)]
  exact h
