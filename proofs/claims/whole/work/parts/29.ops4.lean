/-! street, undo, image, restore -/
theorem mv_xor_dec : ∀ s : Fin 9, ∀ x : Fin 8, ∀ o : Fin 256, x.val < s.val → o.val < 2 ^ s.val → 0 ≤ am_xor (o.val : Int) (am_shl 1 (x.val : Int)) ∧ am_xor (o.val : Int) (am_shl 1 (x.val : Int)) < 2 ^ s.val := by decide +kernel
theorem mv_p8 {s : Int} (h0 : 0 ≤ s) (h1 : s ≤ 8) : (2 : Int) ^ s.toNat ≤ 256 := by
  have : s = 0 ∨ s = 1 ∨ s = 2 ∨ s = 3 ∨ s = 4 ∨ s = 5 ∨ s = 6 ∨ s = 7 ∨ s = 8 := by omega
  rcases this with h | h | h | h | h | h | h | h | h <;> subst h <;> decide
theorem mv_xor_in {s x o : Int} (s0 : 0 ≤ s) (s1 : s ≤ 8) (x0 : 0 ≤ x) (x1 : x < s) (o0 : 0 ≤ o) (o1 : o < 2 ^ s.toNat) : 0 ≤ am_xor o (am_shl 1 x) ∧ am_xor o (am_shl 1 x) < 2 ^ s.toNat := by
  have p := mv_p8 s0 s1
  have e : o.toNat < 2 ^ s.toNat := by
    have : ((o.toNat : Nat) : Int) < ((2 ^ s.toNat : Nat) : Int) := by
      rw [Int.toNat_of_nonneg o0]
      push_cast
      exact o1
    exact Int.ofNat_lt.1 this
  have q := mv_xor_dec ⟨s.toNat, by omega⟩ ⟨x.toNat, by omega⟩ ⟨o.toNat, by omega⟩ (by show x.toNat < s.toNat; omega) e
  have q : 0 ≤ am_xor (o.toNat : Int) (am_shl 1 (x.toNat : Int)) ∧ am_xor (o.toNat : Int) (am_shl 1 (x.toNat : Int)) < 2 ^ s.toNat := q
  rw [Int.toNat_of_nonneg o0, Int.toNat_of_nonneg x0] at q
  exact q
theorem mv_xor2 {a b : Int} (h : am_ok a) : am_xor (am_xor a b) b = a := by
  unfold am_xor
  rw [an_of, Int32.xor_assoc, Int32.xor_self, Int32.xor_zero, an_id h]
theorem mv_WF_open {v : Int → Int} {z : Int} (w : mv_WF v) (h0 : 0 ≤ z) (h1 : z < 2 ^ (v 25).toNat) : mv_WF (mv_set v 5 z) := by
  have w1 := w.1
  unfold mv_WF
  rw [mv_set_ne (j := 0) (by omega), mv_set_ne (j := 1) (by omega), mv_set_ne (j := 2) (by omega), mv_set_ne (j := 3) (by omega), mv_set_ne (j := 4) (by omega), mv_set_eq, mv_set_ne (j := 6) (by omega), mv_set_ne (j := 25) (by omega)]
  refine ⟨by omega, w.2.1, w.2.2.1, h1, ?_, ?_⟩
  · intro x x0 x1
    rw [mv_set_ne (by omega), mv_set_ne (by omega), mv_set_ne (by omega)]
    exact w.2.2.2.2.1 x x0 x1
  · intro x x0 x1
    rw [mv_set_ne (by omega), mv_set_ne (by omega)]
    exact w.2.2.2.2.2 x x0 x1
theorem ma_street {n : Nat} {σ : am_Mem} {v : Int → Int} {p1 p2 : Int} (hn : 10000000000 ≤ n) (R1 : mr_town σ v) (R2 : mr_acts σ v) : ∃ r σ1 σ2 v', f_X6_street n p1 p2 σ = some (r, σ1) ∧ f_X7_street n p1 p2 σ1 = some (r, σ2) ∧ mr_town σ2 v' ∧ mr_acts σ2 v' := by
  have R1' := R1
  obtain ⟨w, w3, r1, r2⟩ := R1'
  have w1 := w.1
  have p8 := mv_p8 w1.2.2.1 w1.2.2.2.1
  have wo := w.2.2.2.1
  unfold f_X6_street
  rw [mv_has r1, am_b2_some]
  by_cases h : 0 ≤ p1 ∧ p1 < v 25
  · rw [if_pos h, if_neg (by decide)]
    by_cases h2 : 0 ≤ p2 ∧ p2 ≤ 1
    · rw [if_neg (by omega), if_pos h2.2, mv_isOpen r1, am_b2_some]
      have hb := mv_bit01 (v 5) p1
      have hsm : (if p2 = 1 then fb_X6_street_41 n p1 1 (if am_and (am_shr (v 5) p1) 1 = 1 then 1 else 0) σ else fb_X6_street_41 n p1 0 (if am_and (am_shr (v 5) p1) 1 = 1 then 1 else 0) σ) = fb_X6_street_41 n p1 p2 (am_and (am_shr (v 5) p1) 1) σ := by
        have h3 : p2 = 0 ∨ p2 = 1 := by omega
        rcases h3 with h3 | h3 <;> rcases hb with hb | hb <;> rw [h3, hb] <;> rfl
      rw [hsm]
      unfold fb_X6_street_41
      by_cases he : am_and (am_shr (v 5) p1) 1 = p2
      · rw [if_pos he]
        refine ⟨_, _, σ, v, rfl, ?_, R1, R2⟩
        unfold f_X7_street
        rw [mv_misS r2 w, am_b2_some, if_pos h, if_neg (by decide), mv_in, am_b2_some, if_pos h2, if_neg (by decide), r2 5 (by decide) (by decide), if_pos he]
      · rw [if_neg he]
        obtain ⟨τ1, e1, rt, F1⟩ := mr_keep_ok (n := n) (w := 3) (a := p1) (b := 0) (c := 0) R1 R2
        have e2 : f_X5_turn n 18 p1 τ1 = some (am_up τ1 18 8 (am_xor (v 5) (am_shl 1 p1))) := by
          unfold f_X5_turn
          rw [am_b1_some, rt.1.2.2.2.1]
        have hz := mv_xor_in w1.2.2.1 w1.2.2.2.1 h.1 h.2 w1.2.2.2.2.2.2.2.2.2.2.2.2 wo
        have hz2 : am_xor (am_xor (v 5) (am_shl 1 p1)) (am_shl 1 p1) = v 5 := mv_xor2 (by omega)
        generalize hzz : am_xor (v 5) (am_shl 1 p1) = z at e2 hz hz2
        have F2' : ∀ e : Nat, (e < 18 ∨ 24 ≤ e) → am_up τ1 18 8 z e = τ1 e := fun e he => ah_up_ne _ _ _ (by omega)
        have r2' : mv_V0 (am_up τ1 18 8 z) 81 v := by
          unfold mv_V0
          rw [F2' 81 (by omega), F1 81 (by omega)]
          exact r2
        obtain ⟨τ3, e3, F3⟩ := mr_notes_ok (n := n) (τ := am_up τ1 18 8 z) hn R2 (by rw [F2' 75 (by omega), F1 75 (by omega)])
        have r3' : mv_V0 τ3 81 v := by
          unfold mv_V0
          rw [F3 81 (by decide) (by decide)]
          exact r2'
        rw [e1, am_b1_some, e2, am_b1_some]
        refine ⟨_, _, am_up τ3 81 5 z, mv_set v 5 z, rfl, ?_, ?_⟩
        · unfold f_X7_street
          rw [mv_misS r2' w, am_b2_some, if_pos h, if_neg (by decide), mv_in, am_b2_some, if_pos h2, if_neg (by decide), r2' 5 (by decide) (by decide), if_neg he, e3, am_b1_some, am_b1_some, r3' 5 (by decide) (by decide), hzz, mv_up_eq, mv_up_eq]
        · refine mr_act hn R1 R2 e1 (mv_TR_up8 rt) F2' e3 (mv_V0_up r3') (fun e he => ah_up_ne _ _ _ he) (mv_WF_open w hz.1 hz.2) (by rw [mv_set_ne (by omega)]; exact w3) ?_
          intro μ q q0 q1 q2 q3
          refine Or.inr (Or.inr (Or.inr ⟨q0, fun k k0 k1 => ?_⟩))
          rw [q1, mv_set_eq, hz2]
          by_cases k2 : k = 5
          · rw [if_pos k2, k2]
          · rw [if_neg k2, mv_set_ne k2]
    · refine ⟨-1000001, σ, σ, v, ?_, ?_, R1, R2⟩
      · by_cases h3 : p2 < 0
        · rw [if_pos h3]
        · rw [if_neg h3, if_neg (by omega)]
      · unfold f_X7_street
        rw [mv_misS r2 w, am_b2_some, if_pos h, if_neg (by decide), mv_in, am_b2_some, if_neg h2, if_pos rfl]
  · rw [if_neg h, if_pos rfl]
    refine ⟨_, _, σ, v, rfl, ?_, R1, R2⟩
    unfold f_X7_street
    rw [mv_misS r2 w, am_b2_some, if_neg h, if_pos rfl]
theorem mv_back {n : Nat} {σ : am_Mem} {w w' : Int → Int} {k : Int} (hk : σ 43 2 = k + 1) (k0 : 0 ≤ k) (k23 : k ≤ 23) (ho : 0 ≤ σ 43 1 ∧ σ 43 1 < 24) (r : mv_TR σ 18 w) (ww : mv_WF w) (w3 : w 3 ≤ 999) (un : mr_un σ (45 + (Int.tmod (σ 43 1 + k) 24).toNat) w w') (wf' : mv_WF w') : ∃ σ', f_X0_takeBack n 18 σ = some σ' ∧ mv_TR σ' 18 w' ∧ σ' 43 2 = k ∧ σ' 43 1 = σ 43 1 := by
  have w1 := ww.1
  have ht := mv_tm (z := σ 43 1 + k) (by omega)
  unfold f_X0_takeBack
  rw [if_neg (by omega), am_b1_some, hk, am_w_id (z := k + 1 - 1) (by omega), show k + 1 - 1 = k by omega, mv_up_eq, mv_up_j (show (1 : Int) ≠ 2 by decide), am_w_id (z := σ 43 1 + k) (by omega), if_pos (by omega)]
  have hq : 45 ≤ 45 + (Int.tmod (σ 43 1 + k) 24).toNat := by omega
  generalize 45 + (Int.tmod (σ 43 1 + k) 24).toNat = q at hq un ⊢
  have eq : am_up σ 43 2 k q = σ q := ah_up_ne _ _ _ (by omega)
  have r2 : mv_TR (am_up σ 43 2 k) 18 w := mv_TR_fr r (ah_up_ne _ _ _ (by decide)) (ah_up_ne _ _ _ (by decide)) (ah_up_ne _ _ _ (by decide)) (ah_up_ne _ _ _ (by decide)) (ah_up_ne _ _ _ (by decide)) (ah_up_ne _ _ _ (by decide))
  have m2 : am_up σ 43 2 k 43 2 = k := mv_up_eq
  have m1 : am_up σ 43 2 k 43 1 = σ 43 1 := mv_up_j (by decide)
  rw [eq]
  generalize am_up σ 43 2 k = τ at eq r2 m1 m2 ⊢
  rcases un with ⟨a1, a2⟩ | ⟨a1, a2, a3, a4⟩ | ⟨a1, a2⟩ | ⟨a1, a2⟩
  · rw [if_pos a1]
    simp only [am_b1_some]
    refine ⟨_, rfl, ?_, ?_, ?_⟩
    · have c1 := mv_TR_up9 (z := σ q 1) r2
      have c2 := mv_TR_up10 (z := σ q 2) c1
      have c3 := mv_TR_up11 (z := σ q 3) c2
      have c4 := mv_TR_up12 (z := w 3 - 1) c3
      have g1 : am_up τ 18 9 (σ q 1) q 2 = σ q 2 := by rw [ah_up_ne _ _ _ (by omega), eq]
      have g2 : am_up (am_up τ 18 9 (σ q 1)) 18 10 (σ q 2) q 3 = σ q 3 := by rw [ah_up_ne _ _ _ (by omega), ah_up_ne _ _ _ (by omega), eq]
      have g3 := c3.1.2.2.2.2.2.2.2
      rw [mv_set_ne (by decide), mv_set_ne (by decide), mv_set_ne (by decide)] at g3
      rw [g1, g2, g3, am_w_id (by omega)]
      have E : ∀ j : Int, 0 ≤ j → j < 42 → w' j = mv_set (mv_set (mv_set (mv_set w 4 (σ q 1)) 1 (σ q 2)) 2 (σ q 3)) 3 (w 3 - 1) j := by
        intro j j0 j1
        rw [a2 j j0 j1]
        by_cases c4' : j = 4
        · subst c4'; rfl
        · rw [if_neg c4']
          by_cases c1' : j = 1
          · subst c1'; rfl
          · rw [if_neg c1']
            by_cases c2' : j = 2
            · subst c2'; rfl
            · rw [if_neg c2']
              by_cases c3' : j = 3
              · subst c3'; rfl
              · rw [if_neg c3', mv_set_ne c3', mv_set_ne c2', mv_set_ne c1', mv_set_ne c4']
      exact mv_TR_v c4 (mv_WF_v wf' (fun j j0 j1 => (E j j0 j1).symm)) E
    · rw [ah_up_ne _ _ _ (by decide), ah_up_ne _ _ _ (by decide), ah_up_ne _ _ _ (by decide), ah_up_ne _ _ _ (by decide)]; exact m2
    · rw [ah_up_ne _ _ _ (by decide), ah_up_ne _ _ _ (by decide), ah_up_ne _ _ _ (by decide), ah_up_ne _ _ _ (by decide)]; exact m1
  · rw [if_neg (by omega), if_pos a1, if_pos (by omega)]
    simp only [am_b1_some]
    refine ⟨_, rfl, ?_, ?_, ?_⟩
    · have c1 := mv_TR_much (z := σ q 2) a2 r2 a3 (by omega)
      have E : ∀ j : Int, 0 ≤ j → j < 42 → w' j = mv_set w (8 + 3 * σ q 1) (σ q 2) j := a4
      exact mv_TR_v c1 (mv_WF_v wf' (fun j j0 j1 => (E j j0 j1).symm)) E
    · rw [ah_up_ne _ _ _ (by decide)]; exact m2
    · rw [ah_up_ne _ _ _ (by decide)]; exact m1
  · rw [if_neg (by omega), if_neg (by omega), if_pos a1]
    simp only [am_b1_some]
    refine ⟨_, rfl, ?_, ?_, ?_⟩
    · have c1 := mv_TR_up11 (z := σ q 1) r2
      have E : ∀ j : Int, 0 ≤ j → j < 42 → w' j = mv_set w 2 (σ q 1) j := a2
      exact mv_TR_v c1 (mv_WF_v wf' (fun j j0 j1 => (E j j0 j1).symm)) E
    · rw [ah_up_ne _ _ _ (by decide)]; exact m2
    · rw [ah_up_ne _ _ _ (by decide)]; exact m1
  · rw [if_neg (by omega), if_neg (by omega), if_neg (by omega)]
    unfold f_X5_turn
    simp only [am_b1_some]
    refine ⟨_, rfl, ?_, ?_, ?_⟩
    · have c1 := mv_TR_up8 (z := am_xor (w 5) (am_shl 1 (σ q 1))) r2
      have E : ∀ j : Int, 0 ≤ j → j < 42 → w' j = mv_set w 5 (am_xor (w 5) (am_shl 1 (σ q 1))) j := a2
      rw [r2.1.2.2.2.1]
      exact mv_TR_v c1 (mv_WF_v wf' (fun j j0 j1 => (E j j0 j1).symm)) E
    · rw [ah_up_ne _ _ _ (by decide)]; exact m2
    · rw [ah_up_ne _ _ _ (by decide)]; exact m1
theorem mr_un_w {σ : am_Mem} {q : Nat} {u w w' : Int → Int} (h : mr_un σ q u w') (e : ∀ k : Int, 0 ≤ k → k < 42 → u k = w k) : mr_un σ q w w' := by
  rcases h with ⟨a1, a2⟩ | ⟨a1, a2, a3, a4⟩ | ⟨a1, a2⟩ | ⟨a1, a2⟩
  · refine Or.inl ⟨a1, fun k k0 k1 => ?_⟩
    rw [a2 k k0 k1, e 3 (by decide) (by decide), e k k0 k1]
  · refine Or.inr (Or.inl ⟨a1, a2, by rw [← e 6 (by decide) (by decide)]; exact a3, fun k k0 k1 => ?_⟩)
    rw [a4 k k0 k1, e k k0 k1]
  · refine Or.inr (Or.inr (Or.inl ⟨a1, fun k k0 k1 => ?_⟩))
    rw [a2 k k0 k1, e k k0 k1]
  · refine Or.inr (Or.inr (Or.inr ⟨a1, fun k k0 k1 => ?_⟩))
    rw [a2 k k0 k1, e 5 (by decide) (by decide), e k k0 k1]
theorem ma_undo {n : Nat} {σ : am_Mem} {v : Int → Int} (hn : 10000000000 ≤ n) (R1 : mr_town σ v) (R2 : mr_acts σ v) : ∃ r σ1 σ2 v', f_X6_undo n σ = some (r, σ1) ∧ f_X7_undo n σ1 = some (r, σ2) ∧ mr_town σ2 v' ∧ mr_acts σ2 v' := by
  have R2' := R2
  obtain ⟨h1, h2, h3, h4, h5, P, h6, h7⟩ := R2'
  have R1' := R1
  obtain ⟨w, w3, r1, r2⟩ := R1'
  unfold f_X6_undo
  rw [h1]
  by_cases h0 : σ 75 17 = 0
  · rw [if_pos h0]
    refine ⟨_, _, σ, v, rfl, ?_, R1, R2⟩
    unfold f_X7_undo
    rw [if_pos h0]
  · rw [if_neg h0]
    obtain ⟨b1, b2, b3, b4⟩ := h7 (σ 75 17 - 1) (by omega) (by omega)
    rw [show σ 75 17 - 1 + 1 = σ 75 17 by omega] at b2
    obtain ⟨τ, e1, rt, t2, t1⟩ := mv_back (n := n) (k := σ 75 17 - 1) (by omega) (by omega) (by omega) ⟨h4, h5⟩ r1 w w3 (mr_un_w b2 h6) b3
    have F1 := w_X0_takeBack e1
    have F1' : ∀ e : Nat, 44 ≤ e → τ e = σ e := fun e he => F1 e (by unfold nw_X0_takeBack; omega)
    rw [e1, am_b1_some, t2]
    have e75 : am_up τ 75 17 (σ 75 17 - 1) 75 17 = σ 75 17 - 1 := mv_up_eq
    obtain ⟨μ, e2, g1, g2⟩ := mv_copies (n := n) (p := 84) (q := 81) (pn := 1008) (qn := 42) (σ := am_up τ 75 17 (σ 75 17 - 1)) (a := 42 * (σ 75 17 - 1)) (b := 0) (by omega) (by decide) (by omega) (by omega) (by omega) (by omega) (by omega) (by omega)
    have F2 := w_X7_copies e2
    have F2' : ∀ e : Nat, e ≠ 81 → e ≠ 75 → μ e = τ e := fun e q1 q2 => by rw [F2 e (by unfold nw_X7_copies; omega), ah_up_ne _ _ _ q2]
    have m75 : μ 75 17 = σ 75 17 - 1 := by rw [F2 75 (by unfold nw_X7_copies; decide), e75]
    refine ⟨_, _, μ, P (σ 75 17 - 1), rfl, ?_, ?_, ?_⟩
    · unfold f_X7_undo
      rw [F1' 75 (by decide), if_neg h0, am_b1_some, am_w_id (z := σ 75 17 - 1) (by omega), e75, am_w_id (by omega), e2, am_b1_some, m75]
    · refine ⟨b3, b4, mv_TR_fr rt (F2' _ (by decide) (by decide)) (F2' _ (by decide) (by decide)) (F2' _ (by decide) (by decide)) (F2' _ (by decide) (by decide)) (F2' _ (by decide) (by decide)) (F2' _ (by decide) (by decide)), ?_⟩
      intro j j0 j1
      have := g1 j j0 j1
      rw [Int.zero_add] at this
      rw [this, ah_up_ne _ _ _ (by decide), F1' 84 (by decide), b1 j j0 j1]
    · refine ⟨?_, by omega, by omega, ?_, ?_, P, ?_, ?_⟩
      · rw [F2' 43 (by decide) (by decide), t2, m75]
      · rw [F2' 43 (by decide) (by decide), t1]; exact h4
      · rw [F2' 43 (by decide) (by decide), t1]; exact h5
      · intro j j0 j1
        rw [m75]
      · intro i i0 i1
        rw [m75] at i1
        obtain ⟨c1, c2, c3, c4⟩ := h7 i i0 (by omega)
        have hm := mv_tm (z := σ 43 1 + i) (by omega)
        refine ⟨?_, ?_, c3, c4⟩
        · unfold mv_VR
          rw [F2' 84 (by decide) (by decide), F1' 84 (by decide)]
          exact c1
        · rw [F2' 43 (by decide) (by decide), t1]
          refine mr_un_fr c2 ?_
          rw [F2' _ (by omega) (by omega), F1' _ (by omega)]
theorem ma_image {n : Nat} {σ : am_Mem} {v : Int → Int} {p1 : Int} (hn : 10000000000 ≤ n) (R1 : mr_town σ v) (R : mr_img σ) : ∃ r σ1 σ2, f_X6_image n p1 σ = some (r, σ1) ∧ f_X7_image n p1 σ1 = some (r, σ2) ∧ mr_img σ2 := by
  obtain ⟨w, w3, r1, r2⟩ := R1
  have w1 := w.1
  unfold f_X6_image
  by_cases h : 0 ≤ p1 ∧ p1 < 2
  · rw [if_neg (by omega), if_pos h.2, mv_stands r1, am_b2_some]
    by_cases ht : 0 < v 6
    · rw [if_pos ht, if_neg (by decide), if_pos h]
      obtain ⟨τ, e1, rt⟩ := mv_become (n := n) (t := 31 + 6 * p1.toNat) (u := 18) (by omega) r1 w
      have F1 := w_X5_become e1
      have F1' : ∀ e : Nat, (e < 31 + 6 * p1.toNat ∨ 37 + 6 * p1.toNat ≤ e) → τ e = σ e := fun e he => F1 e (by unfold nw_X5_become; omega)
      have r2' : mv_V0 τ 81 v := by
        unfold mv_V0
        rw [F1' 81 (by omega)]
        exact r2
      obtain ⟨μ, e2, g1, g2⟩ := mv_copies (n := n) (p := 81) (q := 85) (pn := 42) (qn := 84) (σ := τ) (a := 0) (b := 42 * p1) (by omega) (by decide) (by omega) (by omega) (by omega) (by omega) (by omega) (by omega)
      have F2 := w_X7_copies e2
      have F2' : ∀ e : Nat, e ≠ 85 → μ e = τ e := fun e q1 => F2 e (by unfold nw_X7_copies; omega)
      rw [e1, am_b1_some]
      refine ⟨_, _, am_up μ 86 p1 1, rfl, ?_, ?_⟩
      · unfold f_X7_image
        rw [mv_in, am_b2_some, if_pos (show 0 ≤ p1 ∧ p1 ≤ 1 by omega), if_neg (by decide), mv_misT r2' w, am_b2_some, if_pos ht, if_neg (by decide), am_w_id (by omega), e2, am_b1_some, if_pos h, am_b1_some]
      · intro k k0 k1
        have G : ∀ e : Nat, e ≠ 85 → e ≠ 86 → am_up μ 86 p1 1 e = τ e := fun e q1 q2 => by rw [ah_up_ne _ _ _ q2, F2' e q1]
        by_cases hk : k = p1
        · subst hk
          refine Or.inr ⟨mv_up_eq, v, w, ht, w3, mv_TR_fr rt (G _ (by omega) (by omega)) (G _ (by omega) (by omega)) (G _ (by omega) (by omega)) (G _ (by omega) (by omega)) (G _ (by omega) (by omega)) (G _ (by omega) (by omega)), ?_⟩
          intro j j0 j1
          rw [ah_up_ne _ _ _ (by decide), g1 j j0 j1, Int.zero_add]
          exact r2' j j0 j1
        · have G2 : ∀ e : Nat, 31 + 6 * k.toNat ≤ e → e ≤ 36 + 6 * k.toNat → am_up μ 86 p1 1 e = σ e := fun e q1 q2 => by rw [G e (by omega) (by omega), F1' e (by omega)]
          rw [G2 (31 + 6 * k.toNat) (by omega) (by omega), mv_up_j hk, F2' 86 (by decide), F1' 86 (by omega)]
          rcases R k k0 k1 with q | ⟨q1, u, q2, q3, q4, q5, q6⟩
          · exact Or.inl q
          · refine Or.inr ⟨q1, u, q2, q3, q4, mv_TR_fr q5 (G2 _ (by omega) (by omega)) (G2 _ (by omega) (by omega)) (G2 _ (by omega) (by omega)) (G2 _ (by omega) (by omega)) (G2 _ (by omega) (by omega)) (G2 _ (by omega) (by omega)), ?_⟩
            intro j j0 j1
            rw [ah_up_ne _ _ _ (by decide), g2 _ (by omega), F1' 85 (by omega)]
            exact q6 j j0 j1
    · rw [if_neg ht, if_pos rfl]
      refine ⟨_, _, σ, rfl, ?_, R⟩
      unfold f_X7_image
      rw [mv_in, am_b2_some, if_pos (show 0 ≤ p1 ∧ p1 ≤ 1 by omega), if_neg (by decide), mv_misT r2 w, am_b2_some, if_neg ht, if_pos rfl]
  · refine ⟨-1000001, σ, σ, ?_, ?_, R⟩
    · by_cases h3 : p1 < 0
      · rw [if_pos h3]
      · rw [if_neg h3, if_neg (by omega)]
    · unfold f_X7_image
      rw [mv_in, am_b2_some, if_neg (show ¬ (0 ≤ p1 ∧ p1 ≤ 1) by omega), if_pos rfl]
theorem ma_restore {n : Nat} {σ : am_Mem} {v : Int → Int} {p1 : Int} (hn : 10000000000 ≤ n) (R1 : mr_town σ v) (R2 : mr_acts σ v) (R : mr_img σ) : ∃ r σ1 σ2 v', f_X6_restore n p1 σ = some (r, σ1) ∧ f_X7_restore n p1 σ1 = some (r, σ2) ∧ mr_town σ2 v' ∧ mr_acts σ2 v' := by
  unfold f_X6_restore
  by_cases h : 0 ≤ p1 ∧ p1 < 2
  · rw [if_neg (by omega), if_pos h.2, if_pos h]
    rcases R p1 h.1 h.2 with ⟨q1, q2⟩ | ⟨q1, u, w, ut, u3, r1, r2⟩
    · unfold f_X5_stands
      rw [q2, if_pos (by decide), am_b2_some, if_pos rfl]
      refine ⟨_, _, σ, v, rfl, ?_, R1, R2⟩
      unfold f_X7_restore
      rw [mv_in, am_b2_some, if_pos (show 0 ≤ p1 ∧ p1 ≤ 1 by omega), if_neg (by decide), if_pos h, if_pos q1]
    · rw [mv_stands r1, am_b2_some, if_pos ut, if_neg (by decide)]
      obtain ⟨τ, e1, rt⟩ := mv_become (n := n) (t := 18) (u := 31 + 6 * p1.toNat) (by omega) r1 w
      have F1 := w_X5_become e1
      have F1' : ∀ e : Nat, (e < 18 ∨ 24 ≤ e) → τ e = σ e := fun e he => F1 e (by unfold nw_X5_become; omega)
      have e0 : f_X0_forget n τ = some (am_up (am_up τ 43 1 0) 43 2 0) := rfl
      rw [e1, am_b1_some, e0, am_b1_some]
      have G1 : ∀ e : Nat, e ≠ 43 → am_up (am_up τ 43 1 0) 43 2 0 e = τ e := fun e he => by rw [ah_up_ne _ _ _ he, ah_up_ne _ _ _ he]
      have o1 : am_up (am_up τ 43 1 0) 43 2 0 43 1 = 0 := by rw [mv_up_j (by decide), mv_up_eq]
      have o2 : am_up (am_up τ 43 1 0) 43 2 0 43 2 = 0 := mv_up_eq
      generalize am_up (am_up τ 43 1 0) 43 2 0 = τ2 at G1 o1 o2 ⊢
      obtain ⟨μ, e2, g1, g2⟩ := mv_copies (n := n) (p := 85) (q := 81) (pn := 84) (qn := 42) (σ := τ2) (a := 42 * p1) (b := 0) (by omega) (by decide) (by omega) (by omega) (by omega) (by omega) (by omega) (by omega)
      have F2 := w_X7_copies e2
      have F2' : ∀ e : Nat, e ≠ 81 → μ e = τ2 e := fun e q1 => F2 e (by unfold nw_X7_copies; omega)
      have G : ∀ e : Nat, e ≠ 81 → e ≠ 75 → e ≠ 43 → am_up μ 75 17 0 e = τ e := fun e q1 q2 q3 => by rw [ah_up_ne _ _ _ q2, F2' e q1, G1 e q3]
      refine ⟨_, _, am_up μ 75 17 0, u, rfl, ?_, ?_, ?_⟩
      · unfold f_X7_restore
        rw [mv_in, am_b2_some, if_pos (show 0 ≤ p1 ∧ p1 ≤ 1 by omega), if_neg (by decide), if_pos h, G1 86 (by decide), F1' 86 (by omega), q1, if_neg (by decide), am_w_id (by omega), e2, am_b1_some, am_b1_some]
      · refine ⟨w, u3, mv_TR_fr rt (G _ (by decide) (by decide) (by decide)) (G _ (by decide) (by decide) (by decide)) (G _ (by decide) (by decide) (by decide)) (G _ (by decide) (by decide) (by decide)) (G _ (by decide) (by decide) (by decide)) (G _ (by decide) (by decide) (by decide)), ?_⟩
        intro j j0 j1
        have := g1 j j0 j1
        rw [Int.zero_add] at this
        rw [ah_up_ne _ _ _ (by decide), this, G1 85 (by decide), F1' 85 (by omega)]
        exact r2 j j0 j1
      · have c1 : am_up μ 75 17 0 75 17 = 0 := mv_up_eq
        have c2 : am_up μ 75 17 0 43 2 = 0 := by rw [ah_up_ne _ _ _ (by decide), F2' 43 (by decide), o2]
        have c3 : am_up μ 75 17 0 43 1 = 0 := by rw [ah_up_ne _ _ _ (by decide), F2' 43 (by decide), o1]
        refine ⟨by rw [c1, c2], by rw [c1]; decide, by rw [c1]; decide, by rw [c3]; decide, by rw [c3]; decide, fun _ => u, fun _ _ _ => rfl, ?_⟩
        intro i i0 i1
        rw [c1] at i1
        omega
  · refine ⟨-1000001, σ, σ, v, ?_, ?_, R1, R2⟩
    · by_cases h3 : p1 < 0
      · rw [if_pos h3]
      · rw [if_neg h3, if_neg (by omega)]
    · unfold f_X7_restore
      rw [mv_in, am_b2_some, if_neg (show ¬ (0 ≤ p1 ∧ p1 ≤ 1) by omega), if_pos rfl]
