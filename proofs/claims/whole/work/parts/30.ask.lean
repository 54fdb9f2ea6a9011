/-! as, ask -/
theorem mv_ofKind {n : Nat} {σ : am_Mem} {kd p : Int} (hk : 1 ≤ kd ∧ kd ≤ 5) (hp : 0 ≤ p ∧ p ≤ 5) : f_X6_isOfKind n kd p σ = some (if p = 0 ∨ p = kd ∨ (p = 1 ∧ kd < 4) ∨ (p = 4 ∧ kd = 5) then 1 else 0, σ) := by
  unfold f_X6_isOfKind
  repeat' split
  all_goals first | rfl | omega
theorem ma_as {n : Nat} {σ : am_Mem} {v : Int → Int} {p1 p2 : Int} (R1 : mr_town σ v) (R2 : mr_st σ) : ∃ r σ1 σ2, f_X6_as n p1 p2 σ = some (r, σ1) ∧ f_X7_as n p1 p2 σ1 = some (r, σ2) ∧ mr_st σ2 := by
  obtain ⟨w, w3, r1, r2⟩ := R1
  have w1 := w.1
  unfold f_X6_as
  rw [mv_hasC r1, am_b2_some]
  by_cases h : 0 ≤ p1 ∧ p1 < v 6
  · rw [if_pos h, if_neg (by decide)]
    by_cases h2 : 0 ≤ p2 ∧ p2 ≤ 5
    · have q : σ 19 p1 = v (7 + 3 * p1) := (r1.2.1 p1 h.1 h.2).1
      have wk := w.2.2.2.2.1 p1 h.1 h.2
      rw [if_neg (show ¬ p2 < 0 by omega), if_pos h2.2, if_pos (show (0 : Int) ≤ p1 ∧ p1 < 6 by omega), q, mv_ofKind ⟨wk.1, wk.2.1⟩ h2, am_b2_some]
      have M : ∀ z : Int, f_X7_as n p1 p2 (am_up σ 3 8 z) = (if p2 = 0 ∨ p2 = v (7 + 3 * p1) ∨ (p2 = 1 ∧ v (7 + 3 * p1) < 4) ∨ (p2 = 4 ∧ v (7 + 3 * p1) = 5) then some (p1, am_up (am_up σ 3 8 z) 75 4 0) else some (am_w (-1000010 - 3), am_up (am_up σ 3 8 z) 75 4 3)) := by
        intro z
        have r2' : mv_V0 (am_up σ 3 8 z) 81 v := by
          unfold mv_V0
          rw [ah_up_ne _ _ _ (by decide)]
          exact r2
        unfold f_X7_as fb_X7_as_45
        rw [mv_misC r2' w, am_b2_some, if_pos h, if_neg (by decide), mv_in, am_b2_some, if_pos h2, if_neg (by decide), mv_kindIn r2' w h, am_b2_some]
        simp only [mv_we7, mv_fd7, am_b2_some]
        repeat' split
        all_goals first | rfl | omega
      by_cases hh : p2 = 0 ∨ p2 = v (7 + 3 * p1) ∨ (p2 = 1 ∧ v (7 + 3 * p1) < 4) ∨ (p2 = 4 ∧ v (7 + 3 * p1) = 5)
      · rw [if_pos hh, if_neg (by decide), mv_un6, am_b2_some]
        refine ⟨_, _, am_up (am_up σ 3 8 0) 75 4 0, rfl, ?_, mr_st_up mv_up_eq⟩
        rw [M, if_pos hh]
      · rw [if_neg hh, if_pos rfl, mv_fd6, am_b2_some]
        refine ⟨_, _, am_up (am_up σ 3 8 3) 75 4 3, rfl, ?_, mr_st_up mv_up_eq⟩
        rw [M, if_neg hh]
    · refine ⟨-1000001, σ, σ, ?_, ?_, R2⟩
      · by_cases h3 : p2 < 0
        · rw [if_pos h3]
        · rw [if_neg h3, if_neg (show ¬ p2 ≤ 5 by omega)]
      · unfold f_X7_as
        rw [mv_misC r2 w, am_b2_some, if_pos h, if_neg (by decide), mv_in, am_b2_some, if_neg h2, if_pos rfl]
  · rw [if_neg h, if_pos rfl]
    refine ⟨_, _, σ, rfl, ?_, R2⟩
    unfold f_X7_as
    rw [mv_misC r2 w, am_b2_some, if_neg h, if_pos rfl]
def mk_l6 (σ : am_Mem) (L : List Int) : Prop := σ 73 1 = (L.length : Int) ∧ ∀ i : Nat, i < L.length → σ 74 (i : Int) = L.getD i 0
def mk_l7 (σ : am_Mem) (L : List Int) : Prop := σ 75 31 = (L.length : Int) ∧ ∀ i : Nat, i < L.length → σ 93 (i : Int) = L.getD i 0
theorem mk_app {L : List Int} {b : Int} {i : Nat} (h : i < L.length) : (L ++ [b]).getD i 0 = L.getD i 0 := by
  rw [List.getD_eq_getElem?_getD, List.getD_eq_getElem?_getD, List.getElem?_append_left h]
theorem mk_app2 {L : List Int} {b : Int} : (L ++ [b]).getD L.length 0 = b := by
  rw [List.getD_eq_getElem?_getD, List.getElem?_append_right (Nat.le_refl _)]
  simp
theorem mk_leave6 {n : Nat} {σ : am_Mem} {L : List Int} {b : Int} (h : mk_l6 σ L) (hl : L.length < 16) : ∃ σ', f_X1_leave n b σ = some σ' ∧ mk_l6 σ' (L ++ [b]) ∧ ∀ a : Nat, a ≠ 73 → a ≠ 74 → σ' a = σ a := by
  unfold f_X1_leave
  rw [h.1, if_pos (by omega), if_pos (by omega), am_b1_some, am_b1_some, ah_up_ne _ _ _ (show 73 ≠ 74 by decide), h.1, am_w_id (by omega)]
  refine ⟨_, rfl, ⟨?_, ?_⟩, ?_⟩
  · rw [mv_up_eq, List.length_append]; rfl
  · intro i hi
    rw [List.length_append] at hi
    have hi : i < L.length + 1 := hi
    rw [ah_up_ne _ _ _ (by decide)]
    by_cases hh : i = L.length
    · subst hh
      rw [mv_up_eq, mk_app2]
    · rw [mv_up_j (by omega), mk_app (by omega)]
      exact h.2 i (by omega)
  · intro a h1 h2
    rw [ah_up_ne _ _ _ h1, ah_up_ne _ _ _ h2]
theorem mk_leave7 {n : Nat} {σ : am_Mem} {L : List Int} {b : Int} (h : mk_l7 σ L) (hl : L.length < 16) : ∃ σ', f_X7_leaves n b σ = some σ' ∧ mk_l7 σ' (L ++ [b]) ∧ ∀ a : Nat, a ≠ 75 → a ≠ 93 → σ' a = σ a := by
  unfold f_X7_leaves
  rw [h.1, if_pos (by omega), if_pos (by omega), am_b1_some, am_b1_some, ah_up_ne _ _ _ (show 75 ≠ 93 by decide), h.1, am_w_id (by omega)]
  refine ⟨_, rfl, ⟨?_, ?_⟩, ?_⟩
  · rw [mv_up_eq, List.length_append]; rfl
  · intro i hi
    rw [List.length_append] at hi
    have hi : i < L.length + 1 := hi
    rw [ah_up_ne _ _ _ (by decide)]
    by_cases hh : i = L.length
    · subst hh
      rw [mv_up_eq, mk_app2]
    · rw [mv_up_j (by omega), mk_app (by omega)]
      exact h.2 i (by omega)
  · intro a h1 h2
    rw [ah_up_ne _ _ _ h1, ah_up_ne _ _ _ h2]
def mk_C (σ : am_Mem) (p kd mu fe sb mb : Int) : Prop := (0 ≤ p ∧ p < 6) ∧ (1 ≤ kd ∧ kd ≤ 5) ∧ (σ 19 p = kd ∧ σ 20 p = mu ∧ σ 21 p = fe) ∧ (σ 1 kd = sb ∧ σ 2 kd = mb) ∧ (0 ≤ mu ∧ mu ≤ 9) ∧ (0 ≤ fe ∧ fe ≤ 9)
theorem mk_C_fr {σ τ : am_Mem} {p kd mu fe sb mb : Int} (h : mk_C σ p kd mu fe sb mb) (e : ∀ a : Nat, a ≠ 73 → a ≠ 74 → τ a = σ a) : mk_C τ p kd mu fe sb mb := by
  unfold mk_C
  rw [e 19 (by decide) (by decide), e 20 (by decide) (by decide), e 21 (by decide) (by decide), e 1 (by decide) (by decide), e 2 (by decide) (by decide)]
  exact h
/-- the body b gives the value z and leaves M -/
def mk_S (n : Nat) (p kd mu fe sb mb b : Int) (k : Nat) (z : Int) (M : List Int) : Prop := ∀ (r : Nat) (d : Int) (σ : am_Mem) (L : List Int), k ≤ r → 0 ≤ d → d + k ≤ 16 → L.length + M.length ≤ 16 → mk_C σ p kd mu fe sb mb → mk_l6 σ L → ∃ σ', f_X1_gives n r b 18 p d σ = some (z, σ') ∧ mk_l6 σ' (L ++ M) ∧ ∀ a : Nat, a ≠ 73 → a ≠ 74 → σ' a = σ a
theorem mk_10 {n : Nat} {p kd mu fe sb mb : Int} : mk_S n p kd mu fe sb mb 10 1 fe [10] := by
  intro r d σ L hr d0 d1 hl C hL
  have d1 : d + 1 ≤ 16 := d1
  have hl : L.length + 1 ≤ 16 := hl
  obtain ⟨r, rfl⟩ : ∃ k, r = k + 1 := ⟨r - 1, by omega⟩
  obtain ⟨σ1, e1, l1, f1⟩ := mk_leave6 (n := n) (b := 10) hL (by omega)
  have C1 := mk_C_fr C f1
  refine ⟨σ1, ?_, l1, f1⟩
  show fe_X1_gives _ n 10 18 p d σ = _
  unfold fe_X1_gives
  rw [if_pos (show d < 16 by omega), e1, am_b1_some, if_pos C.1]
  simp only [Int.reduceEq, reduceIte]
  rw [C1.2.2.1.2.2]
theorem mk_20 {n : Nat} {p kd mu fe sb mb : Int} : mk_S n p kd mu fe sb mb 20 1 p [20] := by
  intro r d σ L hr d0 d1 hl C hL
  have d1 : d + 1 ≤ 16 := d1
  have hl : L.length + 1 ≤ 16 := hl
  obtain ⟨r, rfl⟩ : ∃ k, r = k + 1 := ⟨r - 1, by omega⟩
  obtain ⟨σ1, e1, l1, f1⟩ := mk_leave6 (n := n) (b := 20) hL (by omega)
  have C1 := mk_C_fr C f1
  refine ⟨σ1, ?_, l1, f1⟩
  show fe_X1_gives _ n 20 18 p d σ = _
  unfold fe_X1_gives
  rw [if_pos (show d < 16 by omega), e1, am_b1_some, if_pos C.1]
  simp only [Int.reduceEq, reduceIte]
theorem mk_21 {n : Nat} {p kd mu fe sb mb : Int} : mk_S n p kd mu fe sb mb 21 2 (p + mu) [21, 20] := by
  intro r d σ L hr d0 d1 hl C hL
  have d1 : d + 2 ≤ 16 := d1
  have hl : L.length + 2 ≤ 16 := hl
  obtain ⟨r, rfl⟩ : ∃ k, r = k + 1 := ⟨r - 1, by omega⟩
  obtain ⟨σ1, e1, l1, f1⟩ := mk_leave6 (n := n) (b := 21) hL (by omega)
  have C1 := mk_C_fr C f1
  obtain ⟨σ2, e2, l2, f2⟩ := mk_20 (n := n) (p := p) (kd := kd) (mu := mu) (fe := fe) (sb := sb) (mb := mb) r (d + 1) σ1 (L ++ [21]) (by omega) (by omega) (by omega) (by rw [List.length_append]; show L.length + 1 + 1 ≤ 16; omega) C1 l1
  have C2 := mk_C_fr C1 f2
  obtain ⟨⟨c1, c2⟩, _, ⟨c3, c4, c5⟩, _, ⟨c6, c7⟩, c8, c9⟩ := C2
  refine ⟨σ2, ?_, by rw [List.append_assoc] at l2; exact l2, fun a h1 h2 => by rw [f2 a h1 h2, f1 a h1 h2]⟩
  show fe_X1_gives _ n 21 18 p d σ = _
  unfold fe_X1_gives
  rw [if_pos (show d < 16 by omega), e1, am_b1_some, if_pos C.1]
  simp only [Int.reduceEq, reduceIte]
  rw [am_w_id (z := d + 1) (by omega), e2, am_b2_some]
  rw [c4, am_w_id (by omega)]
theorem mk_22 {n : Nat} {p kd mu fe sb mb : Int} : mk_S n p kd mu fe sb mb 22 3 (p + mu - 1000) [22, 21, 20] := by
  intro r d σ L hr d0 d1 hl C hL
  have d1 : d + 3 ≤ 16 := d1
  have hl : L.length + 3 ≤ 16 := hl
  obtain ⟨r, rfl⟩ : ∃ k, r = k + 1 := ⟨r - 1, by omega⟩
  obtain ⟨σ1, e1, l1, f1⟩ := mk_leave6 (n := n) (b := 22) hL (by omega)
  have C1 := mk_C_fr C f1
  obtain ⟨σ2, e2, l2, f2⟩ := mk_21 (n := n) (p := p) (kd := kd) (mu := mu) (fe := fe) (sb := sb) (mb := mb) r (d + 1) σ1 (L ++ [22]) (by omega) (by omega) (by omega) (by rw [List.length_append]; show L.length + 1 + 2 ≤ 16; omega) C1 l1
  have C2 := mk_C_fr C1 f2
  obtain ⟨⟨c1, c2⟩, _, ⟨c3, c4, c5⟩, _, ⟨c6, c7⟩, c8, c9⟩ := C2
  refine ⟨σ2, ?_, by rw [List.append_assoc] at l2; exact l2, fun a h1 h2 => by rw [f2 a h1 h2, f1 a h1 h2]⟩
  show fe_X1_gives _ n 22 18 p d σ = _
  unfold fe_X1_gives
  rw [if_pos (show d < 16 by omega), e1, am_b1_some, if_pos C.1]
  simp only [Int.reduceEq, reduceIte]
  rw [am_w_id (z := d + 1) (by omega), e2, am_b2_some]
  rw [am_w_id (by omega)]
theorem mk_24 {n : Nat} {p kd mu fe sb mb : Int} : mk_S n p kd mu fe sb mb 24 3 (2 * (p + mu)) [24, 21, 20] := by
  intro r d σ L hr d0 d1 hl C hL
  have d1 : d + 3 ≤ 16 := d1
  have hl : L.length + 3 ≤ 16 := hl
  obtain ⟨r, rfl⟩ : ∃ k, r = k + 1 := ⟨r - 1, by omega⟩
  obtain ⟨σ1, e1, l1, f1⟩ := mk_leave6 (n := n) (b := 24) hL (by omega)
  have C1 := mk_C_fr C f1
  obtain ⟨σ2, e2, l2, f2⟩ := mk_21 (n := n) (p := p) (kd := kd) (mu := mu) (fe := fe) (sb := sb) (mb := mb) r (d + 1) σ1 (L ++ [24]) (by omega) (by omega) (by omega) (by rw [List.length_append]; show L.length + 1 + 2 ≤ 16; omega) C1 l1
  have C2 := mk_C_fr C1 f2
  obtain ⟨⟨c1, c2⟩, _, ⟨c3, c4, c5⟩, _, ⟨c6, c7⟩, c8, c9⟩ := C2
  refine ⟨σ2, ?_, by rw [List.append_assoc] at l2; exact l2, fun a h1 h2 => by rw [f2 a h1 h2, f1 a h1 h2]⟩
  show fe_X1_gives _ n 24 18 p d σ = _
  unfold fe_X1_gives
  rw [if_pos (show d < 16 by omega), e1, am_b1_some, if_pos C.1]
  simp only [Int.reduceEq, reduceIte]
  rw [am_w_id (z := d + 1) (by omega), e2, am_b2_some]
  rw [am_w_id (by omega)]
theorem mk_13 {n : Nat} {p kd mu fe sb mb : Int} : mk_S n p kd mu fe sb mb 13 2 (fe - 100) [13, 10] := by
  intro r d σ L hr d0 d1 hl C hL
  have d1 : d + 2 ≤ 16 := d1
  have hl : L.length + 2 ≤ 16 := hl
  obtain ⟨r, rfl⟩ : ∃ k, r = k + 1 := ⟨r - 1, by omega⟩
  obtain ⟨σ1, e1, l1, f1⟩ := mk_leave6 (n := n) (b := 13) hL (by omega)
  have C1 := mk_C_fr C f1
  obtain ⟨σ2, e2, l2, f2⟩ := mk_10 (n := n) (p := p) (kd := kd) (mu := mu) (fe := fe) (sb := sb) (mb := mb) r (d + 1) σ1 (L ++ [13]) (by omega) (by omega) (by omega) (by rw [List.length_append]; show L.length + 1 + 1 ≤ 16; omega) C1 l1
  have C2 := mk_C_fr C1 f2
  obtain ⟨⟨c1, c2⟩, _, ⟨c3, c4, c5⟩, _, ⟨c6, c7⟩, c8, c9⟩ := C2
  refine ⟨σ2, ?_, by rw [List.append_assoc] at l2; exact l2, fun a h1 h2 => by rw [f2 a h1 h2, f1 a h1 h2]⟩
  show fe_X1_gives _ n 13 18 p d σ = _
  unfold fe_X1_gives
  rw [if_pos (show d < 16 by omega), e1, am_b1_some, if_pos C.1]
  simp only [Int.reduceEq, reduceIte]
  rw [am_w_id (z := d + 1) (by omega), e2, am_b2_some]
  rw [am_w_id (by omega)]
theorem mk_14 {n : Nat} {p kd mu fe sb mb : Int} : mk_S n p kd mu fe sb mb 14 3 (2 * (fe - 100)) [14, 13, 10] := by
  intro r d σ L hr d0 d1 hl C hL
  have d1 : d + 3 ≤ 16 := d1
  have hl : L.length + 3 ≤ 16 := hl
  obtain ⟨r, rfl⟩ : ∃ k, r = k + 1 := ⟨r - 1, by omega⟩
  obtain ⟨σ1, e1, l1, f1⟩ := mk_leave6 (n := n) (b := 14) hL (by omega)
  have C1 := mk_C_fr C f1
  obtain ⟨σ2, e2, l2, f2⟩ := mk_13 (n := n) (p := p) (kd := kd) (mu := mu) (fe := fe) (sb := sb) (mb := mb) r (d + 1) σ1 (L ++ [14]) (by omega) (by omega) (by omega) (by rw [List.length_append]; show L.length + 1 + 2 ≤ 16; omega) C1 l1
  have C2 := mk_C_fr C1 f2
  obtain ⟨⟨c1, c2⟩, _, ⟨c3, c4, c5⟩, _, ⟨c6, c7⟩, c8, c9⟩ := C2
  refine ⟨σ2, ?_, by rw [List.append_assoc] at l2; exact l2, fun a h1 h2 => by rw [f2 a h1 h2, f1 a h1 h2]⟩
  show fe_X1_gives _ n 14 18 p d σ = _
  unfold fe_X1_gives
  rw [if_pos (show d < 16 by omega), e1, am_b1_some, if_pos C.1]
  simp only [Int.reduceEq, reduceIte]
  rw [am_w_id (z := d + 1) (by omega), e2, am_b2_some]
  rw [am_w_id (by omega)]
theorem mk_11 {n : Nat} {p kd mu fe sb mb z : Int} {k : Nat} {M : List Int} (H : mk_S n p kd mu fe sb mb mb k z M) (hk : 1 ≤ k) (hz : -2000 ≤ z ∧ z ≤ 2000) : mk_S n p kd mu fe sb mb 11 (k + 1) (fe + z) ([11, 10] ++ M) := by
  intro r d σ L hr d0 d1 hl C hL
  have d1 : d + ((k + 1 : Nat) : Int) ≤ 16 := d1
  have hl : L.length + ([11, 10] ++ M).length ≤ 16 := hl
  rw [List.length_append] at hl
  have hl : L.length + (2 + M.length) ≤ 16 := hl
  obtain ⟨r, rfl⟩ : ∃ k, r = k + 1 := ⟨r - 1, by omega⟩
  obtain ⟨σ1, e1, l1, f1⟩ := mk_leave6 (n := n) (b := 11) hL (by omega)
  have C1 := mk_C_fr C f1
  obtain ⟨σ2, e2, l2, f2⟩ := mk_10 (n := n) (p := p) (kd := kd) (mu := mu) (fe := fe) (sb := sb) (mb := mb) r (d + 1) σ1 (L ++ [11]) (by omega) (by omega) (by omega) (by rw [List.length_append]; show L.length + 1 + 1 ≤ 16; omega) C1 l1
  have C2 := mk_C_fr C1 f2
  obtain ⟨σ3, e3, l3, f3⟩ := H r (d + 1) σ2 (L ++ [11] ++ [10]) (by omega) (by omega) (by omega) (by rw [List.length_append, List.length_append]; show L.length + 1 + 1 + M.length ≤ 16; omega) C2 l2
  refine ⟨σ3, ?_, by rw [List.append_assoc, List.append_assoc] at l3; exact l3, fun a h1 h2 => by rw [f3 a h1 h2, f2 a h1 h2, f1 a h1 h2]⟩
  obtain ⟨⟨c1, c2⟩, ⟨ck1, ck2⟩, ⟨c3, c4, c5⟩, ⟨cs, cm⟩, ⟨c6, c7⟩, c8, c9⟩ := C2
  have k1 := C1.2.2.1.1
  show fe_X1_gives _ n 11 18 p d σ = _
  unfold fe_X1_gives
  rw [if_pos (show d < 16 by omega), e1, am_b1_some, if_pos C.1]
  simp only [Int.reduceEq, reduceIte]
  rw [am_w_id (z := d + 1) (by omega), e2, am_b2_some, k1, if_pos (show (0 : Int) ≤ kd ∧ kd < 6 by omega), cm, e3, am_b2_some, am_w_id (by omega)]
theorem mk_12 {n : Nat} {p kd mu fe sb mb z : Int} {k : Nat} {M : List Int} (H : mk_S n p kd mu fe sb mb mb k z M) (hk : 1 ≤ k) (hz : -2000 ≤ z ∧ z ≤ 2000) : mk_S n p kd mu fe sb mb 12 (k + 2) (-(fe + z)) ([12, 11, 10] ++ M) := by
  intro r d σ L hr d0 d1 hl C hL
  have d1 : d + ((k + 2 : Nat) : Int) ≤ 16 := d1
  have hl : L.length + ([12, 11, 10] ++ M).length ≤ 16 := hl
  rw [List.length_append] at hl
  have hl : L.length + (3 + M.length) ≤ 16 := hl
  obtain ⟨r, rfl⟩ : ∃ k, r = k + 1 := ⟨r - 1, by omega⟩
  obtain ⟨σ1, e1, l1, f1⟩ := mk_leave6 (n := n) (b := 12) hL (by omega)
  have C1 := mk_C_fr C f1
  obtain ⟨σ2, e2, l2, f2⟩ := mk_11 H hk hz r (d + 1) σ1 (L ++ [12]) (by omega) (by omega) (by omega) (by rw [List.length_append, List.length_append]; show L.length + 1 + (2 + M.length) ≤ 16; omega) C1 l1
  refine ⟨σ2, ?_, by rw [List.append_assoc] at l2; exact l2, fun a h1 h2 => by rw [f2 a h1 h2, f1 a h1 h2]⟩
  have c9 := C1.2.2.2.2.2
  show fe_X1_gives _ n 12 18 p d σ = _
  unfold fe_X1_gives
  rw [if_pos (show d < 16 by omega), e1, am_b1_some, if_pos C.1]
  simp only [Int.reduceEq, reduceIte]
  rw [am_w_id (z := d + 1) (by omega), e2, am_b2_some, am_w_id (by omega)]
theorem mk_23 {n : Nat} {p kd mu fe sb mb z : Int} {k : Nat} {M : List Int} (H : mk_S n p kd mu fe sb mb sb k z M) (hk : 1 ≤ k) (hz : -2000 ≤ z ∧ z ≤ 2000) : mk_S n p kd mu fe sb mb 23 (k + 1) (p - z) ([23, 20] ++ M) := by
  intro r d σ L hr d0 d1 hl C hL
  have d1 : d + ((k + 1 : Nat) : Int) ≤ 16 := d1
  have hl : L.length + ([23, 20] ++ M).length ≤ 16 := hl
  rw [List.length_append] at hl
  have hl : L.length + (2 + M.length) ≤ 16 := hl
  obtain ⟨r, rfl⟩ : ∃ k, r = k + 1 := ⟨r - 1, by omega⟩
  obtain ⟨σ1, e1, l1, f1⟩ := mk_leave6 (n := n) (b := 23) hL (by omega)
  have C1 := mk_C_fr C f1
  obtain ⟨σ2, e2, l2, f2⟩ := mk_20 (n := n) (p := p) (kd := kd) (mu := mu) (fe := fe) (sb := sb) (mb := mb) r (d + 1) σ1 (L ++ [23]) (by omega) (by omega) (by omega) (by rw [List.length_append]; show L.length + 1 + 1 ≤ 16; omega) C1 l1
  have C2 := mk_C_fr C1 f2
  obtain ⟨σ3, e3, l3, f3⟩ := H r (d + 1) σ2 (L ++ [23] ++ [20]) (by omega) (by omega) (by omega) (by rw [List.length_append, List.length_append]; show L.length + 1 + 1 + M.length ≤ 16; omega) C2 l2
  refine ⟨σ3, ?_, by rw [List.append_assoc, List.append_assoc] at l3; exact l3, fun a h1 h2 => by rw [f3 a h1 h2, f2 a h1 h2, f1 a h1 h2]⟩
  obtain ⟨⟨c1, c2⟩, ⟨ck1, ck2⟩, ⟨c3, c4, c5⟩, ⟨cs, cm⟩, ⟨c6, c7⟩, c8, c9⟩ := C2
  have k1 := C1.2.2.1.1
  show fe_X1_gives _ n 23 18 p d σ = _
  unfold fe_X1_gives
  rw [if_pos (show d < 16 by omega), e1, am_b1_some, if_pos C.1]
  simp only [Int.reduceEq, reduceIte]
  rw [am_w_id (z := d + 1) (by omega), e2, am_b2_some, k1, if_pos (show (0 : Int) ≤ kd ∧ kd < 6 by omega), cs, e3, am_b2_some, am_w_id (by omega)]
