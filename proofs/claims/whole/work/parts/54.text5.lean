/-! the model's tokens -/
def mt_tk (T : Int → Int) (N i : Int) : Int := if mt_dg (mt_ch T N i) then (if mt_r T N i < 3 then 2 else 5) else if mt_ch T N i < 0 then 0 else if 97 ≤ mt_ch T N i ∧ mt_ch T N i ≤ 122 then 1 else if mt_ch T N i = 44 then 3 else if mt_ch T N i = 59 then 4 else 5
def mt_vl (T : Int → Int) (N i : Int) : Int := if mt_dg (mt_ch T N i) then mt_val T N i else mt_ch T N i
def mt_nx (T : Int → Int) (N i : Int) : Int := if mt_dg (mt_ch T N i) then i + mt_r T N i else if mt_ch T N i < 0 then i else i + 1
def mt_TK (T : Int → Int) (N : Int) (σ : am_Mem) (i : Int) : Prop := σ 75 10 = i ∧ σ 75 11 = mt_tk T N i ∧ σ 75 12 = mt_vl T N i ∧ (mt_tk T N i ≠ 5 → σ 75 9 = mt_nx T N i)
def mt_MT (T : Int → Int) (N : Int) (σ : am_Mem) : Prop := σ 75 6 = N ∧ ∀ k : Int, 0 ≤ k → k < N → σ 80 k = T k
theorem mt_MT_75 {T : Int → Int} {N : Int} {σ : am_Mem} {j z : Int} (h : mt_MT T N σ) (hj : j ≠ 6) : mt_MT T N (am_up σ 75 j z) := by
  unfold mt_MT
  rw [mv_up_j (Ne.symm hj), ah_up_ne _ _ _ (show (80 : Nat) ≠ 75 by decide)]
  exact h
theorem mt_byte {n : Nat} {T : Int → Int} {N i : Int} {σ : am_Mem} (hT : mt_TN T N) (h : mt_MT T N σ) (i0 : 0 ≤ i) : f_X7_byteAt n i σ = some (mt_ch T N i, σ) := by
  unfold f_X7_byteAt mt_ch
  rw [h.1]
  by_cases q : i < N
  · have := hT.2.1
    rw [if_pos q, if_pos q, if_pos (show (0 : Int) ≤ i ∧ i < 120 by omega), h.2 i i0 q]
  · rw [if_neg q, if_neg q]
theorem mt_m38 {n : Nat} {T : Int → Int} {N i a y : Int} {σ : am_Mem} (hT : mt_TN T N) (h : mt_MT T N σ) (ha : σ 75 9 = a) (hs : σ 75 10 = i) (hy : σ 75 12 = y) (i0 : 0 ≤ i) (ia : i ≤ a) (aN : a ≤ N) (y0 : 0 ≤ y) (y1 : y ≤ 99) (fu : Nat) : fl_X7_advances_38 n (fu + 1) σ = (if mt_dg (mt_ch T N a) then fl_X7_advances_38 n fu (am_up (am_up σ 75 12 (if a - i < 2 then 10 * y + (mt_ch T N a - 48) else y)) 75 9 (a + 1)) else some (am_up σ 75 11 (if a - i < 3 then 2 else 5))) := by
  have hN := hT.2.1
  show fb_X7_advances_38 n (fun σ => fl_X7_advances_38 n fu σ) σ = _
  unfold fb_X7_advances_38
  rw [ha, mt_byte hT h (by omega), am_b2_some, mv_in, am_b2_some]
  by_cases d : mt_dg (mt_ch T N a)
  · rw [if_pos d, if_neg (show ¬ (1 : Int) = 0 by decide), if_pos d, ha, hs, am_w_id (z := a - i) (by omega)]
    by_cases g : a - i < 2
    · rw [if_pos g, if_pos g, mt_byte hT h (by omega), am_b2_some, am_b1_some, mv_up_j (show (9 : Int) ≠ 12 by decide), ha, hy, am_w_id (z := 10 * y) (by omega), am_w_id (z := 10 * y + mt_ch T N a) (by omega), am_w_id (z := 10 * y + mt_ch T N a - 48) (by omega), am_w_id (z := a + 1) (by omega), am_b1_some, show 10 * y + mt_ch T N a - 48 = 10 * y + (mt_ch T N a - 48) by omega]
    · rw [if_neg g, if_neg g, am_b1_some, mv_up_j (show (9 : Int) ≠ 12 by decide), ha, hy, am_w_id (z := a + 1) (by omega), am_b1_some]
  · rw [if_neg d, if_pos rfl, if_neg d, ha, hs, am_w_id (z := a - i) (by omega)]
    by_cases g : a - i < 3
    · rw [if_pos g, if_pos g]
      rfl
    · rw [if_neg g, if_neg g]
      rfl
theorem mt_m38_tail {n : Nat} {T : Int → Int} {N i y : Int} (hT : mt_TN T N) (i0 : 0 ≤ i) (y0 : 0 ≤ y) (y1 : y ≤ 99) : ∀ (m fu : Nat) (a : Int) (σ : am_Mem), a + m = N → m < fu → i + 3 ≤ a → mt_MT T N σ → σ 75 9 = a → σ 75 10 = i → σ 75 12 = y → ∃ σ', fl_X7_advances_38 n fu σ = some σ' ∧ σ' 75 11 = 5 ∧ σ' 75 10 = i ∧ σ' 75 12 = y := by
  intro m
  induction m with
  | zero =>
    intro fu a σ am hf ia h ha hs hy
    obtain ⟨fu, rfl⟩ : ∃ q, fu = q + 1 := ⟨fu - 1, by omega⟩
    have d : ¬ mt_dg (mt_ch T N a) := fun d => by
      have := mt_ch_lt (T := T) (N := N) (i := a) (by have := d.1; omega)
      omega
    rw [mt_m38 hT h ha hs hy i0 (by omega) (by omega) y0 y1, if_neg d, if_neg (show ¬ a - i < 3 by omega)]
    refine ⟨_, rfl, mv_up_eq, ?_, ?_⟩
    · rw [mv_up_j (by decide)]; exact hs
    · rw [mv_up_j (by decide)]; exact hy
  | succ m ih =>
    intro fu a σ am hf ia h ha hs hy
    obtain ⟨fu, rfl⟩ : ∃ q, fu = q + 1 := ⟨fu - 1, by omega⟩
    rw [mt_m38 hT h ha hs hy i0 (by omega) (by omega) y0 y1]
    by_cases d : mt_dg (mt_ch T N a)
    · rw [if_pos d, if_neg (show ¬ a - i < 2 by omega)]
      refine ih fu (a + 1) _ (by omega) (by omega) (by omega) (mt_MT_75 (mt_MT_75 h (by decide)) (by decide)) mv_up_eq ?_ ?_
      · rw [mv_up_j (by decide), mv_up_j (by decide)]; exact hs
      · rw [mv_up_j (by decide), mv_up_eq]
    · rw [if_neg d, if_neg (show ¬ a - i < 3 by omega)]
      refine ⟨_, rfl, mv_up_eq, ?_, ?_⟩
      · rw [mv_up_j (by decide)]; exact hs
      · rw [mv_up_j (by decide)]; exact hy
theorem mt_mdig {n : Nat} {T : Int → Int} {N i : Int} {σ : am_Mem} (hT : mt_TN T N) (h : mt_MT T N σ) (h9 : σ 75 9 = i) (h10 : σ 75 10 = i) (h12 : σ 75 12 = 0) (i0 : 0 ≤ i) (iN : i ≤ N) (d : mt_dg (mt_ch T N i)) (k : Nat) (hk : 200 ≤ k) : ∃ σ', fl_X7_advances_38 n (k + 4) σ = some σ' ∧ mt_TK T N σ' i := by
  have hN := hT.2.1
  have y1 : 0 ≤ mt_ch T N i - 48 ∧ mt_ch T N i - 48 ≤ 9 := ⟨by have := d.1; omega, by have := d.2; omega⟩
  rw [mt_m38 hT h h9 h10 h12 i0 (by omega) iN (by omega) (by omega), if_pos d, if_pos (show i - i < 2 by omega), show 10 * 0 + (mt_ch T N i - 48) = mt_ch T N i - 48 by omega]
  have l0 := mt_ch_lt (T := T) (N := N) (i := i) (by omega)
  have g1 : mt_MT T N (am_up (am_up σ 75 12 (mt_ch T N i - 48)) 75 9 (i + 1)) := mt_MT_75 (mt_MT_75 h (by decide)) (by decide)
  have g10 : (am_up (am_up σ 75 12 (mt_ch T N i - 48)) 75 9 (i + 1)) 75 10 = i := by rw [mv_up_j (by decide), mv_up_j (by decide)]; exact h10
  have g12 : (am_up (am_up σ 75 12 (mt_ch T N i - 48)) 75 9 (i + 1)) 75 12 = mt_ch T N i - 48 := by rw [mv_up_j (by decide), mv_up_eq]
  have g9 : (am_up (am_up σ 75 12 (mt_ch T N i - 48)) 75 9 (i + 1)) 75 9 = i + 1 := mv_up_eq
  generalize am_up (am_up σ 75 12 (mt_ch T N i - 48)) 75 9 (i + 1) = σ1 at g1 g9 g10 g12
  rw [mt_m38 hT g1 g9 g10 g12 i0 (by omega) (by omega) y1.1 (by omega)]
  unfold mt_TK mt_tk mt_vl mt_nx
  rw [if_pos d, if_pos d, if_pos d]
  rcases mt_r_in (T := T) (N := N) (i := i) with ⟨a, b⟩ | ⟨a, b, c⟩ | ⟨a, b, c, e⟩ | ⟨a, b, c, e⟩
  · exact absurd d b
  · rw [if_neg c, a, if_pos (show (1 : Int) < 3 by decide), if_pos (show i + 1 - i < 3 by omega)]
    unfold mt_val
    rw [if_neg c]
    refine ⟨_, rfl, ?_, mv_up_eq, ?_, fun _ => ?_⟩
    · rw [mv_up_j (by decide)]; exact g10
    · rw [mv_up_j (by decide)]; exact g12
    · rw [mv_up_j (by decide)]; exact g9
  all_goals
    have y2 : 0 ≤ mt_ch T N (i + 1) - 48 ∧ mt_ch T N (i + 1) - 48 ≤ 9 := ⟨by have := c.1; omega, by have := c.2; omega⟩
    have l1 := mt_ch_lt (T := T) (N := N) (i := i + 1) (by omega)
    rw [if_pos c, if_pos (show i + 1 - i < 2 by omega), show i + 1 + 1 = i + 2 by omega]
    have k1 : mt_MT T N (am_up (am_up σ1 75 12 (10 * (mt_ch T N i - 48) + (mt_ch T N (i + 1) - 48))) 75 9 (i + 2)) := mt_MT_75 (mt_MT_75 g1 (by decide)) (by decide)
    have k10 : (am_up (am_up σ1 75 12 (10 * (mt_ch T N i - 48) + (mt_ch T N (i + 1) - 48))) 75 9 (i + 2)) 75 10 = i := by rw [mv_up_j (by decide), mv_up_j (by decide)]; exact g10
    have k12 : (am_up (am_up σ1 75 12 (10 * (mt_ch T N i - 48) + (mt_ch T N (i + 1) - 48))) 75 9 (i + 2)) 75 12 = 10 * (mt_ch T N i - 48) + (mt_ch T N (i + 1) - 48) := by rw [mv_up_j (by decide), mv_up_eq]
    have k9 : (am_up (am_up σ1 75 12 (10 * (mt_ch T N i - 48) + (mt_ch T N (i + 1) - 48))) 75 9 (i + 2)) 75 9 = i + 2 := mv_up_eq
    generalize am_up (am_up σ1 75 12 (10 * (mt_ch T N i - 48) + (mt_ch T N (i + 1) - 48))) 75 9 (i + 2) = σ2 at k1 k9 k10 k12
    rw [mt_m38 hT k1 k9 k10 k12 i0 (by omega) (by omega) (by omega) (by omega), a]
    unfold mt_val
    rw [if_pos c]
  · rw [if_neg e, if_pos (show (2 : Int) < 3 by decide), if_pos (show i + 2 - i < 3 by omega)]
    refine ⟨_, rfl, ?_, mv_up_eq, ?_, fun _ => ?_⟩
    · rw [mv_up_j (by decide)]; exact k10
    · rw [mv_up_j (by decide)]; exact k12
    · rw [mv_up_j (by decide)]; exact k9
  · have l2 := mt_ch_lt (T := T) (N := N) (i := i + 2) (by have := e.1; omega)
    rw [if_pos e, if_neg (show ¬ (3 : Int) < 3 by decide), if_neg (show ¬ i + 2 - i < 2 by omega)]
    obtain ⟨σ', e1, b1, b2, b3⟩ := mt_m38_tail (n := n) (y := 10 * (mt_ch T N i - 48) + (mt_ch T N (i + 1) - 48)) hT i0 (by omega) (by omega) (N - (i + 3)).toNat (k + 1) (i + 3) (am_up (am_up σ2 75 12 (10 * (mt_ch T N i - 48) + (mt_ch T N (i + 1) - 48))) 75 9 (i + 2 + 1)) (by omega) (by omega) (by omega) (mt_MT_75 (mt_MT_75 k1 (by decide)) (by decide)) (by rw [mv_up_eq]; omega) (by rw [mv_up_j (by decide), mv_up_j (by decide)]; exact k10) (by rw [mv_up_j (by decide), mv_up_eq])
    exact ⟨σ', e1, b2, b1, b3, fun q => absurd rfl q⟩
theorem mt_leaf {σ : am_Mem} {t i : Int} (h9 : σ 75 9 = i) (i0 : 0 ≤ i) (i1 : i ≤ 1000) : (am_b1 (some (am_up σ 75 11 t)) fun σ13 => if σ13 75 11 = 0 then (am_b1 (some (am_up σ13 75 9 (am_w ((σ13 75 9) + 0)))) fun σ16 => some σ16) else (am_b1 (some (am_up σ13 75 9 (am_w ((σ13 75 9) + 1)))) fun σ18 => some σ18)) = some (am_up (am_up σ 75 11 t) 75 9 (if t = 0 then i else i + 1)) := by
  rw [am_b1_some, mv_up_eq, mv_up_j (show (9 : Int) ≠ 11 by decide), h9]
  by_cases z : t = 0
  · rw [if_pos z, if_pos z, am_w_id (z := i + 0) (by omega), Int.add_zero]
    rfl
  · rw [if_neg z, if_neg z, am_w_id (z := i + 1) (by omega)]
    rfl
theorem mt_madv {n : Nat} {T : Int → Int} {N i : Int} {σ : am_Mem} (hn : 10000000000 ≤ n) (hT : mt_TN T N) (h : mt_MT T N σ) (h9 : σ 75 9 = i) (i0 : 0 ≤ i) (iN : i ≤ N) : ∃ σ', f_X7_advances n σ = some σ' ∧ mt_TK T N σ' i := by
  have hN := hT.2.1
  unfold f_X7_advances
  rw [am_b1_some, h9, mv_up_j (show (9 : Int) ≠ 10 by decide), h9, mt_byte hT (mt_MT_75 h (by decide)) i0, am_b2_some, am_b1_some, mv_in, am_b2_some]
  have q9 : (am_up (am_up σ 75 10 i) 75 12 (mt_ch T N i)) 75 9 = i := by rw [mv_up_j (by decide), mv_up_j (by decide)]; exact h9
  have q10 : (am_up (am_up σ 75 10 i) 75 12 (mt_ch T N i)) 75 10 = i := by rw [mv_up_j (by decide), mv_up_eq]
  have q12 : (am_up (am_up σ 75 10 i) 75 12 (mt_ch T N i)) 75 12 = mt_ch T N i := mv_up_eq
  have qm : mt_MT T N (am_up (am_up σ 75 10 i) 75 12 (mt_ch T N i)) := mt_MT_75 (mt_MT_75 h (by decide)) (by decide)
  generalize am_up (am_up σ 75 10 i) 75 12 (mt_ch T N i) = σ1 at q9 q10 q12 qm
  by_cases d : mt_dg (mt_ch T N i)
  · rw [if_pos d, if_neg (show ¬ (1 : Int) = 0 by decide), am_b1_some]
    have D := mt_mdig (n := n) hT (mt_MT_75 (j := 12) (z := 0) qm (by decide)) (by rw [mv_up_j (by decide)]; exact q9) (by rw [mv_up_j (by decide)]; exact q10) mv_up_eq i0 iN d (n - 4) (by omega)
    rw [show n - 4 + 4 = n by omega] at D
    exact D
  · rw [if_neg d, if_pos rfl]
    have L : ∀ t : Int, mt_tk T N i = t → (t = 0 ↔ mt_ch T N i < 0) → ∃ σ', some (am_up (am_up σ1 75 11 t) 75 9 (if t = 0 then i else i + 1)) = some σ' ∧ mt_TK T N σ' i := by
      intro t ht hz
      refine ⟨_, rfl, ?_, ?_, ?_, fun _ => ?_⟩
      · rw [mv_up_j (by decide), mv_up_j (by decide)]; exact q10
      · rw [mv_up_j (by decide), mv_up_eq, ht]
      · rw [mv_up_j (by decide), mv_up_j (by decide), q12]
        unfold mt_vl
        rw [if_neg d]
      · rw [mv_up_eq]
        unfold mt_nx
        rw [if_neg d]
        by_cases z : t = 0
        · rw [if_pos z, if_pos (hz.1 z)]
        · rw [if_neg z, if_neg (fun y => z (hz.2 y))]
    by_cases c1 : mt_ch T N i < 0
    · rw [if_pos c1, mt_leaf q9 i0 (by omega)]
      exact L 0 (by unfold mt_tk; rw [if_neg d, if_pos c1]) ⟨fun _ => c1, fun _ => rfl⟩
    · rw [if_neg c1, mv_in, am_b2_some]
      by_cases c2 : 97 ≤ mt_ch T N i ∧ mt_ch T N i ≤ 122
      · rw [if_pos c2, if_neg (show ¬ (1 : Int) = 0 by decide), mt_leaf q9 i0 (by omega)]
        exact L 1 (by unfold mt_tk; rw [if_neg d, if_neg c1, if_pos c2]) ⟨fun q => absurd q (by decide), fun q => absurd q c1⟩
      · rw [if_neg c2, if_pos rfl]
        by_cases c3 : mt_ch T N i = 44
        · rw [if_pos c3, mt_leaf q9 i0 (by omega)]
          exact L 3 (by unfold mt_tk; rw [if_neg d, if_neg c1, if_neg c2, if_pos c3]) ⟨fun q => absurd q (by decide), fun q => absurd q c1⟩
        · rw [if_neg c3]
          by_cases c4 : mt_ch T N i = 59
          · rw [if_pos c4, mt_leaf q9 i0 (by omega)]
            exact L 4 (by unfold mt_tk; rw [if_neg d, if_neg c1, if_neg c2, if_neg c3, if_pos c4]) ⟨fun q => absurd q (by decide), fun q => absurd q c1⟩
          · rw [if_neg c4, mt_leaf q9 i0 (by omega)]
            exact L 5 (by unfold mt_tk; rw [if_neg d, if_neg c1, if_neg c2, if_neg c3, if_neg c4]) ⟨fun q => absurd q (by decide), fun q => absurd q c1⟩
