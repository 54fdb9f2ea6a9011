/-! the text of a town: pure, and the class's reading -/
def mt_ch (T : Int → Int) (N i : Int) : Int := if i < N then T i else -1
abbrev mt_dg (c : Int) : Prop := 48 ≤ c ∧ c ≤ 57
def mt_r (T : Int → Int) (N i : Int) : Int := if mt_dg (mt_ch T N i) then (if mt_dg (mt_ch T N (i + 1)) then (if mt_dg (mt_ch T N (i + 2)) then 3 else 2) else 1) else 0
def mt_val (T : Int → Int) (N i : Int) : Int := if mt_dg (mt_ch T N (i + 1)) then 10 * (mt_ch T N i - 48) + (mt_ch T N (i + 1) - 48) else mt_ch T N i - 48
abbrev mt_S (α : Type) : Type := (Int × Int) ⊕ α
def mt_fig (T : Int → Int) (N lo hi i : Int) : mt_S (Int × Int) := if mt_r T N i = 1 ∨ mt_r T N i = 2 then (if lo ≤ mt_val T N i ∧ mt_val T N i ≤ hi then .inr (mt_val T N i, i + mt_r T N i) else .inl (i, 2)) else .inl (i, 1)
def mt_take (T : Int → Int) (N c i : Int) : mt_S Int := if mt_ch T N i = c then .inr (i + 1) else .inl (i, 1)
def mt_kind (c : Int) : Int := if c = 106 then 1 else if c = 108 then 2 else if c = 104 then 3 else if c = 103 then 4 else if c = 114 then 5 else 0
def mt_bd {α β : Type} (x : mt_S α) (f : α → mt_S β) : mt_S β := match x with
  | .inl e => .inl e
  | .inr a => f a
def mt_told (v : Int → Int) (f t : Int) : Nat → Int → Int
  | 0, _ => 0
  | m + 1, x => if v (26 + 2 * x) = f ∧ v (27 + 2 * x) = t then 1 else mt_told v f t m (x + 1)
def mt_law (T : Int → Int) (N : Int) : mt_S (Int × Int × Int) :=
  mt_bd (mt_take T N 116 0) fun j1 => mt_bd (mt_fig T N 1 9 j1) fun q => mt_bd (mt_take T N 44 q.2) fun j2 => mt_bd (mt_fig T N 0 9 j2) fun q2 => mt_bd (mt_take T N 59 q2.2) fun j3 => .inr (q.1, q2.1, j3)
def mt_addc (v : Int → Int) (kd mu fe : Int) : Int → Int := mv_set (mv_set (mv_set (mv_set v (7 + 3 * v 6) kd) (8 + 3 * v 6) mu) (9 + 3 * v 6) fe) 6 (v 6 + 1)
def mt_adds (v : Int → Int) (f t : Int) : Int → Int := mv_set (mv_set (mv_set (mv_set v (26 + 2 * v 25) f) (27 + 2 * v 25) t) 5 (am_or (v 5) (am_shl 1 (v 25)))) 25 (v 25 + 1)
def mt_corner (T : Int → Int) (N i : Int) : mt_S (Int × Int × Int) :=
  mt_bd (mt_fig T N 0 9 (i + 1)) fun q => mt_bd (mt_take T N 44 q.2) fun j => mt_bd (mt_fig T N 0 9 j) fun q2 => mt_bd (mt_take T N 59 q2.2) fun j3 => .inr (q.1, q2.1, j3)
def mt_corners (T : Int → Int) (N : Int) : Nat → (Int → Int) → Int → mt_S ((Int → Int) × Int)
  | 0, v, i => .inr (v, i)
  | m + 1, v, i => if mt_kind (mt_ch T N i) = 0 then (if v 6 ≤ 0 then .inl (i, 1) else .inr (v, i)) else if v 6 = 6 then .inl (i, 3) else mt_bd (mt_corner T N i) fun q => mt_corners T N m (mt_addc v (mt_kind (mt_ch T N i)) q.1 q.2.1) q.2.2
def mt_ends (T : Int → Int) (N : Int) (v : Int → Int) (i : Int) : mt_S (Int × Int × Int) :=
  mt_bd (mt_fig T N 0 (v 6 - 1) i) fun q => mt_bd (mt_take T N 44 q.2) fun j => mt_bd (mt_fig T N 0 (v 6 - 1) j) fun q2 => if q.1 = q2.1 ∨ mt_told v q.1 q2.1 (v 25).toNat 0 = 1 then .inl (j, 2) else mt_bd (mt_take T N 59 q2.2) fun j3 => .inr (q.1, q2.1, j3)
def mt_streets (T : Int → Int) (N : Int) : Nat → (Int → Int) → Int → mt_S ((Int → Int) × Int)
  | 0, v, i => .inr (v, i)
  | m + 1, v, i => if i < N then (if mt_ch T N i = 120 then (if v 25 = 8 then .inl (i, 3) else mt_bd (mt_ends T N v (i + 1)) fun q => mt_streets T N m (mt_adds v q.1 q.2.1) q.2.2) else .inl (i, 1)) else .inr (v, i)
def mt_text (T : Int → Int) (N : Int) : mt_S (Int → Int) :=
  mt_bd (mt_law T N) fun q => mt_bd (mt_corners T N 7 (mv_set (mv_set (fun _ => 0) 0 q.1) 1 q.2.1) q.2.2) fun q2 => mt_bd (mt_streets T N 9 q2.1 q2.2) fun q3 => .inr q3.1
/-- what a text's bytes keep to -/
def mt_TN (T : Int → Int) (N : Int) : Prop := 0 ≤ N ∧ N ≤ 120 ∧ ∀ k : Int, 0 ≤ k → k < N → 0 ≤ T k ∧ T k ≤ 255
theorem mt_ch_lt {T : Int → Int} {N i : Int} (h : 0 ≤ mt_ch T N i) : i < N := by
  unfold mt_ch at h
  by_cases q : i < N
  · exact q
  · rw [if_neg q] at h
    omega
theorem mt_take_inr {T : Int → Int} {N c i j : Int} (c0 : 0 ≤ c) (h : mt_take T N c i = .inr j) : j = i + 1 ∧ i < N ∧ mt_ch T N i = c := by
  unfold mt_take at h
  by_cases q : mt_ch T N i = c
  · rw [if_pos q] at h
    cases h
    exact ⟨rfl, mt_ch_lt (T := T) (by omega), q⟩
  · rw [if_neg q] at h
    cases h
theorem mt_take_inl {T : Int → Int} {N c i : Int} {e : Int × Int} (h : mt_take T N c i = .inl e) : e = (i, 1) ∧ mt_ch T N i ≠ c := by
  unfold mt_take at h
  by_cases q : mt_ch T N i = c
  · rw [if_pos q] at h
    cases h
  · rw [if_neg q] at h
    cases h
    exact ⟨rfl, q⟩
theorem mt_r_in {T : Int → Int} {N i : Int} : (mt_r T N i = 0 ∧ ¬ mt_dg (mt_ch T N i)) ∨ (mt_r T N i = 1 ∧ mt_dg (mt_ch T N i) ∧ ¬ mt_dg (mt_ch T N (i + 1))) ∨ (mt_r T N i = 2 ∧ mt_dg (mt_ch T N i) ∧ mt_dg (mt_ch T N (i + 1)) ∧ ¬ mt_dg (mt_ch T N (i + 2))) ∨ (mt_r T N i = 3 ∧ mt_dg (mt_ch T N i) ∧ mt_dg (mt_ch T N (i + 1)) ∧ mt_dg (mt_ch T N (i + 2))) := by
  unfold mt_r
  by_cases h0 : mt_dg (mt_ch T N i)
  · rw [if_pos h0]
    by_cases h1 : mt_dg (mt_ch T N (i + 1))
    · rw [if_pos h1]
      by_cases h2 : mt_dg (mt_ch T N (i + 2))
      · rw [if_pos h2]
        exact Or.inr (Or.inr (Or.inr ⟨rfl, h0, h1, h2⟩))
      · rw [if_neg h2]
        exact Or.inr (Or.inr (Or.inl ⟨rfl, h0, h1, h2⟩))
    · rw [if_neg h1]
      exact Or.inr (Or.inl ⟨rfl, h0, h1⟩)
  · rw [if_neg h0]
    exact Or.inl ⟨rfl, h0⟩
theorem mt_fig_inr {T : Int → Int} {N lo hi i : Int} {q : Int × Int} (h : mt_fig T N lo hi i = .inr q) : lo ≤ q.1 ∧ q.1 ≤ hi ∧ q.2 = i + mt_r T N i ∧ i < q.2 ∧ q.2 ≤ N ∧ q.1 = mt_val T N i ∧ (mt_r T N i = 1 ∨ mt_r T N i = 2) := by
  unfold mt_fig at h
  by_cases g : mt_r T N i = 1 ∨ mt_r T N i = 2
  · rw [if_pos g] at h
    by_cases g2 : lo ≤ mt_val T N i ∧ mt_val T N i ≤ hi
    · rw [if_pos g2] at h
      cases h
      refine ⟨g2.1, g2.2, rfl, ?_, ?_, rfl, g⟩
      · show i < i + mt_r T N i
        omega
      · show i + mt_r T N i ≤ N
        rcases mt_r_in (T := T) (N := N) (i := i) with a | a | a | a
        · omega
        · have := mt_ch_lt (T := T) (N := N) (i := i) (by have := a.2.1.1; omega)
          omega
        · have := mt_ch_lt (T := T) (N := N) (i := i + 1) (by have := a.2.2.1.1; omega)
          omega
        · omega
    · rw [if_neg g2] at h
      cases h
  · rw [if_neg g] at h
    cases h
/-- the class's tape at a place -/
def mt_CS (T : Int → Int) (N : Int) (σ : am_Mem) (i : Int) : Prop := σ 16 4 = i ∧ σ 16 1 = N ∧ ∀ k : Int, 0 ≤ k → k < N → σ 17 k = T k
def mt_bad (σ : am_Mem) (e : Int × Int) : Prop := σ 16 3 = e.1 ∧ σ 16 2 = e.2
theorem mt_CS_up {T : Int → Int} {N i j : Int} {σ : am_Mem} (h : mt_CS T N σ i) : mt_CS T N (am_up σ 16 4 j) j := by
  refine ⟨mv_up_eq, ?_, fun k k0 k1 => ?_⟩
  · rw [mv_up_j (by decide)]; exact h.2.1
  · rw [ah_up_ne _ _ _ (by decide)]; exact h.2.2 k k0 k1
theorem mt_CS_ne {T : Int → Int} {N i j z : Int} {a : Nat} {σ : am_Mem} (h : mt_CS T N σ i) (ha : a ≠ 16) (hb : a ≠ 17) : mt_CS T N (am_up σ a j z) i := by
  refine ⟨?_, ?_, fun k k0 k1 => ?_⟩
  · rw [ah_up_ne _ _ _ (Ne.symm ha)]; exact h.1
  · rw [ah_up_ne _ _ _ (Ne.symm ha)]; exact h.2.1
  · rw [ah_up_ne _ _ _ (Ne.symm hb)]; exact h.2.2 k k0 k1
theorem mt_fails {n : Nat} {σ : am_Mem} {p k : Int} : ∃ σ', f_X4_failsAt n p k σ = some (0, σ') ∧ mt_bad σ' (p, k) := ⟨_, rfl, by
  refine ⟨?_, mv_up_eq⟩
  rw [mv_up_j (by decide), mv_up_eq]⟩
theorem mt_here {n : Nat} {T : Int → Int} {N i : Int} {σ : am_Mem} (hT : mt_TN T N) (h : mt_CS T N σ i) (i0 : 0 ≤ i) : f_X4_letterHere n σ = some (mt_ch T N i, σ) := by
  unfold f_X4_letterHere mt_ch
  rw [h.1, h.2.1]
  by_cases q : i < N
  · have := hT.2.1
    rw [if_pos q, if_pos q, if_pos (show (0 : Int) ≤ i ∧ i < 120 by omega), h.2.2 i i0 q]
  · rw [if_neg q, if_neg q]
theorem mt_ctake {n : Nat} {T : Int → Int} {N c i : Int} {σ : am_Mem} (hT : mt_TN T N) (h : mt_CS T N σ i) (i0 : 0 ≤ i) (iN : i ≤ N) : (∀ e, mt_take T N c i = .inl e → ∃ σ', f_X4_takes n c σ = some (0, σ') ∧ mt_bad σ' e) ∧ (∀ j, mt_take T N c i = .inr j → f_X4_takes n c σ = some (1, am_up σ 16 4 j)) := by
  have hN := hT.2.1
  unfold f_X4_takes
  rw [mt_here hT h i0, am_b2_some]
  constructor
  · intro e he
    obtain ⟨rfl, hne⟩ := mt_take_inl he
    obtain ⟨σ', e1, b1⟩ := mt_fails (n := n) (σ := σ) (p := i) (k := 1)
    rw [if_neg hne, h.1, e1, am_b2_some, if_pos (Or.inl rfl)]
    exact ⟨σ', rfl, b1⟩
  · intro j hj
    unfold mt_take at hj
    by_cases q : mt_ch T N i = c
    · rw [if_pos q] at hj
      cases hj
      rw [if_pos q, h.1, am_w_id (z := i + 1) (by omega)]
      rfl
    · rw [if_neg q] at hj
      cases hj
theorem mt_cnum8 {n : Nat} {T : Int → Int} {N i lo hi x y : Int} {σ : am_Mem} (hT : mt_TN T N) (h : mt_CS T N σ i) (i0 : 0 ≤ i) (iN : i ≤ N) (x0 : i ≤ x) (xN : x ≤ i + 3) (y0 : 0 ≤ y) (y1 : y ≤ 999) (fu : Nat) : fl_X4_numberWithin_8 n (fu + 1) lo hi x y σ = (if mt_dg (mt_ch T N x) ∧ x < i + 3 then fl_X4_numberWithin_8 n fu lo hi (x + 1) (10 * y + (mt_ch T N x - 48)) σ else fb_X4_numberWithin_71 n lo hi x y σ) := by
  have hN := hT.2.1
  show fb_X4_numberWithin_8 n (fun y1 y2 y3 y4 σ => fl_X4_numberWithin_8 n fu y1 y2 y3 y4 σ) lo hi x y σ = _
  unfold fb_X4_numberWithin_8 mt_ch
  rw [h.1, h.2.1, am_w_id (z := i + 3) (by omega)]
  by_cases q : x < N
  · have t := hT.2.2 x (by omega) q
    rw [if_pos q, if_pos q, h.2.2 x (by omega) q, if_pos (show (0 : Int) ≤ x ∧ x < 120 by omega)]
    by_cases q3 : x < i + 3
    · rw [if_pos q3]
      by_cases g1 : T x < 48
      · rw [if_pos g1, if_neg (show ¬ ((48 ≤ T x ∧ T x ≤ 57) ∧ x < i + 3) by omega)]
      · rw [if_neg g1]
        by_cases g2 : T x ≤ 57
        · rw [if_pos g2, if_pos (show (48 ≤ T x ∧ T x ≤ 57) ∧ x < i + 3 by omega), am_w_id (z := y * 10) (by omega), am_w_id (z := y * 10 + T x) (by omega), am_w_id (z := y * 10 + T x - 48) (by omega), am_w_id (z := x + 1) (by omega), show y * 10 + T x - 48 = 10 * y + (T x - 48) by omega]
        · rw [if_neg g2, if_neg (show ¬ ((48 ≤ T x ∧ T x ≤ 57) ∧ x < i + 3) by omega)]
    · rw [if_neg q3, if_neg (show ¬ ((48 ≤ T x ∧ T x ≤ 57) ∧ x < i + 3) by omega)]
  · rw [if_neg q, if_neg q, if_neg (show ¬ ((48 ≤ (-1 : Int) ∧ (-1 : Int) ≤ 57) ∧ x < i + 3) by omega)]
theorem mt_cnum {n : Nat} {T : Int → Int} {N lo hi i : Int} {σ : am_Mem} (hn : 10000000000 ≤ n) (hT : mt_TN T N) (h : mt_CS T N σ i) (i0 : 0 ≤ i) (iN : i ≤ N) : (∀ e, mt_fig T N lo hi i = .inl e → ∃ σ', f_X4_numberWithin n lo hi σ = some (-1, σ') ∧ mt_bad σ' e) ∧ (∀ q, mt_fig T N lo hi i = .inr q → f_X4_numberWithin n lo hi σ = some (q.1, am_up σ 16 4 q.2)) := by
  have hN := hT.2.1
  obtain ⟨m, rfl⟩ : ∃ m, n = m + 4 := ⟨n - 4, by omega⟩
  generalize hn' : m + 4 = n'
  have E : f_X4_numberWithin n' lo hi σ = fl_X4_numberWithin_8 n' (m + 4) lo hi i 0 σ := by
    unfold f_X4_numberWithin
    rw [h.1, hn']
  have B1 : ∃ σ', fb_X4_numberWithin_113 n' 0 σ = some (-1, σ') ∧ mt_bad σ' (i, 1) := by
    obtain ⟨σ', e1, b1⟩ := mt_fails (n := n') (σ := σ) (p := i) (k := 1)
    refine ⟨σ', ?_, b1⟩
    unfold fb_X4_numberWithin_113
    rw [if_pos rfl, h.1, e1]
    rfl
  have B2 : ∃ σ', fb_X4_numberWithin_113 n' 1 σ = some (-1, σ') ∧ mt_bad σ' (i, 2) := by
    obtain ⟨σ', e1, b1⟩ := mt_fails (n := n') (σ := σ) (p := i) (k := 2)
    refine ⟨σ', ?_, b1⟩
    unfold fb_X4_numberWithin_113
    rw [if_neg (show ¬ (1 : Int) = 0 by decide), h.1, e1]
    rfl
  have G : ∀ r y : Int, (r = 1 ∨ r = 2) → mt_r T N i = r → mt_val T N i = y → fl_X4_numberWithin_8 n' (m + 4) lo hi i 0 σ = fb_X4_numberWithin_71 n' lo hi (i + r) y σ → (∀ e, mt_fig T N lo hi i = .inl e → ∃ σ', f_X4_numberWithin n' lo hi σ = some (-1, σ') ∧ mt_bad σ' e) ∧ (∀ q, mt_fig T N lo hi i = .inr q → f_X4_numberWithin n' lo hi σ = some (q.1, am_up σ 16 4 q.2)) := by
    intro r y hr er ey E2
    rw [E, E2]
    unfold fb_X4_numberWithin_71 mt_fig
    rw [er, ey, if_pos hr, h.1, if_neg (show ¬ i + r ≤ i by omega), am_w_id (z := i + 3) (by omega), if_pos (show i + r < i + 3 by omega)]
    by_cases g : lo ≤ y ∧ y ≤ hi
    · rw [if_pos g, if_neg (show ¬ y < lo by omega), if_pos g.2]
      refine ⟨fun e he => (by cases he), fun q hq => ?_⟩
      cases hq
      rfl
    · rw [if_neg g]
      obtain ⟨σ', e1, b1⟩ := B2
      refine ⟨fun e he => ?_, fun q hq => (by cases hq)⟩
      cases he
      refine ⟨σ', ?_, b1⟩
      by_cases g1 : y < lo
      · rw [if_pos g1]; exact e1
      · rw [if_neg g1, if_neg (show ¬ y ≤ hi by omega)]; exact e1
  have F : mt_r T N i = 0 ∨ mt_r T N i = 3 → (fl_X4_numberWithin_8 n' (m + 4) lo hi i 0 σ = fb_X4_numberWithin_113 n' 0 σ) → (∀ e, mt_fig T N lo hi i = .inl e → ∃ σ', f_X4_numberWithin n' lo hi σ = some (-1, σ') ∧ mt_bad σ' e) ∧ (∀ q, mt_fig T N lo hi i = .inr q → f_X4_numberWithin n' lo hi σ = some (q.1, am_up σ 16 4 q.2)) := by
    intro er E2
    rw [E, E2]
    unfold mt_fig
    rw [if_neg (by omega)]
    refine ⟨fun e he => ?_, fun q hq => (by cases hq)⟩
    cases he
    exact B1
  rcases mt_r_in (T := T) (N := N) (i := i) with ⟨a, b⟩ | ⟨a, b, c⟩ | ⟨a, b, c, d⟩ | ⟨a, b, c, d⟩
  · refine F (Or.inl a) ?_
    rw [mt_cnum8 hT h i0 iN (by omega) (by omega) (by omega) (by omega), if_neg (fun q => b q.1)]
    unfold fb_X4_numberWithin_71
    rw [h.1, if_pos (show i ≤ i by omega)]
  · refine G 1 _ (Or.inl rfl) a rfl ?_
    unfold mt_val
    rw [mt_cnum8 hT h i0 iN (by omega) (by omega) (by omega) (by omega), if_pos ⟨b, by omega⟩, mt_cnum8 hT h i0 iN (by omega) (by omega) (by omega) (by omega), if_neg (fun q => c q.1), if_neg c, show 10 * 0 + (mt_ch T N i - 48) = mt_ch T N i - 48 by omega]
  · refine G 2 _ (Or.inr rfl) a rfl ?_
    unfold mt_val
    rw [mt_cnum8 hT h i0 iN (by omega) (by omega) (by omega) (by omega), if_pos ⟨b, by omega⟩, mt_cnum8 hT h i0 iN (by omega) (by omega) (by omega) (by omega), if_pos ⟨c, by omega⟩, show i + 1 + 1 = i + 2 by omega, mt_cnum8 hT h i0 iN (by omega) (by omega) (by omega) (by omega), if_neg (fun q => d q.1), if_pos c, show 10 * (10 * 0 + (mt_ch T N i - 48)) + (mt_ch T N (i + 1) - 48) = 10 * (mt_ch T N i - 48) + (mt_ch T N (i + 1) - 48) by omega]
  · refine F (Or.inr a) ?_
    rw [mt_cnum8 hT h i0 iN (by omega) (by omega) (by omega) (by omega), if_pos ⟨b, by omega⟩, mt_cnum8 hT h i0 iN (by omega) (by omega) (by omega) (by omega), if_pos ⟨c, by omega⟩, show i + 1 + 1 = i + 2 by omega, mt_cnum8 hT h i0 iN (by omega) (by omega) (by omega) (by omega), if_pos ⟨d, by omega⟩, show i + 2 + 1 = i + 3 by omega, mt_cnum8 hT h i0 iN (by omega) (by omega) (by omega) (by omega), if_neg (fun q => absurd q.2 (by omega))]
    unfold fb_X4_numberWithin_71
    rw [h.1, if_neg (show ¬ i + 3 ≤ i by omega), am_w_id (z := i + 3) (by omega), if_neg (show ¬ i + 3 < i + 3 by omega)]
