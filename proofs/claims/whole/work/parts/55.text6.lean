/-! the model takes -/
/-- well, at a place; the fault's number as it was -/
def mt_MS (T : Int → Int) (N : Int) (f0 σ : am_Mem) (v : Int → Int) (i : Int) : Prop := σ 75 8 < 0 ∧ (σ 75 7 = f0 75 7 ∧ σ 81 = f0 81 ∧ σ 75 17 = f0 75 17) ∧ mt_MT T N σ ∧ mt_TK T N σ i ∧ mv_V0 σ 82 v ∧ 0 ≤ i ∧ i ≤ N
/-- a fault was found -/
def mt_MF (f0 σ : am_Mem) (e : Int × Int) : Prop := σ 75 8 = e.1 ∧ 0 ≤ e.1 ∧ σ 75 7 = e.2 ∧ 0 ≤ σ 82 25 ∧ σ 82 25 ≤ 8 ∧ σ 81 = f0 81 ∧ σ 75 17 = f0 75 17
def mt_MR {α : Type} (f0 : am_Mem) (x : mt_S α) (o : Option (Int × am_Mem)) (ok : α → Int → am_Mem → Prop) : Prop := match x with
  | .inl e => ∃ σ', o = some (0, σ') ∧ mt_MF f0 σ' e
  | .inr a => ∃ r σ', o = some (r, σ') ∧ ok a r σ'
def mt_MU {α : Type} (f0 : am_Mem) (x : mt_S α) (o : Option am_Mem) (ok : α → am_Mem → Prop) : Prop := match x with
  | .inl e => ∃ σ', o = some σ' ∧ mt_MF f0 σ' e
  | .inr a => ∃ σ', o = some σ' ∧ ok a σ'
theorem mt_tk_in {T : Int → Int} {N i : Int} : (mt_tk T N i = 3 ↔ mt_ch T N i = 44) ∧ (mt_tk T N i = 4 ↔ mt_ch T N i = 59) ∧ (mt_tk T N i = 0 ↔ mt_ch T N i < 0) ∧ (mt_tk T N i = 1 ↔ 97 ≤ mt_ch T N i ∧ mt_ch T N i ≤ 122) ∧ (mt_tk T N i = 2 ↔ mt_r T N i = 1 ∨ mt_r T N i = 2) := by
  unfold mt_tk
  have R := mt_r_in (T := T) (N := N) (i := i)
  generalize mt_r T N i = r at R
  generalize mt_ch T N i = c at R
  by_cases d : mt_dg c
  · rw [if_pos d]
    obtain ⟨d1, d2⟩ := d
    by_cases g : r < 3
    · rw [if_pos g]
      refine ⟨by omega, by omega, by omega, by omega, ?_⟩
      rcases R with ⟨a, b⟩ | ⟨a, _⟩ | ⟨a, _⟩ | ⟨a, _⟩
      · exact absurd ⟨d1, d2⟩ b
      all_goals omega
    · rw [if_neg g]
      refine ⟨by omega, by omega, by omega, by omega, ?_⟩
      omega
  · have r0 : r = 0 := by
      rcases R with ⟨a, _⟩ | ⟨_, b, _⟩ | ⟨_, b, _⟩ | ⟨_, b, _⟩
      · exact a
      all_goals exact absurd b d
    rw [if_neg d]
    have d' : ¬ (48 ≤ c ∧ c ≤ 57) := d
    by_cases g1 : c < 0
    · rw [if_pos g1]; omega
    · rw [if_neg g1]
      by_cases g2 : 97 ≤ c ∧ c ≤ 122
      · rw [if_pos g2]; omega
      · rw [if_neg g2]
        by_cases g3 : c = 44
        · rw [if_pos g3]; omega
        · rw [if_neg g3]
          by_cases g4 : c = 59
          · rw [if_pos g4]; omega
          · rw [if_neg g4]; omega
theorem mt_nx1 {T : Int → Int} {N i : Int} (d : ¬ mt_dg (mt_ch T N i)) (h : 0 ≤ mt_ch T N i) : mt_nx T N i = i + 1 := by
  unfold mt_nx
  rw [if_neg d, if_neg (by omega)]
theorem mt_vl1 {T : Int → Int} {N i : Int} (d : ¬ mt_dg (mt_ch T N i)) : mt_vl T N i = mt_ch T N i := by
  unfold mt_vl
  rw [if_neg d]
theorem mt_ftake {n : Nat} {f0 σ : am_Mem} {e : Int × Int} {b k : Int} (h : mt_MF f0 σ e) : f_X7_takes n b k σ = some (0, σ) := by
  unfold f_X7_takes f_X7_isWell
  rw [if_neg (show ¬ σ 75 8 < 0 by have := h.1; have := h.2.1; omega), am_b2_some, if_pos rfl]
theorem mt_fwell {n : Nat} {f0 σ : am_Mem} {e : Int × Int} (h : mt_MF f0 σ e) : f_X7_isWell n σ = some (0, σ) := by
  unfold f_X7_isWell
  rw [if_neg (show ¬ σ 75 8 < 0 by have := h.1; have := h.2.1; omega)]
theorem mt_ffig {n : Nat} {f0 σ : am_Mem} {e : Int × Int} {lo hi : Int} (h : mt_MF f0 σ e) : f_X7_figure n lo hi σ = some (0, σ) := by
  unfold f_X7_figure
  rw [mt_fwell h, am_b2_some, if_pos rfl, mv_in, am_b2_some, mt_ftake h]
  rfl
theorem mt_ffol {n : Nat} {f0 σ : am_Mem} {e : Int × Int} {lo hi : Int} (h : mt_MF f0 σ e) : f_X7_follows n lo hi σ = some (0, σ) := by
  unfold f_X7_follows
  rw [mt_ftake h, am_b2_some, mt_ftake h, am_b2_some, mt_ffig h]
  split <;> rfl
theorem mt_mwell {n : Nat} {T : Int → Int} {f0 : am_Mem} {N i : Int} {σ : am_Mem} {v : Int → Int} (h : mt_MS T N f0 σ v i) : f_X7_isWell n σ = some (1, σ) := by
  unfold f_X7_isWell
  rw [if_pos h.1]
theorem mt_mtake1 {n : Nat} {T : Int → Int} {f0 : am_Mem} {N i b k : Int} {σ : am_Mem} {v : Int → Int} (hn : 10000000000 ≤ n) (hT : mt_TN T N) (h : mt_MS T N f0 σ v i) (hb : b ≠ 0) (h5 : mt_tk T N i ≠ 5) (hx : mt_nx T N i ≤ N) (hx0 : 0 ≤ mt_nx T N i) : ∃ σ', f_X7_takes n b k σ = some (mt_vl T N i, σ') ∧ mt_MS T N f0 σ' v (mt_nx T N i) := by
  obtain ⟨h1, h2, h3, h4, h5', i0, iN⟩ := h
  obtain ⟨σ', e, t⟩ := mt_madv hn hT h3 (h4.2.2.2 h5) hx0 hx
  have F := w_X7_advances e
  have G := v75_X7_advances e
  refine ⟨σ', ?_, ?_, ?_, ⟨?_, ?_⟩, t, ?_, hx0, hx⟩
  · unfold f_X7_takes f_X7_isWell
    rw [if_pos h1, am_b2_some, if_neg (show ¬ (1 : Int) = 0 by decide), if_neg hb, e, am_b1_some, h4.2.2.1]
  · rw [G 8 (by unfold nf75_X7_advances; decide)]; exact h1
  · rw [G 7 (by unfold nf75_X7_advances; decide), G 17 (by unfold nf75_X7_advances; decide), F 81 (by unfold nw_X7_advances; decide)]; exact h2
  · rw [G 6 (by unfold nf75_X7_advances; decide)]; exact h3.1
  · rw [F 80 (by unfold nw_X7_advances; decide)]; exact h3.2
  · unfold mv_V0
    rw [F 82 (by unfold nw_X7_advances; decide)]
    exact h5'
theorem mt_mtake0 {n : Nat} {T : Int → Int} {f0 : am_Mem} {N i k : Int} {σ : am_Mem} {v : Int → Int} (h : mt_MS T N f0 σ v i) (x0 : 0 ≤ v 25) (x8 : v 25 ≤ 8) : ∃ σ', f_X7_takes n 0 k σ = some (0, σ') ∧ mt_MF f0 σ' (i, k) := by
  obtain ⟨h1, h2, h3, h4, h5', i0, iN⟩ := h
  refine ⟨am_up (am_up σ 75 8 i) 75 7 k, ?_, ?_, i0, mv_up_eq, ?_⟩
  · unfold f_X7_takes f_X7_isWell
    rw [if_pos h1, am_b2_some, if_neg (show ¬ (1 : Int) = 0 by decide), if_pos rfl, h4.1]
    rfl
  · rw [mv_up_j (by decide), mv_up_eq]
  · rw [ah_up_ne _ _ _ (by decide), ah_up_ne _ _ _ (by decide), h5' 25 (by decide) (by decide)]
    refine ⟨x0, x8, ?_, ?_⟩
    · rw [ah_up_ne _ _ _ (by decide), ah_up_ne _ _ _ (by decide)]; exact h2.2.1
    · rw [mv_up_j (by decide), mv_up_j (by decide)]; exact h2.2.2
/-- a comma, a stop, by the token's number -/
theorem mt_msign {n : Nat} {T : Int → Int} {f0 : am_Mem} {N i c t : Int} {σ : am_Mem} {v : Int → Int} (hn : 10000000000 ≤ n) (hT : mt_TN T N) (h : mt_MS T N f0 σ v i) (x0 : 0 ≤ v 25) (x8 : v 25 ≤ 8) (hc : 0 ≤ c ∧ c ≤ 47 ∨ 58 ≤ c ∧ c ≤ 59) (ht : t ≠ 5) (hct : mt_tk T N i = t ↔ mt_ch T N i = c) : mt_MR f0 (mt_take T N c i) (if σ 75 11 = t then f_X7_takes n 1 1 σ else f_X7_takes n 0 1 σ) (fun j _ σ' => mt_MS T N f0 σ' v j) := by
  have e11 := h.2.2.2.1.2.1
  have hiN := h.2.2.2.2.2.2
  have hi0 := h.2.2.2.2.2.1
  unfold mt_take
  by_cases g : mt_ch T N i = c
  · have d : ¬ mt_dg (mt_ch T N i) := fun q => by have := q.1; have := q.2; omega
    have l := mt_ch_lt (T := T) (N := N) (i := i) (by omega)
    have nx := mt_nx1 d (by omega)
    have tk := hct.2 g
    obtain ⟨σ', e1, m1⟩ := mt_mtake1 (n := n) (b := 1) (k := 1) hn hT h (by decide) (by rw [tk]; exact ht) (by omega) (by omega)
    rw [if_pos g, e11, tk, if_pos rfl]
    rw [nx] at m1
    exact ⟨_, σ', e1, m1⟩
  · rw [if_neg g, e11, if_neg (fun q => g (hct.1 q))]
    exact mt_mtake0 h x0 x8
theorem mt_mfig {n : Nat} {T : Int → Int} {f0 : am_Mem} {N i lo hi : Int} {σ : am_Mem} {v : Int → Int} (hn : 10000000000 ≤ n) (hT : mt_TN T N) (h : mt_MS T N f0 σ v i) (x0 : 0 ≤ v 25) (x8 : v 25 ≤ 8) : mt_MR f0 (mt_fig T N lo hi i) (f_X7_figure n lo hi σ) (fun q r σ' => r = q.1 ∧ mt_MS T N f0 σ' v q.2) := by
  have e11 := h.2.2.2.1.2.1
  have e12 := h.2.2.2.1.2.2.1
  have tk := (mt_tk_in (T := T) (N := N) (i := i)).2.2.2.2
  have hi0 := h.2.2.2.2.2.1
  unfold f_X7_figure
  rw [mt_mwell h, am_b2_some, if_neg (show ¬ (1 : Int) = 0 by decide), e11, e12]
  by_cases g : mt_r T N i = 1 ∨ mt_r T N i = 2
  · have d : mt_dg (mt_ch T N i) := by
      rcases mt_r_in (T := T) (N := N) (i := i) with ⟨a, _⟩ | ⟨_, b, _⟩ | ⟨_, b, _⟩ | ⟨a, _⟩
      · omega
      · exact b
      · exact b
      · omega
    have vl : mt_vl T N i = mt_val T N i := by unfold mt_vl; rw [if_pos d]
    have nx : mt_nx T N i = i + mt_r T N i := by unfold mt_nx; rw [if_pos d]
    rw [if_pos (tk.2 g), mv_in, am_b2_some, vl]
    by_cases g2 : lo ≤ mt_val T N i ∧ mt_val T N i ≤ hi
    · have ef : mt_fig T N lo hi i = .inr (mt_val T N i, i + mt_r T N i) := by unfold mt_fig; rw [if_pos g, if_pos g2]
      have b := mt_fig_inr ef
      have b5 : i + mt_r T N i ≤ N := b.2.2.2.2.1
      have b4 : i < i + mt_r T N i := b.2.2.2.1
      obtain ⟨σ', e1, m1⟩ := mt_mtake1 (n := n) (b := 1) (k := 2) hn hT h (by decide) (by rw [tk.2 g]; decide) (by omega) (by omega)
      rw [ef, if_pos g2, e1, am_b2_some]
      rw [nx] at m1
      exact ⟨_, σ', rfl, vl, m1⟩
    · have ef : mt_fig T N lo hi i = .inl (i, 2) := by unfold mt_fig; rw [if_pos g, if_neg g2]
      obtain ⟨σ', e1, m1⟩ := mt_mtake0 (n := n) (k := 2) h x0 x8
      rw [ef, if_neg g2, e1, am_b2_some]
      exact ⟨σ', rfl, m1⟩
  · have ef : mt_fig T N lo hi i = .inl (i, 1) := by unfold mt_fig; rw [if_neg g]
    obtain ⟨σ', e1, m1⟩ := mt_mtake0 (n := n) (k := 1) h x0 x8
    rw [ef, if_neg (fun q => g (tk.1 q)), e1, am_b2_some]
    exact ⟨σ', rfl, m1⟩
theorem mt_mfol {n : Nat} {T : Int → Int} {f0 : am_Mem} {N i lo hi : Int} {σ : am_Mem} {v : Int → Int} (hn : 10000000000 ≤ n) (hT : mt_TN T N) (h : mt_MS T N f0 σ v i) (x0 : 0 ≤ v 25) (x8 : v 25 ≤ 8) : mt_MR f0 (mt_bd (mt_take T N 44 i) fun j => mt_fig T N lo hi j) (f_X7_follows n lo hi σ) (fun q r σ' => r = q.1 ∧ mt_MS T N f0 σ' v q.2) := by
  have S := mt_msign (n := n) (c := 44) (t := 3) hn hT h x0 x8 (by omega) (by decide) (mt_tk_in (T := T) (N := N) (i := i)).1
  have E : f_X7_follows n lo hi σ = am_b2 (if σ 75 11 = 3 then f_X7_takes n 1 1 σ else f_X7_takes n 0 1 σ) (fun r3 σ4 => am_b2 (f_X7_figure n lo hi σ4) fun r6 σ7 => some (r6, σ7)) := by
    unfold f_X7_follows
    split <;> rfl
  rw [E]
  cases a : mt_take T N 44 i with
  | inl e =>
    rw [a] at S
    obtain ⟨σ', e1, m1⟩ := S
    rw [e1, am_b2_some, mt_ffig m1]
    exact ⟨σ', rfl, m1⟩
  | inr j =>
    rw [a] at S
    obtain ⟨r, σ', e1, m1⟩ := S
    rw [e1, am_b2_some]
    have F := mt_mfig (n := n) (lo := lo) (hi := hi) hn hT m1 x0 x8
    show mt_MR f0 (mt_fig T N lo hi j) _ _
    cases b : mt_fig T N lo hi j with
    | inl e =>
      rw [b] at F
      obtain ⟨σ2, e2, m2⟩ := F
      rw [e2]
      exact ⟨σ2, rfl, m2⟩
    | inr q =>
      rw [b] at F
      obtain ⟨r2, σ2, e2, m2⟩ := F
      rw [e2]
      exact ⟨r2, σ2, rfl, m2⟩
theorem mt_f91 {n : Nat} {f0 σ : am_Mem} {e : Int × Int} {a b c d s : Int} (h : mt_MF f0 σ e) : fb_X7_readsCorner_91 n a b c d s σ = some σ := by
  unfold fb_X7_readsCorner_91
  rw [mt_ftake h, am_b2_some, mt_fwell h, am_b2_some, if_pos rfl]
theorem mt_f57 {n : Nat} {f0 σ : am_Mem} {e : Int × Int} {a b c d : Int} (h : mt_MF f0 σ e) : fb_X7_readsCorner_57 n a b c d σ = some σ := by
  unfold fb_X7_readsCorner_57
  rw [mt_ffig h, am_b2_some, mt_ffol h, am_b2_some, mt_f91 h, mt_f91 h]
  split <;> rfl
/-- a corner that has a kind's letter -/
theorem mt_mcorner {n : Nat} {T : Int → Int} {f0 : am_Mem} {N i : Int} {σ : am_Mem} {v : Int → Int} (hn : 10000000000 ≤ n) (hT : mt_TN T N) (h : mt_MS T N f0 σ v i) (x0 : 0 ≤ v 25) (x8 : v 25 ≤ 8) (c0 : 0 ≤ v 6) (c6 : v 6 ≤ 6) (hk : mt_kind (mt_ch T N i) ≠ 0) :
    (v 6 = 6 → ∃ σ', f_X7_readsCorner n σ = some σ' ∧ mt_MF f0 σ' (i, 3)) ∧ (v 6 ≠ 6 → mt_MU f0 (mt_corner T N i) (f_X7_readsCorner n σ) (fun q σ' => mt_MS T N f0 σ' (mt_addc v (mt_kind (mt_ch T N i)) q.1 q.2.1) q.2.2)) := by
  have hl : 97 ≤ mt_ch T N i ∧ mt_ch T N i ≤ 122 := by
    unfold mt_kind at hk
    by_cases q : 97 ≤ mt_ch T N i ∧ mt_ch T N i ≤ 122
    · exact q
    · rw [if_neg (by omega), if_neg (by omega), if_neg (by omega), if_neg (by omega), if_neg (by omega)] at hk
      exact absurd rfl hk
  have d : ¬ mt_dg (mt_ch T N i) := fun q => by have := q.2; omega
  have l := mt_ch_lt (T := T) (N := N) (i := i) (by omega)
  have hi0 := h.2.2.2.2.2.1
  have tk := (mt_tk_in (T := T) (N := N) (i := i)).2.2.2.1.2 hl
  have nx := mt_nx1 d (by omega)
  have vl := mt_vl1 d
  have e12 := h.2.2.2.1.2.2.1
  have e6 : σ 82 6 = v 6 := h.2.2.2.2.1 6 (by decide) (by decide)
  have hk7 : f_X7_kindOf n (mt_ch T N i) σ = some (mt_kind (mt_ch T N i), σ) := by
    unfold f_X7_kindOf mt_kind
    repeat' split
    all_goals rfl
  unfold f_X7_readsCorner
  rw [e12, vl, hk7, am_b2_some, e6]
  constructor
  · intro h6
    obtain ⟨σ', e1, m1⟩ := mt_mtake0 (n := n) (k := 3) h x0 x8
    refine ⟨σ', ?_, m1⟩
    rw [if_neg (show ¬ v 6 < 6 by omega)]
    unfold fb_X7_readsCorner_26
    rw [e1, am_b2_some, mt_f57 m1, mt_f57 m1]
    split <;> rfl
  · intro h6
    obtain ⟨σ1, e1, m1⟩ := mt_mtake1 (n := n) (b := 1) (k := 3) hn hT h (by decide) (by rw [tk]; decide) (by omega) (by omega)
    rw [nx] at m1
    have e6' : σ1 82 6 = v 6 := m1.2.2.2.2.1 6 (by decide) (by decide)
    rw [if_pos (show v 6 < 6 by omega)]
    unfold fb_X7_readsCorner_26
    rw [e1, am_b2_some, e6', if_pos (show v 6 < 6 by omega)]
    unfold fb_X7_readsCorner_57
    rw [am_w_id (z := 3 * v 6) (by omega), am_w_id (z := 7 + 3 * v 6) (by omega)]
    have F := mt_mfig (n := n) (lo := 0) (hi := 9) hn hT m1 x0 x8
    unfold mt_corner
    cases a1 : mt_fig T N 0 9 (i + 1) with
    | inl e =>
      rw [a1] at F
      obtain ⟨σ2, e2, m2⟩ := F
      refine ⟨σ2, ?_, m2⟩
      rw [e2, am_b2_some, mt_ffol m2, am_b2_some, mt_f91 m2, mt_f91 m2]
      split <;> rfl
    | inr q =>
      rw [a1] at F
      obtain ⟨r2, σ2, e2, rfl, m2⟩ := F
      rw [e2, am_b2_some]
      have G := mt_mfol (n := n) (lo := 0) (hi := 9) hn hT m2 x0 x8
      have cont : ∀ x : mt_S (Int × Int), mt_MR f0 x (f_X7_follows n 0 9 σ2) (fun q r σ' => r = q.1 ∧ mt_MS T N f0 σ' v q.2) → mt_MU f0 (mt_bd x (fun q2 => mt_bd (mt_take T N 59 q2.2) fun j3 => (.inr (q.1, q2.1, j3) : mt_S (Int × Int × Int)))) (am_b2 (f_X7_follows n 0 9 σ2) fun r13 σ14 => if σ14 75 11 = 4 then (fb_X7_readsCorner_91 n (mt_kind (mt_ch T N i)) (7 + 3 * v 6) q.1 r13 1 σ14) else (fb_X7_readsCorner_91 n (mt_kind (mt_ch T N i)) (7 + 3 * v 6) q.1 r13 0 σ14)) (fun y σ' => mt_MS T N f0 σ' (mt_addc v (mt_kind (mt_ch T N i)) y.1 y.2.1) y.2.2) := by
        intro x hx
        cases x with
        | inl e =>
          obtain ⟨σ3, e3, m3⟩ := hx
          refine ⟨σ3, ?_, m3⟩
          rw [e3, am_b2_some, mt_f91 m3, mt_f91 m3]
          split <;> rfl
        | inr q2 =>
          obtain ⟨r3, σ3, e3, rfl, m3⟩ := hx
          rw [e3, am_b2_some]
          have S := mt_msign (n := n) (c := 59) (t := 4) hn hT m3 x0 x8 (by omega) (by decide) (mt_tk_in (T := T) (N := N) (i := q2.2)).2.1
          have E : (if σ3 75 11 = 4 then (fb_X7_readsCorner_91 n (mt_kind (mt_ch T N i)) (7 + 3 * v 6) q.1 q2.1 1 σ3) else (fb_X7_readsCorner_91 n (mt_kind (mt_ch T N i)) (7 + 3 * v 6) q.1 q2.1 0 σ3)) = am_b2 (if σ3 75 11 = 4 then f_X7_takes n 1 1 σ3 else f_X7_takes n 0 1 σ3) (fun r17 σ18 => am_b2 (f_X7_isWell n σ18) fun r20 σ21 => if r20 = 0 then (some σ21) else (if (0 : Int) ≤ 7 + 3 * v 6 ∧ 7 + 3 * v 6 < 42 then am_b1 (some (am_up σ21 82 (7 + 3 * v 6) (mt_kind (mt_ch T N i)))) fun σ24 => if (0 : Int) ≤ am_w (7 + 3 * v 6 + 1) ∧ am_w (7 + 3 * v 6 + 1) < 42 then am_b1 (some (am_up σ24 82 (am_w (7 + 3 * v 6 + 1)) q.1)) fun σ27 => if (0 : Int) ≤ am_w (7 + 3 * v 6 + 2) ∧ am_w (7 + 3 * v 6 + 2) < 42 then am_b1 (some (am_up σ27 82 (am_w (7 + 3 * v 6 + 2)) q2.1)) fun σ30 => am_b1 (some (am_up σ30 82 6 (am_w ((σ30 82 6) + 1)))) fun σ32 => some σ32 else none else none else none)) := by
            split <;> rfl
          rw [E]
          show mt_MU f0 (mt_bd (mt_take T N 59 q2.2) fun j3 => (.inr (q.1, q2.1, j3) : mt_S (Int × Int × Int))) _ _
          cases a5 : mt_take T N 59 q2.2 with
          | inl e =>
            rw [a5] at S
            obtain ⟨σ4, e4, m4⟩ := S
            refine ⟨σ4, ?_, m4⟩
            rw [e4, am_b2_some, mt_fwell m4, am_b2_some, if_pos rfl]
          | inr j3 =>
            rw [a5] at S
            obtain ⟨r4, σ4, e4, m4⟩ := S
            rw [e4, am_b2_some, mt_mwell m4, am_b2_some, if_neg (show ¬ (1 : Int) = 0 by decide), if_pos (show (0 : Int) ≤ 7 + 3 * v 6 ∧ 7 + 3 * v 6 < 42 by omega), am_b1_some, am_w_id (z := 7 + 3 * v 6 + 1) (by omega), am_w_id (z := 7 + 3 * v 6 + 2) (by omega), if_pos (show (0 : Int) ≤ 7 + 3 * v 6 + 1 ∧ 7 + 3 * v 6 + 1 < 42 by omega), am_b1_some, if_pos (show (0 : Int) ≤ 7 + 3 * v 6 + 2 ∧ 7 + 3 * v 6 + 2 < 42 by omega), am_b1_some]
            obtain ⟨n1, n2, n3, n4, n5, n6, n7⟩ := m4
            rw [mv_up_j (show (6 : Int) ≠ 7 + 3 * v 6 + 2 by omega), mv_up_j (show (6 : Int) ≠ 7 + 3 * v 6 + 1 by omega), mv_up_j (show (6 : Int) ≠ 7 + 3 * v 6 by omega), n5 6 (by decide) (by decide), am_w_id (z := v 6 + 1) (by omega), show 7 + 3 * v 6 + 1 = 8 + 3 * v 6 by omega, show 7 + 3 * v 6 + 2 = 9 + 3 * v 6 by omega]
            have N82 : ∀ c : Nat, c ≠ 82 → (am_up (am_up (am_up (am_up σ4 82 (7 + 3 * v 6) (mt_kind (mt_ch T N i))) 82 (8 + 3 * v 6) q.1) 82 (9 + 3 * v 6) q2.1) 82 6 (v 6 + 1)) c = σ4 c := fun c hc => by
              rw [ah_up_ne _ _ _ hc, ah_up_ne _ _ _ hc, ah_up_ne _ _ _ hc, ah_up_ne _ _ _ hc]
            refine ⟨_, rfl, ?_, ?_, ?_, ?_, mv_V0_up (mv_V0_up (mv_V0_up (mv_V0_up n5))), n6, n7⟩
            · rw [N82 75 (by decide)]; exact n1
            · rw [N82 75 (by decide), N82 81 (by decide)]; exact n2
            · unfold mt_MT
              rw [N82 75 (by decide), N82 80 (by decide)]
              exact n3
            · unfold mt_TK
              rw [N82 75 (by decide)]
              exact n4
      have C := cont _ G
      have assoc : mt_bd (mt_bd (mt_take T N 44 q.2) fun j => mt_fig T N 0 9 j) (fun q2 => mt_bd (mt_take T N 59 q2.2) fun j3 => (.inr (q.1, q2.1, j3) : mt_S (Int × Int × Int))) = mt_bd (mt_take T N 44 q.2) fun j => mt_bd (mt_fig T N 0 9 j) fun q2 => mt_bd (mt_take T N 59 q2.2) fun j3 => .inr (q.1, q2.1, j3) := by
        cases mt_take T N 44 q.2 with
        | inl e => rfl
        | inr j => rfl
      rw [assoc] at C
      exact C
