/-! the model's streets -/
theorem mt_mtold {n : Nat} {σ : am_Mem} {v : Int → Int} {f t : Int} (r : mv_V0 σ 82 v) (x8 : v 25 ≤ 8) : ∀ (m fu : Nat) (x : Int), 0 ≤ x → x + m = v 25 → m < fu → fl_X7_isStreetTold_5 n fu f t 0 x σ = some (mt_told v f t m x, σ) ∧ fl_X7_isStreetTold_5 n fu f t 1 x σ = some (1, σ) := by
  intro m
  induction m with
  | zero =>
    intro fu x x0 hx hf
    obtain ⟨fu, rfl⟩ : ∃ q, fu = q + 1 := ⟨fu - 1, by omega⟩
    have E : ∀ y : Int, y = 0 ∨ y = 1 → fl_X7_isStreetTold_5 n (fu + 1) f t y x σ = some (y, σ) := by
      intro y hy
      show fb_X7_isStreetTold_5 n _ f t y x σ = _
      unfold fb_X7_isStreetTold_5
      rw [r 25 (by decide) (by decide), if_neg (show ¬ x < v 25 by omega), if_pos hy]
    exact ⟨E 0 (Or.inl rfl), E 1 (Or.inr rfl)⟩
  | succ m ih =>
    intro fu x x0 hx hf
    obtain ⟨fu, rfl⟩ : ∃ q, fu = q + 1 := ⟨fu - 1, by omega⟩
    obtain ⟨i0, i1⟩ := ih fu (x + 1) (by omega) (by omega) (by omega)
    constructor
    · show fb_X7_isStreetTold_5 n (fun y1 y2 y3 y4 σ => fl_X7_isStreetTold_5 n fu y1 y2 y3 y4 σ) f t 0 x σ = _
      unfold fb_X7_isStreetTold_5 mt_told
      have q1 : σ 82 (26 + 2 * x) = v (26 + 2 * x) := mv_at r rfl (by omega)
      have q2 : σ 82 (26 + 2 * x + 1) = v (27 + 2 * x) := mv_at r (by omega) (by omega)
      rw [r 25 (by decide) (by decide), if_pos (show x < v 25 by omega), if_pos rfl, am_w_id (z := 2 * x) (by omega), am_w_id (z := 26 + 2 * x) (by omega), am_w_id (z := 26 + 2 * x + 1) (by omega), am_w_id (z := x + 1) (by omega), if_pos (show (0 : Int) ≤ 26 + 2 * x ∧ 26 + 2 * x < 42 by omega), if_pos (show (0 : Int) ≤ 26 + 2 * x + 1 ∧ 26 + 2 * x + 1 < 42 by omega), q1, q2]
      by_cases h1 : v (26 + 2 * x) = f
      · rw [if_pos h1]
        by_cases h2 : v (27 + 2 * x) = t
        · rw [if_pos h2, if_pos ⟨h1, h2⟩]
          exact i1
        · rw [if_neg h2, if_neg (fun z => h2 z.2)]
          exact i0
      · rw [if_neg h1, if_neg (fun z => h1 z.1)]
        exact i0
    · show fb_X7_isStreetTold_5 n (fun y1 y2 y3 y4 σ => fl_X7_isStreetTold_5 n fu y1 y2 y3 y4 σ) f t 1 x σ = _
      unfold fb_X7_isStreetTold_5
      rw [r 25 (by decide) (by decide), if_pos (show x < v 25 by omega), if_neg (show ¬ (1 : Int) = 0 by decide), am_w_id (z := x + 1) (by omega)]
      exact i1
theorem mt_fto {n : Nat} {f0 σ : am_Mem} {e : Int × Int} {p : Int} (hn : 10000000000 ≤ n) (h : mt_MF f0 σ e) : f_X7_toFigure n p σ = some (0, σ) := by
  have h5 : 0 ≤ σ 82 25 := h.2.2.2.1
  have h6 : σ 82 25 ≤ 8 := h.2.2.2.2.1
  have et : ∀ a b : Int, f_X7_isStreetTold n a b σ = some (mt_told (σ 82) a b (σ 82 25).toNat 0, σ) := fun a b => (mt_mtold (n := n) (v := σ 82) (fun _ _ _ => rfl) h6 (σ 82 25).toNat n 0 (by omega) (by omega) (by omega)).1
  unfold f_X7_toFigure
  rw [mt_fwell h, am_b2_some, if_pos rfl]
  unfold fb_X7_toFigure_22
  rw [mv_in, am_b2_some, et, am_b2_some, mt_ftake h, am_b2_some, mt_ftake h, am_b2_some]
  repeat' split
  all_goals rfl
theorem mt_mto {n : Nat} {T : Int → Int} {f0 : am_Mem} {N i p : Int} {σ : am_Mem} {v : Int → Int} (hn : 10000000000 ≤ n) (hT : mt_TN T N) (h : mt_MS T N f0 σ v i) (x0 : 0 ≤ v 25) (x8 : v 25 ≤ 8) (c0 : 0 ≤ v 6) (c6 : v 6 ≤ 6) : mt_MR f0 (mt_bd (mt_fig T N 0 (v 6 - 1) i) fun q => if p = q.1 ∨ mt_told v p q.1 (v 25).toNat 0 = 1 then .inl (i, 2) else .inr q) (f_X7_toFigure n p σ) (fun q r σ' => r = q.1 ∧ mt_MS T N f0 σ' v q.2) := by
  have e11 := h.2.2.2.1.2.1
  have e12 := h.2.2.2.1.2.2.1
  have tk := (mt_tk_in (T := T) (N := N) (i := i)).2.2.2.2
  have hi0 := h.2.2.2.2.2.1
  have e6 : σ 82 6 = v 6 := h.2.2.2.2.1 6 (by decide) (by decide)
  unfold f_X7_toFigure
  rw [mt_mwell h, am_b2_some, if_neg (show ¬ (1 : Int) = 0 by decide), e11]
  obtain ⟨σ2, e2, m2⟩ := mt_mtake0 (n := n) (k := 2) h x0 x8
  by_cases g : mt_r T N i = 1 ∨ mt_r T N i = 2
  · have d : mt_dg (mt_ch T N i) := by
      rcases mt_r_in (T := T) (N := N) (i := i) with ⟨a, _⟩ | ⟨_, b, _⟩ | ⟨_, b, _⟩ | ⟨a, _⟩
      · omega
      · exact b
      · exact b
      · omega
    have vl : mt_vl T N i = mt_val T N i := by unfold mt_vl; rw [if_pos d]
    have nx : mt_nx T N i = i + mt_r T N i := by unfold mt_nx; rw [if_pos d]
    rw [if_pos (tk.2 g)]
    unfold fb_X7_toFigure_22
    rw [e12, vl, e6, am_w_id (z := v 6 - 1) (by omega), mv_in, am_b2_some, e12, vl]
    by_cases g2 : 0 ≤ mt_val T N i ∧ mt_val T N i ≤ v 6 - 1
    · have ef : mt_fig T N 0 (v 6 - 1) i = .inr (mt_val T N i, i + mt_r T N i) := by unfold mt_fig; rw [if_pos g, if_pos g2]
      have b := mt_fig_inr ef
      have b5 : i + mt_r T N i ≤ N := b.2.2.2.2.1
      have b4 : i < i + mt_r T N i := b.2.2.2.1
      have et : f_X7_isStreetTold n p (mt_val T N i) σ = some (mt_told v p (mt_val T N i) (v 25).toNat 0, σ) := (mt_mtold (n := n) h.2.2.2.2.1 x8 (v 25).toNat n 0 (by omega) (by omega) (by omega)).1
      rw [ef, if_pos g2, if_neg (show ¬ (1 : Int) = 0 by decide)]
      show mt_MR f0 (if p = mt_val T N i ∨ mt_told v p (mt_val T N i) (v 25).toNat 0 = 1 then .inl (i, 2) else .inr (mt_val T N i, i + mt_r T N i)) _ _
      by_cases g3 : mt_val T N i = p
      · rw [if_pos g3, if_pos (Or.inl g3.symm), e2, am_b2_some]
        exact ⟨σ2, rfl, m2⟩
      · rw [if_neg g3, et, am_b2_some]
        rcases mt_told01 v p (mt_val T N i) (v 25).toNat 0 with t0 | t1
        · obtain ⟨σ', e1, m1⟩ := mt_mtake1 (n := n) (b := 1) (k := 2) hn hT h (by decide) (by rw [tk.2 g]; decide) (by omega) (by omega)
          rw [t0, if_pos rfl, e1, am_b2_some, if_neg (show ¬ (p = mt_val T N i ∨ (0 : Int) = 1) from fun z => z.elim (fun y => g3 y.symm) (by decide))]
          rw [nx] at m1
          exact ⟨_, σ', rfl, vl, m1⟩
        · rw [t1, if_neg (show ¬ (1 : Int) = 0 by decide), e2, am_b2_some, if_pos (Or.inr rfl)]
          exact ⟨σ2, rfl, m2⟩
    · have ef : mt_fig T N 0 (v 6 - 1) i = .inl (i, 2) := by unfold mt_fig; rw [if_pos g, if_neg g2]
      rw [ef, if_neg g2, if_pos rfl, e2, am_b2_some]
      exact ⟨σ2, rfl, m2⟩
  · have ef : mt_fig T N 0 (v 6 - 1) i = .inl (i, 1) := by unfold mt_fig; rw [if_neg g]
    obtain ⟨σ', e1, m1⟩ := mt_mtake0 (n := n) (k := 1) h x0 x8
    rw [ef, if_neg (fun q => g (tk.1 q)), e1, am_b2_some]
    exact ⟨σ', rfl, m1⟩
theorem mt_f106 {n : Nat} {f0 σ : am_Mem} {e : Int × Int} {a b c s : Int} (h : mt_MF f0 σ e) : fb_X7_readsStreet_106 n a b c s σ = some σ := by
  unfold fb_X7_readsStreet_106
  rw [mt_ftake h, am_b2_some, mt_fwell h, am_b2_some, if_pos rfl]
theorem mt_f81 {n : Nat} {f0 σ : am_Mem} {e : Int × Int} {a b s : Int} (hn : 10000000000 ≤ n) (h : mt_MF f0 σ e) : fb_X7_readsStreet_81 n a b s σ = some σ := by
  unfold fb_X7_readsStreet_81
  rw [mt_ftake h, am_b2_some, mt_fto hn h, am_b2_some, mt_f106 h, mt_f106 h]
  split <;> rfl
theorem mt_f49 {n : Nat} {f0 σ : am_Mem} {e : Int × Int} {a b c : Int} (hn : 10000000000 ≤ n) (h : mt_MF f0 σ e) : fb_X7_readsStreet_49 n a b c σ = some σ := by
  unfold fb_X7_readsStreet_49
  rw [mt_ffig h, am_b2_some, mt_f81 hn h, mt_f81 hn h]
  split <;> rfl
theorem mt_mstreet {n : Nat} {T : Int → Int} {f0 : am_Mem} {N i : Int} {σ : am_Mem} {v : Int → Int} (hn : 10000000000 ≤ n) (hT : mt_TN T N) (h : mt_MS T N f0 σ v i) (x0 : 0 ≤ v 25) (x8 : v 25 ≤ 8) (c0 : 0 ≤ v 6) (c6 : v 6 ≤ 6) (hk : mt_ch T N i = 120) :
    (v 25 = 8 → ∃ σ', f_X7_readsStreet n σ = some σ' ∧ mt_MF f0 σ' (i, 3)) ∧ (v 25 ≠ 8 → mt_MU f0 (mt_ends T N v (i + 1)) (f_X7_readsStreet n σ) (fun q σ' => mt_MS T N f0 σ' (mt_adds v q.1 q.2.1) q.2.2)) := by
  have d : ¬ mt_dg (mt_ch T N i) := fun q => by have := q.2; omega
  have l := mt_ch_lt (T := T) (N := N) (i := i) (by omega)
  have hi0 := h.2.2.2.2.2.1
  have tk := (mt_tk_in (T := T) (N := N) (i := i)).2.2.2.1.2 (by omega)
  have nx := mt_nx1 d (by omega)
  have e25 : σ 82 25 = v 25 := h.2.2.2.2.1 25 (by decide) (by decide)
  unfold f_X7_readsStreet
  rw [e25]
  constructor
  · intro h8
    obtain ⟨σ', e1, m1⟩ := mt_mtake0 (n := n) (k := 3) h x0 x8
    refine ⟨σ', ?_, m1⟩
    rw [if_neg (show ¬ v 25 < 8 by omega)]
    unfold fb_X7_readsStreet_18
    rw [e1, am_b2_some, mt_f49 hn m1, mt_f49 hn m1]
    split <;> rfl
  · intro h8
    obtain ⟨σ1, e1, m1⟩ := mt_mtake1 (n := n) (b := 1) (k := 3) hn hT h (by decide) (by rw [tk]; decide) (by omega) (by omega)
    rw [nx] at m1
    have e25' : σ1 82 25 = v 25 := m1.2.2.2.2.1 25 (by decide) (by decide)
    have e6' : σ1 82 6 = v 6 := m1.2.2.2.2.1 6 (by decide) (by decide)
    rw [if_pos (show v 25 < 8 by omega)]
    unfold fb_X7_readsStreet_18
    rw [e1, am_b2_some, e25', if_pos (show v 25 < 8 by omega)]
    unfold fb_X7_readsStreet_49
    rw [am_w_id (z := 2 * v 25) (by omega), am_w_id (z := 26 + 2 * v 25) (by omega), e6', am_w_id (z := v 6 - 1) (by omega)]
    have F := mt_mfig (n := n) (lo := 0) (hi := v 6 - 1) hn hT m1 x0 x8
    unfold mt_ends
    cases a1 : mt_fig T N 0 (v 6 - 1) (i + 1) with
    | inl e =>
      rw [a1] at F
      obtain ⟨σ2, e2, m2⟩ := F
      refine ⟨σ2, ?_, m2⟩
      rw [e2, am_b2_some, mt_f81 hn m2, mt_f81 hn m2]
      split <;> rfl
    | inr q =>
      rw [a1] at F
      obtain ⟨r2, σ2, e2, rfl, m2⟩ := F
      rw [e2, am_b2_some]
      have S := mt_msign (n := n) (c := 44) (t := 3) hn hT m2 x0 x8 (by omega) (by decide) (mt_tk_in (T := T) (N := N) (i := q.2)).1
      have E : (if σ2 75 11 = 3 then (fb_X7_readsStreet_81 n (26 + 2 * v 25) q.1 1 σ2) else (fb_X7_readsStreet_81 n (26 + 2 * v 25) q.1 0 σ2)) = am_b2 (if σ2 75 11 = 3 then f_X7_takes n 1 1 σ2 else f_X7_takes n 0 1 σ2) (fun r11 σ12 => am_b2 (f_X7_toFigure n q.1 σ12) fun r14 σ15 => if σ15 75 11 = 4 then (fb_X7_readsStreet_106 n (26 + 2 * v 25) q.1 r14 1 σ15) else (fb_X7_readsStreet_106 n (26 + 2 * v 25) q.1 r14 0 σ15)) := by
        split <;> rfl
      rw [E]
      show mt_MU f0 (mt_bd (mt_take T N 44 q.2) _) _ _
      cases a2 : mt_take T N 44 q.2 with
      | inl e =>
        rw [a2] at S
        obtain ⟨σ3, e3, m3⟩ := S
        refine ⟨σ3, ?_, m3⟩
        rw [e3, am_b2_some, mt_fto hn m3, am_b2_some, mt_f106 m3, mt_f106 m3]
        split <;> rfl
      | inr j =>
        rw [a2] at S
        obtain ⟨r3, σ3, e3, m3⟩ := S
        rw [e3, am_b2_some]
        have G := mt_mto (n := n) (p := q.1) hn hT m3 x0 x8 c0 c6
        have cont : ∀ x : mt_S (Int × Int), mt_MR f0 x (f_X7_toFigure n q.1 σ3) (fun q r σ' => r = q.1 ∧ mt_MS T N f0 σ' v q.2) → mt_MU f0 (mt_bd x (fun q2 => mt_bd (mt_take T N 59 q2.2) fun j3 => (.inr (q.1, q2.1, j3) : mt_S (Int × Int × Int)))) (am_b2 (f_X7_toFigure n q.1 σ3) fun r14 σ15 => if σ15 75 11 = 4 then (fb_X7_readsStreet_106 n (26 + 2 * v 25) q.1 r14 1 σ15) else (fb_X7_readsStreet_106 n (26 + 2 * v 25) q.1 r14 0 σ15)) (fun y σ' => mt_MS T N f0 σ' (mt_adds v y.1 y.2.1) y.2.2) := by
          intro x hx
          cases x with
          | inl e =>
            obtain ⟨σ4, e4, m4⟩ := hx
            refine ⟨σ4, ?_, m4⟩
            rw [e4, am_b2_some, mt_f106 m4, mt_f106 m4]
            split <;> rfl
          | inr q2 =>
            obtain ⟨r4, σ4, e4, rfl, m4⟩ := hx
            rw [e4, am_b2_some]
            have S := mt_msign (n := n) (c := 59) (t := 4) hn hT m4 x0 x8 (by omega) (by decide) (mt_tk_in (T := T) (N := N) (i := q2.2)).2.1
            have E : (if σ4 75 11 = 4 then (fb_X7_readsStreet_106 n (26 + 2 * v 25) q.1 q2.1 1 σ4) else (fb_X7_readsStreet_106 n (26 + 2 * v 25) q.1 q2.1 0 σ4)) = am_b2 (if σ4 75 11 = 4 then f_X7_takes n 1 1 σ4 else f_X7_takes n 0 1 σ4) (fun r18 σ19 => am_b2 (f_X7_isWell n σ19) fun r21 σ22 => if r21 = 0 then (some σ22) else (if (0 : Int) ≤ 26 + 2 * v 25 ∧ 26 + 2 * v 25 < 42 then am_b1 (some (am_up σ22 82 (26 + 2 * v 25) q.1)) fun σ25 => if (0 : Int) ≤ am_w (26 + 2 * v 25 + 1) ∧ am_w (26 + 2 * v 25 + 1) < 42 then am_b1 (some (am_up σ25 82 (am_w (26 + 2 * v 25 + 1)) q2.1)) fun σ28 => am_b1 (some (am_up σ28 82 5 (am_or (σ28 82 5) (am_shl 1 (σ28 82 25))))) fun σ30 => am_b1 (some (am_up σ30 82 25 (am_w ((σ30 82 25) + 1)))) fun σ32 => some σ32 else none else none)) := by
              split <;> rfl
            rw [E]
            show mt_MU f0 (mt_bd (mt_take T N 59 q2.2) fun j3 => (.inr (q.1, q2.1, j3) : mt_S (Int × Int × Int))) _ _
            cases a5 : mt_take T N 59 q2.2 with
            | inl e =>
              rw [a5] at S
              obtain ⟨σ5, e5, m5⟩ := S
              refine ⟨σ5, ?_, m5⟩
              rw [e5, am_b2_some, mt_fwell m5, am_b2_some, if_pos rfl]
            | inr j3 =>
              rw [a5] at S
              obtain ⟨r5, σ5, e5, m5⟩ := S
              rw [e5, am_b2_some, mt_mwell m5, am_b2_some, if_neg (show ¬ (1 : Int) = 0 by decide), if_pos (show (0 : Int) ≤ 26 + 2 * v 25 ∧ 26 + 2 * v 25 < 42 by omega), am_b1_some, am_w_id (z := 26 + 2 * v 25 + 1) (by omega), if_pos (show (0 : Int) ≤ 26 + 2 * v 25 + 1 ∧ 26 + 2 * v 25 + 1 < 42 by omega), am_b1_some, am_b1_some]
              obtain ⟨n1, n2, n3, n4, n5, n6, n7⟩ := m5
              rw [mv_up_j (show (25 : Int) ≠ 5 by decide), mv_up_j (show (25 : Int) ≠ 26 + 2 * v 25 + 1 by omega), mv_up_j (show (25 : Int) ≠ 26 + 2 * v 25 by omega), n5 25 (by decide) (by decide), mv_up_j (show (5 : Int) ≠ 26 + 2 * v 25 + 1 by omega), mv_up_j (show (5 : Int) ≠ 26 + 2 * v 25 by omega), n5 5 (by decide) (by decide), am_w_id (z := v 25 + 1) (by omega), show 26 + 2 * v 25 + 1 = 27 + 2 * v 25 by omega]
              have N82 : ∀ c : Nat, c ≠ 82 → (am_up (am_up (am_up (am_up σ5 82 (26 + 2 * v 25) q.1) 82 (27 + 2 * v 25) q2.1) 82 5 (am_or (v 5) (am_shl 1 (v 25)))) 82 25 (v 25 + 1)) c = σ5 c := fun c hc => by
                rw [ah_up_ne _ _ _ hc, ah_up_ne _ _ _ hc, ah_up_ne _ _ _ hc, ah_up_ne _ _ _ hc]
              refine ⟨_, rfl, ?_, ?_, ?_, ?_, mv_V0_up (mv_V0_up (mv_V0_up (mv_V0_up n5))), n6, n7⟩
              · rw [N82 75 (by decide)]; exact n1
              · rw [N82 75 (by decide), N82 81 (by decide)]; exact n2
              · unfold mt_MT
                rw [N82 75 (by decide), N82 80 (by decide)]
                exact n3
              · unfold mt_TK
                rw [N82 75 (by decide)]
                exact n4
        have C := cont _ G
        have assoc : mt_bd (mt_bd (mt_fig T N 0 (v 6 - 1) j) fun q' => if q.1 = q'.1 ∨ mt_told v q.1 q'.1 (v 25).toNat 0 = 1 then .inl (j, 2) else .inr q') (fun q2 => mt_bd (mt_take T N 59 q2.2) fun j3 => (.inr (q.1, q2.1, j3) : mt_S (Int × Int × Int))) = mt_bd (mt_fig T N 0 (v 6 - 1) j) fun q2 => if q.1 = q2.1 ∨ mt_told v q.1 q2.1 (v 25).toNat 0 = 1 then .inl (j, 2) else mt_bd (mt_take T N 59 q2.2) fun j3 => .inr (q.1, q2.1, j3) := by
          cases mt_fig T N 0 (v 6 - 1) j with
          | inl e => rfl
          | inr q' =>
            show mt_bd (if q.1 = q'.1 ∨ mt_told v q.1 q'.1 (v 25).toNat 0 = 1 then .inl (j, 2) else .inr q') _ = (if q.1 = q'.1 ∨ mt_told v q.1 q'.1 (v 25).toNat 0 = 1 then .inl (j, 2) else mt_bd (mt_take T N 59 q'.2) fun j3 => .inr (q.1, q'.1, j3))
            split <;> rfl
        rw [assoc] at C
        exact C
