/-! the model's whole reading; town -/
/-- where the reading ends, ahead of its answer -/
def mt_MV (T : Int → Int) (N : Int) (n : Nat) (f0 : am_Mem) (x : mt_S (Int → Int)) (o : Option (Int × am_Mem)) : Prop := match x with
  | .inl e => ∃ σ', o = fb_X7_town_224 n σ' ∧ mt_MF f0 σ' e
  | .inr v => ∃ σ' j, o = fb_X7_town_224 n σ' ∧ mt_MS T N f0 σ' v j
theorem mt_f172 {n : Nat} {f0 σ : am_Mem} {e : Int × Int} (h : mt_MF f0 σ e) (fu : Nat) : fl_X7_town_172 n (fu + 1) σ = fb_X7_town_224 n σ := by
  show fb_X7_town_172 n _ σ = _
  unfold fb_X7_town_172
  rw [mt_fwell h, am_b2_some, if_pos rfl, mt_fwell h, am_b2_some, if_pos rfl]
theorem mt_f140 {n : Nat} {f0 σ : am_Mem} {e : Int × Int} (h : mt_MF f0 σ e) (hn : 10000000000 ≤ n) (fu : Nat) : fl_X7_town_140 n (fu + 1) σ = fb_X7_town_224 n σ := by
  show fb_X7_town_140 n _ σ = _
  unfold fb_X7_town_140
  rw [mt_fwell h, am_b2_some, if_pos rfl]
  have := mt_f172 (n := n) h (n - 1)
  rw [show n - 1 + 1 = n by omega] at this
  exact this
theorem mt_m172 {n : Nat} {T : Int → Int} {f0 : am_Mem} {N : Int} (hn : 10000000000 ≤ n) (hT : mt_TN T N) : ∀ (m fu : Nat) (v : Int → Int) (i : Int) (σ : am_Mem), mt_W v → v 25 + m = 9 → m + 1 < fu → mt_MS T N f0 σ v i → mt_MV T N n f0 (mt_bd (mt_streets T N m v i) fun q => .inr q.1) (fl_X7_town_172 n fu σ) := by
  intro m
  induction m with
  | zero =>
    intro fu v i σ w hm _ _
    have := w.1.2.2.2.1
    omega
  | succ m ih =>
    intro fu v i σ w hm hf h
    obtain ⟨fu, rfl⟩ : ∃ q, fu = q + 1 := ⟨fu - 1, by omega⟩
    have w1 := w.1
    have x0 : 0 ≤ v 25 := w1.2.2.1
    have x8 : v 25 ≤ 8 := w1.2.2.2.1
    have e11 := h.2.2.2.1.2.1
    have e12 := h.2.2.2.1.2.2.1
    have hi0 := h.2.2.2.2.2.1
    have hiN := h.2.2.2.2.2.2
    have tki := mt_tk_in (T := T) (N := N) (i := i)
    show mt_MV T N n f0 (mt_bd (mt_streets T N (m + 1) v i) fun q => .inr q.1) (fb_X7_town_172 n (fun σ => fl_X7_town_172 n fu σ) σ)
    unfold fb_X7_town_172 mt_streets
    simp only [mt_mwell h, am_b2_some, if_neg (show ¬ (1 : Int) = 0 by decide), e11, e12]
    by_cases hi : i < N
    · have hc : 0 ≤ mt_ch T N i := by
        unfold mt_ch
        rw [if_pos hi]
        exact (hT.2.2 i hi0 hi).1
      have t0 : mt_tk T N i ≠ 0 := fun q => by have := tki.2.2.1.1 q; omega
      rw [if_pos hi]
      by_cases hx : mt_ch T N i = 120
      · have d : ¬ mt_dg (mt_ch T N i) := fun q => by have := q.2; omega
        obtain ⟨M1, M2⟩ := mt_mstreet (n := n) hn hT h x0 x8 w1.1 w1.2.1 hx
        rw [if_pos (tki.2.2.2.1.2 (by omega)), mt_vl1 d, if_pos hx, if_pos hx]
        by_cases h8 : v 25 = 8
        · obtain ⟨σ', e1, m1⟩ := M1 h8
          rw [if_pos h8, e1, am_b1_some]
          refine ⟨σ', ?_, m1⟩
          obtain ⟨fu, rfl⟩ : ∃ q, fu = q + 1 := ⟨fu - 1, by omega⟩
          exact mt_f172 m1 fu
        · have M2 := M2 h8
          rw [if_neg h8]
          cases a : mt_ends T N v (i + 1) with
          | inl e =>
            rw [a] at M2
            obtain ⟨σ', e1, m1⟩ := M2
            rw [e1, am_b1_some]
            refine ⟨σ', ?_, m1⟩
            obtain ⟨fu, rfl⟩ : ∃ q, fu = q + 1 := ⟨fu - 1, by omega⟩
            exact mt_f172 m1 fu
          | inr q =>
            rw [a] at M2
            obtain ⟨σ', e1, m1⟩ := M2
            have b := mt_ends_inr a
            have e25 : mt_adds v q.1 q.2.1 25 = v 25 + 1 := mv_set_eq
            rw [e1, am_b1_some]
            exact ih fu (mt_adds v q.1 q.2.1) q.2.2 σ' (mt_adds_W w (by omega) b.1 b.2.1 b.2.2.1 b.2.2.2) (by omega) (by omega) m1
      · obtain ⟨σ', e1, m1⟩ := mt_mtake0 (n := n) (k := 1) h x0 x8
        rw [if_neg hx, e1, am_b2_some, if_neg t0]
        refine ⟨σ', ?_, m1⟩
        by_cases t1 : mt_tk T N i = 1
        · have d : ¬ mt_dg (mt_ch T N i) := fun q => by have := q.2; have := (tki.2.2.2.1.1 t1).1; omega
          rw [if_pos t1, mt_vl1 d, if_neg hx]
        · rw [if_neg t1]
    · have hc : mt_ch T N i = -1 := by unfold mt_ch; rw [if_neg hi]
      have t0 : mt_tk T N i = 0 := tki.2.2.1.2 (by omega)
      rw [if_neg hi, t0, if_neg (show ¬ (0 : Int) = 1 by decide), if_pos rfl]
      exact ⟨σ, i, rfl, h⟩
theorem mt_m140 {n : Nat} {T : Int → Int} {f0 : am_Mem} {N : Int} (hn : 10000000000 ≤ n) (hT : mt_TN T N) : ∀ (m fu : Nat) (v : Int → Int) (i : Int) (σ : am_Mem), mt_W v → v 25 = 0 → v 6 + m = 7 → m + 1 < fu → (0 < v 6 ∨ mt_kind (mt_ch T N i) ≠ 0) → mt_MS T N f0 σ v i → mt_MV T N n f0 (mt_bd (mt_corners T N m v i) fun q2 => mt_bd (mt_streets T N 9 q2.1 q2.2) fun q3 => .inr q3.1) (fl_X7_town_140 n fu σ) := by
  intro m
  induction m with
  | zero =>
    intro fu v i σ w _ hm _ _ _
    have := w.1.2.1
    omega
  | succ m ih =>
    intro fu v i σ w h25 hm hf hz h
    obtain ⟨fu, rfl⟩ : ∃ q, fu = q + 1 := ⟨fu - 1, by omega⟩
    have w1 := w.1
    have x0 : 0 ≤ v 25 := w1.2.2.1
    have x8 : v 25 ≤ 8 := w1.2.2.2.1
    have e11 := h.2.2.2.1.2.1
    have e12 := h.2.2.2.1.2.2.1
    have tki := mt_tk_in (T := T) (N := N) (i := i)
    have kk := mt_kind_in (mt_ch T N i)
    have S9 : mt_MV T N n f0 (mt_bd (mt_streets T N 9 v i) fun q => .inr q.1) (fl_X7_town_172 n n σ) := mt_m172 hn hT 9 n v i σ w (by omega) (by omega) h
    show mt_MV T N n f0 (mt_bd (mt_corners T N (m + 1) v i) fun q2 => mt_bd (mt_streets T N 9 q2.1 q2.2) fun q3 => .inr q3.1) (fb_X7_town_140 n (fun σ => fl_X7_town_140 n fu σ) σ)
    unfold fb_X7_town_140 mt_corners
    rw [mt_mwell h, am_b2_some, if_neg (show ¬ (1 : Int) = 0 by decide), e11, e12]
    by_cases hk : mt_kind (mt_ch T N i) = 0
    · rw [if_pos hk, if_neg (show ¬ v 6 ≤ 0 from fun q => hz.elim (fun y => by omega) (fun y => y hk))]
      show mt_MV T N n f0 (mt_bd (mt_streets T N 9 v i) fun q3 => .inr q3.1) _
      by_cases t1 : mt_tk T N i = 1
      · have d : ¬ mt_dg (mt_ch T N i) := fun q => by have := q.2; have := (tki.2.2.2.1.1 t1).1; omega
        have hk7 : f_X7_kindOf n (mt_ch T N i) σ = some (mt_kind (mt_ch T N i), σ) := by
          unfold f_X7_kindOf mt_kind
          repeat' split
          all_goals rfl
        rw [if_pos t1, mt_vl1 d, hk7, am_b2_some, hk, if_pos (show (0 : Int) ≤ 0 by decide)]
        exact S9
      · rw [if_neg t1]
        exact S9
    · have hl : 97 ≤ mt_ch T N i ∧ mt_ch T N i ≤ 122 := by
        by_cases q : 97 ≤ mt_ch T N i ∧ mt_ch T N i ≤ 122
        · exact q
        · exact absurd (by unfold mt_kind; rw [if_neg (by omega), if_neg (by omega), if_neg (by omega), if_neg (by omega), if_neg (by omega)]) hk
      have d : ¬ mt_dg (mt_ch T N i) := fun q => by have := q.2; omega
      have hk7 : f_X7_kindOf n (mt_ch T N i) σ = some (mt_kind (mt_ch T N i), σ) := by
        unfold f_X7_kindOf mt_kind
        repeat' split
        all_goals rfl
      obtain ⟨M1, M2⟩ := mt_mcorner (n := n) hn hT h x0 x8 w1.1 w1.2.1 hk
      rw [if_neg hk, if_pos (tki.2.2.2.1.2 hl), mt_vl1 d, hk7, am_b2_some, if_neg (show ¬ mt_kind (mt_ch T N i) ≤ 0 by omega)]
      by_cases h6 : v 6 = 6
      · obtain ⟨σ', e1, m1⟩ := M1 h6
        rw [if_pos h6, e1, am_b1_some]
        refine ⟨σ', ?_, m1⟩
        obtain ⟨fu, rfl⟩ : ∃ q, fu = q + 1 := ⟨fu - 1, by omega⟩
        exact mt_f140 m1 hn fu
      · have M2 := M2 h6
        rw [if_neg h6]
        cases a : mt_corner T N i with
        | inl e =>
          rw [a] at M2
          obtain ⟨σ', e1, m1⟩ := M2
          rw [e1, am_b1_some]
          refine ⟨σ', ?_, m1⟩
          obtain ⟨fu, rfl⟩ : ∃ q, fu = q + 1 := ⟨fu - 1, by omega⟩
          exact mt_f140 m1 hn fu
        | inr q =>
          rw [a] at M2
          obtain ⟨σ', e1, m1⟩ := M2
          have b := mt_corner_inr a
          have e6 : mt_addc v (mt_kind (mt_ch T N i)) q.1 q.2.1 6 = v 6 + 1 := mv_set_eq
          have e25 : mt_addc v (mt_kind (mt_ch T N i)) q.1 q.2.1 25 = v 25 := by
            unfold mt_addc
            rw [mv_set_ne (by decide), mv_set_ne (by omega), mv_set_ne (by omega), mv_set_ne (by omega)]
          rw [e1, am_b1_some]
          exact ih fu (mt_addc v (mt_kind (mt_ch T N i)) q.1 q.2.1) q.2.2 σ' (mt_addc_W w (by omega) (by omega) (by omega) b.1 b.2.1 b.2.2.1 b.2.2.2) (by omega) (by omega) (by omega) (Or.inl (by omega)) m1
theorem mt_MF_82 {f0 σ : am_Mem} {e : Int × Int} {j z : Int} (h : mt_MF f0 σ e) (hj : j ≠ 25) : mt_MF f0 (am_up σ 82 j z) e := by
  unfold mt_MF
  rw [ah_up_ne _ _ _ (show (75 : Nat) ≠ 82 by decide), ah_up_ne _ _ _ (show (81 : Nat) ≠ 82 by decide), mv_up_j (Ne.symm hj)]
  exact h
theorem mt_MS_82 {T : Int → Int} {f0 σ : am_Mem} {N i j z : Int} {v : Int → Int} (h : mt_MS T N f0 σ v i) : mt_MS T N f0 (am_up σ 82 j z) (mv_set v j z) i := by
  obtain ⟨n1, n2, n3, n4, n5, n6, n7⟩ := h
  refine ⟨?_, ?_, ?_, ?_, mv_V0_up n5, n6, n7⟩
  · rw [ah_up_ne _ _ _ (by decide)]; exact n1
  · rw [ah_up_ne _ _ _ (by decide), ah_up_ne _ _ _ (by decide)]; exact n2
  · unfold mt_MT
    rw [ah_up_ne _ _ _ (show (75 : Nat) ≠ 82 by decide), ah_up_ne _ _ _ (show (80 : Nat) ≠ 82 by decide)]
    exact n3
  · unfold mt_TK
    rw [ah_up_ne _ _ _ (show (75 : Nat) ≠ 82 by decide)]
    exact n4
theorem mt_f103 {n : Nat} {f0 σ : am_Mem} {e : Int × Int} {s : Int} (hn : 10000000000 ≤ n) (h : mt_MF f0 σ e) : fb_X7_town_103 n s σ = fb_X7_town_224 n σ := by
  unfold fb_X7_town_103
  rw [mt_ftake h, am_b2_some, mt_fwell h, am_b2_some, if_pos rfl]
  have := mt_f140 (n := n) h hn (n - 1)
  rw [show n - 1 + 1 = n by omega] at this
  exact this
theorem mt_m58 {n : Nat} {T : Int → Int} {f0 : am_Mem} {N : Int} {σ : am_Mem} (hn : 10000000000 ≤ n) (hT : mt_TN T N) (h : mt_MS T N f0 σ (fun _ => 0) 0) : mt_MV T N n f0 (mt_text T N) (if σ 75 11 = 1 then (if σ 75 12 = 116 then (fb_X7_town_58 n 1 σ) else (fb_X7_town_58 n 0 σ)) else (fb_X7_town_58 n 0 σ)) := by
  have e11 := h.2.2.2.1.2.1
  have e12 := h.2.2.2.1.2.2.1
  have tki := mt_tk_in (T := T) (N := N) (i := 0)
  have hN0 := hT.1
  unfold mt_text mt_law
  rw [e11, e12]
  cases a1 : mt_take T N 116 0 with
  | inl e =>
    obtain ⟨rfl, hne⟩ := mt_take_inl a1
    obtain ⟨σ1, e1, m1⟩ := mt_mtake0 (n := n) (k := 1) h (Int.le_refl _) (by decide)
    have E : fb_X7_town_58 n 0 σ = fb_X7_town_224 n (am_up (am_up σ1 82 0 0) 82 1 0) := by
      have m2 := mt_MF_82 (j := 0) (z := 0) m1 (by decide)
      have m3 := mt_MF_82 (j := 1) (z := 0) m2 (by decide)
      unfold fb_X7_town_58
      rw [e1, am_b2_some, mt_ffig m1, am_b2_some, am_b1_some, mt_ffol m2, am_b2_some, am_b1_some, mt_f103 hn m3, mt_f103 hn m3]
      split <;> rfl
    refine ⟨_, ?_, mt_MF_82 (j := 1) (z := 0) (mt_MF_82 (j := 0) (z := 0) m1 (by decide)) (by decide)⟩
    rw [← E]
    by_cases t1 : mt_tk T N 0 = 1
    · have d : ¬ mt_dg (mt_ch T N 0) := fun q => by have := q.2; have := (tki.2.2.2.1.1 t1).1; omega
      rw [if_pos t1, mt_vl1 d, if_neg hne]
    · rw [if_neg t1]
  | inr j1 =>
    obtain ⟨rfl, l1, hc⟩ := mt_take_inr (by decide) a1
    have d : ¬ mt_dg (mt_ch T N 0) := fun q => by have := q.2; omega
    have t1 := tki.2.2.2.1.2 (by omega)
    have nx := mt_nx1 d (by omega)
    obtain ⟨σ1, e1, m1⟩ := mt_mtake1 (n := n) (b := 1) (k := 1) hn hT h (by decide) (by rw [t1]; decide) (by omega) (by omega)
    rw [nx] at m1
    rw [if_pos t1, mt_vl1 d, if_pos hc]
    unfold fb_X7_town_58
    rw [e1, am_b2_some]
    have F := mt_mfig (n := n) (lo := 1) (hi := 9) hn hT m1 (Int.le_refl _) (by decide)
    show mt_MV T N n f0 (mt_bd (mt_bd (mt_fig T N 1 9 (0 + 1)) _) _) _
    cases a2 : mt_fig T N 1 9 (0 + 1) with
    | inl e =>
      rw [a2] at F
      obtain ⟨σ2, e2, m2⟩ := F
      have m3 := mt_MF_82 (j := 0) (z := 0) m2 (by decide)
      have m4 := mt_MF_82 (j := 1) (z := 0) m3 (by decide)
      refine ⟨_, ?_, m4⟩
      rw [e2, am_b2_some, am_b1_some, mt_ffol m3, am_b2_some, am_b1_some, mt_f103 hn m4, mt_f103 hn m4]
      split <;> rfl
    | inr q =>
      rw [a2] at F
      obtain ⟨r2, σ2, e2, rfl, m2⟩ := F
      have b2 := mt_fig_inr a2
      rw [e2, am_b2_some, am_b1_some]
      have m3 := mt_MS_82 (j := 0) (z := q.1) m2
      have x25 : mv_set (fun _ => (0 : Int)) 0 q.1 25 = 0 := mv_set_ne (by decide)
      have G := mt_mfol (n := n) (lo := 0) (hi := 9) hn hT m3 (by rw [x25]; decide) (by rw [x25]; decide)
      have cont : ∀ x : mt_S (Int × Int), mt_MR f0 x (f_X7_follows n 0 9 (am_up σ2 82 0 q.1)) (fun q2 r σ' => r = q2.1 ∧ mt_MS T N f0 σ' (mv_set (fun _ => 0) 0 q.1) q2.2) → (∀ q2, x = .inr q2 → 0 ≤ q2.1 ∧ q2.1 ≤ 9) → mt_MV T N n f0 (mt_bd (mt_bd x (fun q2 => mt_bd (mt_take T N 59 q2.2) fun j3 => (.inr (q.1, q2.1, j3) : mt_S (Int × Int × Int)))) fun q => mt_bd (mt_corners T N 7 (mv_set (mv_set (fun _ => 0) 0 q.1) 1 q.2.1) q.2.2) fun q2 => mt_bd (mt_streets T N 9 q2.1 q2.2) fun q3 => .inr q3.1) (am_b2 (f_X7_follows n 0 9 (am_up σ2 82 0 q.1)) fun r23 σ24 => am_b1 (some (am_up σ24 82 1 r23)) fun σ25 => if σ25 75 11 = 4 then (fb_X7_town_103 n 1 σ25) else (fb_X7_town_103 n 0 σ25)) := by
        intro x hx hb
        cases x with
        | inl e =>
          obtain ⟨σ3, e3, m3⟩ := hx
          have m4 := mt_MF_82 (j := 1) (z := 0) m3 (by decide)
          refine ⟨_, ?_, m4⟩
          rw [e3, am_b2_some, am_b1_some, mt_f103 hn m4, mt_f103 hn m4]
          split <;> rfl
        | inr q2 =>
          obtain ⟨r3, σ3, e3, rfl, m3⟩ := hx
          have hb := hb q2 rfl
          have m4 := mt_MS_82 (j := 1) (z := q2.1) m3
          have W0 := mt_v0_W b2.1 b2.2.1 hb.1 hb.2
          have y25 : mv_set (mv_set (fun _ => (0 : Int)) 0 q.1) 1 q2.1 25 = 0 := by rw [mv_set_ne (by decide), mv_set_ne (by decide)]
          have y6 : mv_set (mv_set (fun _ => (0 : Int)) 0 q.1) 1 q2.1 6 = 0 := by rw [mv_set_ne (by decide), mv_set_ne (by decide)]
          rw [e3, am_b2_some, am_b1_some]
          have S := mt_msign (n := n) (c := 59) (t := 4) hn hT m4 (by rw [y25]; decide) (by rw [y25]; decide) (by omega) (by decide) (mt_tk_in (T := T) (N := N) (i := q2.2)).2.1
          generalize hσ4 : am_up σ3 82 1 q2.1 = σ4 at m4 S
          have E : (if σ4 75 11 = 4 then (fb_X7_town_103 n 1 σ4) else (fb_X7_town_103 n 0 σ4)) = am_b2 (if σ4 75 11 = 4 then f_X7_takes n 1 1 σ4 else f_X7_takes n 0 1 σ4) (fun r29 σ30 => am_b2 (f_X7_isWell n σ30) fun r32 σ33 => if r32 = 0 then (fl_X7_town_140 n n σ33) else (if σ33 75 11 = 1 then (am_b2 (f_X7_kindOf n (σ33 75 12) σ33) fun r93 σ94 => if r93 ≤ 0 then (am_b2 (f_X7_takes n 0 1 σ94) fun r97 σ98 => fl_X7_town_140 n n σ98) else (fl_X7_town_140 n n σ94)) else (am_b2 (f_X7_takes n 0 1 σ33) fun r100 σ101 => fl_X7_town_140 n n σ101))) := by
            split <;> rfl
          rw [E]
          have f140 : ∀ {τ : am_Mem} {e : Int × Int}, mt_MF f0 τ e → fl_X7_town_140 n n τ = fb_X7_town_224 n τ := by
            intro τ e hτ
            have := mt_f140 (n := n) hτ hn (n - 1)
            rw [show n - 1 + 1 = n by omega] at this
            exact this
          show mt_MV T N n f0 (mt_bd (mt_bd (mt_take T N 59 q2.2) fun j3 => (.inr (q.1, q2.1, j3) : mt_S (Int × Int × Int))) _) _
          cases a5 : mt_take T N 59 q2.2 with
          | inl e =>
            rw [a5] at S
            obtain ⟨σ5, e5, m5⟩ := S
            refine ⟨σ5, ?_, m5⟩
            rw [e5, am_b2_some, mt_fwell m5, am_b2_some, if_pos rfl, f140 m5]
          | inr j3 =>
            rw [a5] at S
            obtain ⟨r5, σ5, e5, m5⟩ := S
            have g11 := m5.2.2.2.1.2.1
            have g12 := m5.2.2.2.1.2.2.1
            have tkj := mt_tk_in (T := T) (N := N) (i := j3)
            have kk := mt_kind_in (mt_ch T N j3)
            rw [e5, am_b2_some, mt_mwell m5, am_b2_some, if_neg (show ¬ (1 : Int) = 0 by decide), g11, g12]
            show mt_MV T N n f0 (mt_bd (mt_corners T N 7 (mv_set (mv_set (fun _ => 0) 0 q.1) 1 q2.1) j3) _) _
            by_cases hk : mt_kind (mt_ch T N j3) = 0
            · obtain ⟨σ6, e6, m6⟩ := mt_mtake0 (n := n) (k := 1) m5 (by rw [y25]; decide) (by rw [y25]; decide)
              have ec : mt_corners T N 7 (mv_set (mv_set (fun _ => 0) 0 q.1) 1 q2.1) j3 = .inl (j3, 1) := by
                unfold mt_corners
                rw [if_pos hk, y6, if_pos (show (0 : Int) ≤ 0 by decide)]
              rw [ec]
              refine ⟨σ6, ?_, m6⟩
              by_cases t1 : mt_tk T N j3 = 1
              · have d : ¬ mt_dg (mt_ch T N j3) := fun q => by have := q.2; have := (tkj.2.2.2.1.1 t1).1; omega
                have hk7 : f_X7_kindOf n (mt_ch T N j3) σ5 = some (mt_kind (mt_ch T N j3), σ5) := by
                  unfold f_X7_kindOf mt_kind
                  repeat' split
                  all_goals rfl
                rw [if_pos t1, mt_vl1 d, hk7, am_b2_some, hk, if_pos (show (0 : Int) ≤ 0 by decide), e6, am_b2_some, f140 m6]
              · rw [if_neg t1, e6, am_b2_some, f140 m6]
            · have hl : 97 ≤ mt_ch T N j3 ∧ mt_ch T N j3 ≤ 122 := by
                by_cases q : 97 ≤ mt_ch T N j3 ∧ mt_ch T N j3 ≤ 122
                · exact q
                · exact absurd (by unfold mt_kind; rw [if_neg (by omega), if_neg (by omega), if_neg (by omega), if_neg (by omega), if_neg (by omega)]) hk
              have d : ¬ mt_dg (mt_ch T N j3) := fun q => by have := q.2; omega
              have hk7 : f_X7_kindOf n (mt_ch T N j3) σ5 = some (mt_kind (mt_ch T N j3), σ5) := by
                unfold f_X7_kindOf mt_kind
                repeat' split
                all_goals rfl
              rw [if_pos (tkj.2.2.2.1.2 hl), mt_vl1 d, hk7, am_b2_some, if_neg (show ¬ mt_kind (mt_ch T N j3) ≤ 0 by omega)]
              exact mt_m140 hn hT 7 n _ j3 σ5 W0 y25 (by rw [y6]; rfl) (by omega) (Or.inr hk) m5
      have C := cont _ G (fun q2 hq2 => by
        obtain ⟨j, _, hf⟩ := mt_bd_inr hq2
        have b := mt_fig_inr hf
        exact ⟨b.1, b.2.1⟩)
      have assoc : mt_bd (mt_bd (mt_take T N 44 q.2) fun j => mt_fig T N 0 9 j) (fun q2 => mt_bd (mt_take T N 59 q2.2) fun j3 => (.inr (q.1, q2.1, j3) : mt_S (Int × Int × Int))) = mt_bd (mt_take T N 44 q.2) fun j2 => mt_bd (mt_fig T N 0 9 j2) fun q2 => mt_bd (mt_take T N 59 q2.2) fun j3 => .inr (q.1, q2.1, j3) := by
        cases mt_take T N 44 q.2 with
        | inl e => rfl
        | inr j => rfl
      rw [assoc] at C
      exact C
