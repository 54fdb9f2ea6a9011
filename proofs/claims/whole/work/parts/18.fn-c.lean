/-! MoodFareModel.found -/
def f_X7_found (n : Nat) (p1 : Int) (σ : am_Mem) : Option (Int × am_Mem) :=
  am_b1 (some (am_up σ 75 4 p1)) fun σ1 => some (am_w ((-1000010) - p1), σ1)
theorem t_X7_found {L n d : Nat} {Q : am_Post} {p1 : Int} {σ σr : am_Mem} {rr : Int} (hd : 0 < d) (h : f_X7_found n p1 σ = some (rr, σr)) (hQ : Q (some (am_i rr)) (rm_h L σr)) : xs_aw d me_X7_found [am_r 75, am_i p1] (rm_h L σ) Q := by
  obtain ⟨d, rfl⟩ : ∃ k, d = k + 1 := ⟨d - 1, by omega⟩
  have hd : 0 ≤ d := by omega
  unfold f_X7_found at h
  show xs_AW (xs_aw d) me_X7_found Q 0 [some (am_r 75), some (am_i p1)] [] (rm_h L σ)
  refine rr_aload_n dX7_found_0 rfl ?_
  refine rr_iload_n dX7_found_1 rfl ?_
  obtain ⟨σ1, e2, h⟩ := ab_1 h
  refine rr_puti (kz := 4) dX7_found_2 fl_7_66 (sh_75 L) ⟨(by decide), by decide⟩ ⟨rfl, rfl⟩ rfl (ab_m e2 ?_)
  refine rr_ldc dX7_found_5 cs_7_70 ?_
  refine rr_iload_n dX7_found_7 rfl ?_
  refine rr_isub dX7_found_8 ?_
  obtain ⟨rfl, rfl⟩ := ab_r2 h
  exact rr_iret dX7_found_9 rfl hQ
def nw_X7_found (a : Nat) : Prop := a ≠ 75
theorem w_X7_found {n : Nat} {p1 : Int} {σ σr : am_Mem} {rr : Int} (h : f_X7_found n p1 σ = some (rr, σr)) : ∀ a : Nat, nw_X7_found a → σr a = σ a := by
  unfold f_X7_found at h
  have fr : ∀ a : Nat, nw_X7_found a → σ a = σ a := fun _ _ => rfl
  obtain ⟨σ1, e2, h⟩ := ab_1 h
  have fr := fun (a : Nat) (ha : nw_X7_found a) => (ab_fu e2 (show a ≠ 75 by unfold nw_X7_found at ha; omega)).trans (fr a ha)
  obtain ⟨q1, q2⟩ := ab_r2 h
  exact fun a ha => (congrFun q2.symm a).trans (fr a ha)
/-! MoodFareModel.in -/
def f_X7_in (n : Nat) (p0 : Int) (p1 : Int) (p2 : Int) (σ : am_Mem) : Option (Int × am_Mem) :=
  if p0 < p1 then (some (0, σ)) else (if p0 ≤ p2 then (some (1, σ)) else (some (0, σ)))
theorem t_X7_in {L n d : Nat} {Q : am_Post} {p0 : Int} {p1 : Int} {p2 : Int} {σ σr : am_Mem} {rr : Int} (hd : 0 < d) (h : f_X7_in n p0 p1 p2 σ = some (rr, σr)) (hQ : Q (some (am_i rr)) (rm_h L σr)) : xs_aw d me_X7_in [am_i p0, am_i p1, am_i p2] (rm_h L σ) Q := by
  obtain ⟨d, rfl⟩ : ∃ k, d = k + 1 := ⟨d - 1, by omega⟩
  have hd : 0 ≤ d := by omega
  unfold f_X7_in at h
  show xs_AW (xs_aw d) me_X7_in Q 0 [some (am_i p0), some (am_i p1), some (am_i p2)] [] (rm_h L σ)
  refine rr_iload_n dX7_in_0 rfl ?_
  refine rr_iload_n dX7_in_1 rfl ?_
  rcases ab_i h with ⟨c1, h⟩ | ⟨c1, h⟩
  · refine rr_icmp_lt_p (t := 14) dX7_in_2 (by decide) c1 ?_
    refine rr_iconst dX7_in_14 (by decide) ?_
    obtain ⟨rfl, rfl⟩ := ab_r2 h
    exact rr_zret dX7_in_15 rfl (Or.inl rfl) hQ
  · refine rr_icmp_lt_n (t := 14) dX7_in_2 (by decide) c1 ?_
    refine rr_iload_n dX7_in_5 rfl ?_
    refine rr_iload_n dX7_in_6 rfl ?_
    rcases ab_i h with ⟨c2, h⟩ | ⟨c2, h⟩
    · refine rr_icmp_gt_p (t := 14) dX7_in_7 (by decide) c2 ?_
      refine rr_iconst dX7_in_10 (by decide) ?_
      refine rr_goto (t := 15) dX7_in_11 (by decide) ?_
      obtain ⟨rfl, rfl⟩ := ab_r2 h
      exact rr_zret dX7_in_15 rfl (Or.inr rfl) hQ
    · refine rr_icmp_gt_n (t := 14) dX7_in_7 (by decide) c2 ?_
      refine rr_iconst dX7_in_14 (by decide) ?_
      obtain ⟨rfl, rfl⟩ := ab_r2 h
      exact rr_zret dX7_in_15 rfl (Or.inl rfl) hQ
theorem u_X7_in {n : Nat} {p0 : Int} {p1 : Int} {p2 : Int} {σ σr : am_Mem} {rr : Int} (h : f_X7_in n p0 p1 p2 σ = some (rr, σr)) : σr = σ := by
  unfold f_X7_in at h
  have fr : σ = σ := rfl
  rcases ab_i h with ⟨c1, h⟩ | ⟨c1, h⟩
  · obtain ⟨q1, q2⟩ := ab_r2 h
    exact q2.symm.trans fr
  · rcases ab_i h with ⟨c2, h⟩ | ⟨c2, h⟩
    · obtain ⟨q1, q2⟩ := ab_r2 h
      exact q2.symm.trans fr
    · obtain ⟨q1, q2⟩ := ab_r2 h
      exact q2.symm.trans fr
/-! MoodFareModel.isRow -/
def f_X7_isRow (n : Nat) (p0 : Int) (σ : am_Mem) : Option (Int × am_Mem) :=
  am_b2 (f_X7_in n p0 0 7 σ) fun r2 σ3 => if r2 = 0 ∨ r2 = 1 then some (r2, σ3) else none
theorem t_X7_isRow {L n d : Nat} {Q : am_Post} {p0 : Int} {σ σr : am_Mem} {rr : Int} (hd : 1 < d) (h : f_X7_isRow n p0 σ = some (rr, σr)) (hQ : Q (some (am_i rr)) (rm_h L σr)) : xs_aw d me_X7_isRow [am_i p0] (rm_h L σ) Q := by
  obtain ⟨d, rfl⟩ : ∃ k, d = k + 1 := ⟨d - 1, by omega⟩
  have hd : 1 ≤ d := by omega
  unfold f_X7_isRow at h
  show xs_AW (xs_aw d) me_X7_isRow Q 0 [some (am_i p0)] [] (rm_h L σ)
  refine rr_iload_n dX7_isRow_0 rfl ?_
  refine rr_iconst dX7_isRow_1 (by decide) ?_
  refine rr_bipush dX7_isRow_2 (by decide) ?_
  obtain ⟨r2, σ3, e1, h⟩ := ab_2 h
  refine rr_Si (as := [am_i p0, am_i 0, am_i 7]) (rest := []) dX7_isRow_4 ml_7_71 (Or.inl rfl) rfl rfl (Nat.le_of_ble_eq_true rfl) ⟨rfl, rfl⟩ (Nat.le_of_ble_eq_true rfl) (fun _ k => t_X7_in (by omega) e1 k) ?_
  obtain ⟨g4, h⟩ := ab_g h
  obtain ⟨rfl, rfl⟩ := ab_r2 h
  exact rr_zret dX7_isRow_7 rfl g4 hQ
theorem u_X7_isRow {n : Nat} {p0 : Int} {σ σr : am_Mem} {rr : Int} (h : f_X7_isRow n p0 σ = some (rr, σr)) : σr = σ := by
  unfold f_X7_isRow at h
  have fr : σ = σ := rfl
  obtain ⟨r2, σ3, e1, h⟩ := ab_2 h
  have fr := (u_X7_in e1).trans fr
  obtain ⟨g4, h⟩ := ab_g h
  obtain ⟨q1, q2⟩ := ab_r2 h
  exact q2.symm.trans fr
/-! MoodFareModel.well -/
def f_X7_well (n : Nat) (p1 : Int) (σ : am_Mem) : Option (Int × am_Mem) :=
  am_b1 (some (am_up σ 75 4 0)) fun σ1 => some (p1, σ1)
theorem t_X7_well {L n d : Nat} {Q : am_Post} {p1 : Int} {σ σr : am_Mem} {rr : Int} (hd : 0 < d) (h : f_X7_well n p1 σ = some (rr, σr)) (hQ : Q (some (am_i rr)) (rm_h L σr)) : xs_aw d me_X7_well [am_r 75, am_i p1] (rm_h L σ) Q := by
  obtain ⟨d, rfl⟩ : ∃ k, d = k + 1 := ⟨d - 1, by omega⟩
  have hd : 0 ≤ d := by omega
  unfold f_X7_well at h
  show xs_AW (xs_aw d) me_X7_well Q 0 [some (am_r 75), some (am_i p1)] [] (rm_h L σ)
  refine rr_aload_n dX7_well_0 rfl ?_
  refine rr_iconst dX7_well_1 (by decide) ?_
  obtain ⟨σ1, e2, h⟩ := ab_1 h
  refine rr_puti (kz := 4) dX7_well_2 fl_7_66 (sh_75 L) ⟨(by decide), by decide⟩ ⟨rfl, rfl⟩ rfl (ab_m e2 ?_)
  refine rr_iload_n dX7_well_5 rfl ?_
  obtain ⟨rfl, rfl⟩ := ab_r2 h
  exact rr_iret dX7_well_6 rfl hQ
def nw_X7_well (a : Nat) : Prop := a ≠ 75
theorem w_X7_well {n : Nat} {p1 : Int} {σ σr : am_Mem} {rr : Int} (h : f_X7_well n p1 σ = some (rr, σr)) : ∀ a : Nat, nw_X7_well a → σr a = σ a := by
  unfold f_X7_well at h
  have fr : ∀ a : Nat, nw_X7_well a → σ a = σ a := fun _ _ => rfl
  obtain ⟨σ1, e2, h⟩ := ab_1 h
  have fr := fun (a : Nat) (ha : nw_X7_well a) => (ab_fu e2 (show a ≠ 75 by unfold nw_X7_well at ha; omega)).trans (fr a ha)
  obtain ⟨q1, q2⟩ := ab_r2 h
  exact fun a ha => (congrFun q2.symm a).trans (fr a ha)
/-! MoodFareModel.row -/
def fb_X7_row_52 (n : Nat) (kh52 : Int → Int → Int → am_Mem → Option (Int × am_Mem)) (x1 : Int) (x3 : Int) (x4 : Int) (σ : am_Mem) : Option (Int × am_Mem) :=
  if x4 < 40 then (if (0 : Int) ≤ am_w ((am_w (40 * x1)) + x4) ∧ am_w ((am_w (40 * x1)) + x4) < 320 then am_b1 (some (am_up σ 78 (am_w ((am_w (40 * x1)) + x4)) 0)) fun σ21 => kh52 x1 x3 (am_w (x4 + 1)) σ21 else none) else (am_b2 (f_X7_well n x3 σ) fun r24 σ25 => some (r24, σ25))
def fl_X7_row_52 (n : Nat) : Nat → Int → Int → Int → am_Mem → Option (Int × am_Mem)
  | 0, _, _, _, _ => none
  | m + 1, x1, x3, x4, σ => fb_X7_row_52 n (fun yx1 yx3 yx4 σ => fl_X7_row_52 n m yx1 yx3 yx4 σ) x1 x3 x4 σ
def f_X7_row (n : Nat) (p1 : Int) (p2 : Int) (p3 : Int) (σ : am_Mem) : Option (Int × am_Mem) :=
  am_b2 (f_X7_isRow n p1 σ) fun r2 σ3 => if r2 = 0 then (some ((-1000001), σ3)) else (am_b2 (f_X7_in n p2 0 2 σ3) fun r6 σ7 => if r6 = 0 then (some ((-1000001), σ7)) else (if p3 ≤ 40 then (if p3 < 0 then (am_b2 (f_X7_found n 4 σ7) fun r12 σ13 => some (r12, σ13)) else (if (0 : Int) ≤ p1 ∧ p1 < 8 then am_b1 (some (am_up σ7 76 p1 p2)) fun σ15 => am_b1 (some (am_up σ15 77 p1 p3)) fun σ17 => fl_X7_row_52 n n p1 p3 0 σ17 else none)) else (some ((-1000001), σ7))))
theorem tb_X7_row_52 {L n d : Nat} {Q : am_Post} {kh52 : Int → Int → Int → am_Mem → Option (Int × am_Mem)} {x1 : Int} {x3 : Int} {x4 : Int} {o2 : Int} {σ σr : am_Mem} {rr : Int} (hd : 2 ≤ d) (hk52 : ∀ (y1 : Int) (y3 : Int) (y4 : Int) (σ : am_Mem), kh52 y1 y3 y4 σ = some (rr, σr) → ∀ (o2 : Int), xs_AW (xs_aw d) me_X7_row Q 52 [some (am_r 75), some (am_i y1), some (am_i o2), some (am_i y3), some (am_i y4)] [] (rm_h L σ)) (hQ : Q (some (am_i rr)) (rm_h L σr)) (h : fb_X7_row_52 n kh52 x1 x3 x4 σ = some (rr, σr)) : xs_AW (xs_aw d) me_X7_row Q 52 [some (am_r 75), some (am_i x1), some (am_i o2), some (am_i x3), some (am_i x4)] [] (rm_h L σ) := by
  unfold fb_X7_row_52 at h
  refine rr_iload dX7_row_52 rfl ?_
  refine rr_bipush dX7_row_54 (by decide) ?_
  rcases ab_i h with ⟨c19, h⟩ | ⟨c19, h⟩
  · refine rr_icmp_ge_p (t := 78) dX7_row_56 (by decide) c19 ?_
    refine rr_aload_n dX7_row_59 rfl ?_
    refine rr_getr (t := 78) dX7_row_60 fl_7_16 (sh_75 L) ⟨(by decide), by decide⟩ rfl rfl ?_
    refine rr_bipush dX7_row_63 (by decide) ?_
    refine rr_iload_n dX7_row_65 rfl ?_
    refine rr_imul dX7_row_66 ?_
    refine rr_iload dX7_row_67 rfl ?_
    refine rr_iadd dX7_row_69 ?_
    refine rr_iconst dX7_row_70 (by decide) ?_
    obtain ⟨g20, h⟩ := ab_g h
    refine rr_iast (nz := 320) dX7_row_71 (sh_78 L) (by decide) rfl g20 ?_
    obtain ⟨σ21, e22, h⟩ := ab_1 h
    refine ab_m e22 ?_
    refine rr_iinc (ls' := [some (am_r 75), some (am_i x1), some (am_i o2), some (am_i x3), some (am_i (am_w (x4 + 1)))]) dX7_row_72 rfl (Nat.le_of_ble_eq_true rfl) rfl ?_
    refine rr_goto (t := 52) dX7_row_75 (by decide) ?_
    exact hk52 _ _ _ _ h _
  · refine rr_icmp_ge_n (t := 78) dX7_row_56 (by decide) c19 ?_
    refine rr_aload_n dX7_row_78 rfl ?_
    refine rr_iload_n dX7_row_79 rfl ?_
    obtain ⟨r24, σ25, e23, h⟩ := ab_2 h
    refine rr_Vi (as := [am_i x3]) (rest := []) dX7_row_80 ml_7_84 (sh_75 L) ⟨(by decide), by decide, by decide⟩ rfl rfl rfl (Nat.le_of_ble_eq_true rfl) ⟨rfl, rfl⟩ (Nat.le_of_ble_eq_true rfl) (fun _ k => t_X7_well (by omega) e23 k) ?_
    obtain ⟨rfl, rfl⟩ := ab_r2 h
    exact rr_iret dX7_row_83 rfl hQ
theorem tl_X7_row_52 {L n d : Nat} {Q : am_Post} {σr : am_Mem} {rr : Int} (hd : 2 ≤ d) (hQ : Q (some (am_i rr)) (rm_h L σr)) : ∀ (m : Nat) (x1 : Int) (x3 : Int) (x4 : Int) (σ : am_Mem) (o2 : Int), fl_X7_row_52 n m x1 x3 x4 σ = some (rr, σr) → xs_AW (xs_aw d) me_X7_row Q 52 [some (am_r 75), some (am_i x1), some (am_i o2), some (am_i x3), some (am_i x4)] [] (rm_h L σ) := by
  intro m
  induction m with
  | zero => intro x1 x3 x4 σ o2 h; cases h
  | succ m ih =>
    intro x1 x3 x4 σ o2 h
    exact tb_X7_row_52 hd (fun x1 x3 x4 σ h o2 => ih x1 x3 x4 σ o2 h) hQ h
theorem t_X7_row {L n d : Nat} {Q : am_Post} {p1 : Int} {p2 : Int} {p3 : Int} {σ σr : am_Mem} {rr : Int} (hd : 2 < d) (h : f_X7_row n p1 p2 p3 σ = some (rr, σr)) (hQ : Q (some (am_i rr)) (rm_h L σr)) : xs_aw d me_X7_row [am_r 75, am_i p1, am_i p2, am_i p3] (rm_h L σ) Q := by
  obtain ⟨d, rfl⟩ : ∃ k, d = k + 1 := ⟨d - 1, by omega⟩
  have hd : 2 ≤ d := by omega
  unfold f_X7_row at h
  show xs_AW (xs_aw d) me_X7_row Q 0 [some (am_r 75), some (am_i p1), some (am_i p2), some (am_i p3), none] [] (rm_h L σ)
  refine rr_iload_n dX7_row_0 rfl ?_
  obtain ⟨r2, σ3, e1, h⟩ := ab_2 h
  refine rr_Si (as := [am_i p1]) (rest := []) dX7_row_1 ml_7_75 (Or.inl rfl) rfl rfl (Nat.le_of_ble_eq_true rfl) ⟨rfl, rfl⟩ (Nat.le_of_ble_eq_true rfl) (fun _ k => t_X7_isRow (by omega) e1 k) ?_
  rcases ab_i h with ⟨c4, h⟩ | ⟨c4, h⟩
  · refine rr_if_eq_p (t := 22) dX7_row_4 (by decide) c4 ?_
    refine rr_ldc dX7_row_22 cs_7_79 ?_
    obtain ⟨rfl, rfl⟩ := ab_r2 h
    exact rr_iret dX7_row_24 rfl hQ
  · refine rr_if_eq_n (t := 22) dX7_row_4 (by decide) c4 ?_
    refine rr_iload_n dX7_row_7 rfl ?_
    refine rr_iconst dX7_row_8 (by decide) ?_
    refine rr_iconst dX7_row_9 (by decide) ?_
    obtain ⟨r6, σ7, e5, h⟩ := ab_2 h
    refine rr_Si (as := [am_i p2, am_i 0, am_i 2]) (rest := []) dX7_row_10 ml_7_71 (Or.inl rfl) rfl rfl (Nat.le_of_ble_eq_true rfl) ⟨rfl, rfl⟩ (Nat.le_of_ble_eq_true rfl) (fun _ k => t_X7_in (by omega) e5 k) ?_
    rcases ab_i h with ⟨c8, h⟩ | ⟨c8, h⟩
    · refine rr_if_eq_p (t := 22) dX7_row_13 (by decide) c8 ?_
      refine rr_ldc dX7_row_22 cs_7_79 ?_
      obtain ⟨rfl, rfl⟩ := ab_r2 h
      exact rr_iret dX7_row_24 rfl hQ
    · refine rr_if_eq_n (t := 22) dX7_row_13 (by decide) c8 ?_
      refine rr_iload_n dX7_row_16 rfl ?_
      refine rr_bipush dX7_row_17 (by decide) ?_
      rcases ab_i h with ⟨c9, h⟩ | ⟨c9, h⟩
      · refine rr_icmp_le_p (t := 25) dX7_row_19 (by decide) c9 ?_
        refine rr_iload_n dX7_row_25 rfl ?_
        rcases ab_i h with ⟨c10, h⟩ | ⟨c10, h⟩
        · refine rr_if_ge_p (t := 35) dX7_row_26 (by decide) c10 ?_
          refine rr_aload_n dX7_row_29 rfl ?_
          refine rr_iconst dX7_row_30 (by decide) ?_
          obtain ⟨r12, σ13, e11, h⟩ := ab_2 h
          refine rr_Vi (as := [am_i 4]) (rest := []) dX7_row_31 ml_7_80 (sh_75 L) ⟨(by decide), by decide, by decide⟩ rfl rfl rfl (Nat.le_of_ble_eq_true rfl) ⟨rfl, rfl⟩ (Nat.le_of_ble_eq_true rfl) (fun _ k => t_X7_found (by omega) e11 k) ?_
          obtain ⟨rfl, rfl⟩ := ab_r2 h
          exact rr_iret dX7_row_34 rfl hQ
        · refine rr_if_ge_n (t := 35) dX7_row_26 (by decide) c10 ?_
          refine rr_aload_n dX7_row_35 rfl ?_
          refine rr_getr (t := 76) dX7_row_36 fl_7_7 (sh_75 L) ⟨(by decide), by decide⟩ rfl rfl ?_
          refine rr_iload_n dX7_row_39 rfl ?_
          refine rr_iload_n dX7_row_40 rfl ?_
          obtain ⟨g14, h⟩ := ab_g h
          refine rr_iast (nz := 8) dX7_row_41 (sh_76 L) (by decide) rfl g14 ?_
          obtain ⟨σ15, e16, h⟩ := ab_1 h
          refine ab_m e16 ?_
          refine rr_aload_n dX7_row_42 rfl ?_
          refine rr_getr (t := 77) dX7_row_43 fl_7_13 (sh_75 L) ⟨(by decide), by decide⟩ rfl rfl ?_
          refine rr_iload_n dX7_row_46 rfl ?_
          refine rr_iload_n dX7_row_47 rfl ?_
          refine rr_iast (nz := 8) dX7_row_48 (sh_77 L) (by decide) rfl g14 ?_
          obtain ⟨σ17, e18, h⟩ := ab_1 h
          refine ab_m e18 ?_
          refine rr_iconst dX7_row_49 (by decide) ?_
          refine rr_istore (ls' := [some (am_r 75), some (am_i p1), some (am_i p2), some (am_i p3), some (am_i 0)]) dX7_row_50 (Nat.le_of_ble_eq_true rfl) rfl ?_
          exact tl_X7_row_52 hd hQ n _ _ _ _ _ h
      · refine rr_icmp_le_n (t := 25) dX7_row_19 (by decide) c9 ?_
        refine rr_ldc dX7_row_22 cs_7_79 ?_
        obtain ⟨rfl, rfl⟩ := ab_r2 h
        exact rr_iret dX7_row_24 rfl hQ
def nw_X7_row (a : Nat) : Prop := a ≠ 75 ∧ a ≠ 76 ∧ a ≠ 77 ∧ a ≠ 78
theorem wb_X7_row_52 {n : Nat} {kh52 : Int → Int → Int → am_Mem → Option (Int × am_Mem)} {x1 : Int} {x3 : Int} {x4 : Int} {σ σr : am_Mem} {rr : Int} (hk52 : ∀ (y1 : Int) (y3 : Int) (y4 : Int) (σ : am_Mem), kh52 y1 y3 y4 σ = some (rr, σr) → ∀ a : Nat, nw_X7_row a → σr a = σ a) (h : fb_X7_row_52 n kh52 x1 x3 x4 σ = some (rr, σr)) : ∀ a : Nat, nw_X7_row a → σr a = σ a := by
  unfold fb_X7_row_52 at h
  have fr : ∀ a : Nat, nw_X7_row a → σ a = σ a := fun _ _ => rfl
  rcases ab_i h with ⟨c19, h⟩ | ⟨c19, h⟩
  · obtain ⟨g20, h⟩ := ab_g h
    obtain ⟨σ21, e22, h⟩ := ab_1 h
    have fr := fun (a : Nat) (ha : nw_X7_row a) => (ab_fu e22 (show a ≠ 78 by unfold nw_X7_row at ha; omega)).trans (fr a ha)
    exact fun a ha => (hk52 _ _ _ _ h a ha).trans (fr a ha)
  · obtain ⟨r24, σ25, e23, h⟩ := ab_2 h
    have fr := fun (a : Nat) (ha : nw_X7_row a) => (w_X7_well e23 a (by unfold nw_X7_row at ha; unfold nw_X7_well; omega)).trans (fr a ha)
    obtain ⟨q1, q2⟩ := ab_r2 h
    exact fun a ha => (congrFun q2.symm a).trans (fr a ha)
theorem wl_X7_row_52 {n : Nat} {σr : am_Mem} {rr : Int} : ∀ (m : Nat) (x1 : Int) (x3 : Int) (x4 : Int) (σ : am_Mem), fl_X7_row_52 n m x1 x3 x4 σ = some (rr, σr) → ∀ a : Nat, nw_X7_row a → σr a = σ a := by
  intro m
  induction m with
  | zero => intro x1 x3 x4 σ h; cases h
  | succ m ih =>
    intro x1 x3 x4 σ h
    exact wb_X7_row_52 (fun x1 x3 x4 σ h => ih x1 x3 x4 σ h) h
theorem w_X7_row {n : Nat} {p1 : Int} {p2 : Int} {p3 : Int} {σ σr : am_Mem} {rr : Int} (h : f_X7_row n p1 p2 p3 σ = some (rr, σr)) : ∀ a : Nat, nw_X7_row a → σr a = σ a := by
  unfold f_X7_row at h
  have fr : ∀ a : Nat, nw_X7_row a → σ a = σ a := fun _ _ => rfl
  obtain ⟨r2, σ3, e1, h⟩ := ab_2 h
  have fr := fun (a : Nat) (ha : nw_X7_row a) => (congrFun (u_X7_isRow e1) a).trans (fr a ha)
  rcases ab_i h with ⟨c4, h⟩ | ⟨c4, h⟩
  · obtain ⟨q1, q2⟩ := ab_r2 h
    exact fun a ha => (congrFun q2.symm a).trans (fr a ha)
  · obtain ⟨r6, σ7, e5, h⟩ := ab_2 h
    have fr := fun (a : Nat) (ha : nw_X7_row a) => (congrFun (u_X7_in e5) a).trans (fr a ha)
    rcases ab_i h with ⟨c8, h⟩ | ⟨c8, h⟩
    · obtain ⟨q1, q2⟩ := ab_r2 h
      exact fun a ha => (congrFun q2.symm a).trans (fr a ha)
    · rcases ab_i h with ⟨c9, h⟩ | ⟨c9, h⟩
      · rcases ab_i h with ⟨c10, h⟩ | ⟨c10, h⟩
        · obtain ⟨r12, σ13, e11, h⟩ := ab_2 h
          have fr := fun (a : Nat) (ha : nw_X7_row a) => (w_X7_found e11 a (by unfold nw_X7_row at ha; unfold nw_X7_found; omega)).trans (fr a ha)
          obtain ⟨q1, q2⟩ := ab_r2 h
          exact fun a ha => (congrFun q2.symm a).trans (fr a ha)
        · obtain ⟨g14, h⟩ := ab_g h
          obtain ⟨σ15, e16, h⟩ := ab_1 h
          have fr := fun (a : Nat) (ha : nw_X7_row a) => (ab_fu e16 (show a ≠ 76 by unfold nw_X7_row at ha; omega)).trans (fr a ha)
          obtain ⟨σ17, e18, h⟩ := ab_1 h
          have fr := fun (a : Nat) (ha : nw_X7_row a) => (ab_fu e18 (show a ≠ 77 by unfold nw_X7_row at ha; omega)).trans (fr a ha)
          exact fun a ha => (wl_X7_row_52 n _ _ _ _ h a ha).trans (fr a ha)
      · obtain ⟨q1, q2⟩ := ab_r2 h
        exact fun a ha => (congrFun q2.symm a).trans (fr a ha)
/-! MoodFareModel.cut -/
def f_X7_cut (n : Nat) (p0 : Int) (p1 : Int) (σ : am_Mem) : Option (Int × am_Mem) :=
  if p0 = 0 then (some (am_shr (am_shl p1 24) 24, σ)) else (if p0 = 1 then (some (am_shr (am_shl p1 16) 16, σ)) else (some (p1, σ)))
theorem t_X7_cut {L n d : Nat} {Q : am_Post} {p0 : Int} {p1 : Int} {σ σr : am_Mem} {rr : Int} (hd : 0 < d) (h : f_X7_cut n p0 p1 σ = some (rr, σr)) (hQ : Q (some (am_i rr)) (rm_h L σr)) : xs_aw d me_X7_cut [am_i p0, am_i p1] (rm_h L σ) Q := by
  obtain ⟨d, rfl⟩ : ∃ k, d = k + 1 := ⟨d - 1, by omega⟩
  have hd : 0 ≤ d := by omega
  unfold f_X7_cut at h
  show xs_AW (xs_aw d) me_X7_cut Q 0 [some (am_i p0), some (am_i p1)] [] (rm_h L σ)
  refine rr_iload_n dX7_cut_0 rfl ?_
  rcases ab_i h with ⟨c1, h⟩ | ⟨c1, h⟩
  · refine rr_if_ne_p (t := 14) dX7_cut_1 (by decide) c1 ?_
    refine rr_iload_n dX7_cut_4 rfl ?_
    refine rr_bipush dX7_cut_5 (by decide) ?_
    refine rr_ishl dX7_cut_7 ?_
    refine rr_bipush dX7_cut_8 (by decide) ?_
    refine rr_ishr dX7_cut_10 ?_
    refine rr_goto (t := 30) dX7_cut_11 (by decide) ?_
    obtain ⟨rfl, rfl⟩ := ab_r2 h
    exact rr_iret dX7_cut_30 rfl hQ
  · refine rr_if_ne_n (t := 14) dX7_cut_1 (by decide) c1 ?_
    refine rr_iload_n dX7_cut_14 rfl ?_
    refine rr_iconst dX7_cut_15 (by decide) ?_
    rcases ab_i h with ⟨c2, h⟩ | ⟨c2, h⟩
    · refine rr_icmp_ne_p (t := 29) dX7_cut_16 (by decide) c2 ?_
      refine rr_iload_n dX7_cut_19 rfl ?_
      refine rr_bipush dX7_cut_20 (by decide) ?_
      refine rr_ishl dX7_cut_22 ?_
      refine rr_bipush dX7_cut_23 (by decide) ?_
      refine rr_ishr dX7_cut_25 ?_
      refine rr_goto (t := 30) dX7_cut_26 (by decide) ?_
      obtain ⟨rfl, rfl⟩ := ab_r2 h
      exact rr_iret dX7_cut_30 rfl hQ
    · refine rr_icmp_ne_n (t := 29) dX7_cut_16 (by decide) c2 ?_
      refine rr_iload_n dX7_cut_29 rfl ?_
      obtain ⟨rfl, rfl⟩ := ab_r2 h
      exact rr_iret dX7_cut_30 rfl hQ
theorem u_X7_cut {n : Nat} {p0 : Int} {p1 : Int} {σ σr : am_Mem} {rr : Int} (h : f_X7_cut n p0 p1 σ = some (rr, σr)) : σr = σ := by
  unfold f_X7_cut at h
  have fr : σ = σ := rfl
  rcases ab_i h with ⟨c1, h⟩ | ⟨c1, h⟩
  · obtain ⟨q1, q2⟩ := ab_r2 h
    exact q2.symm.trans fr
  · rcases ab_i h with ⟨c2, h⟩ | ⟨c2, h⟩
    · obtain ⟨q1, q2⟩ := ab_r2 h
      exact q2.symm.trans fr
    · obtain ⟨q1, q2⟩ := ab_r2 h
      exact q2.symm.trans fr
/-! MoodFareModel.isMissing -/
def f_X7_isMissing (n : Nat) (p1 : Int) (σ : am_Mem) : Option (Int × am_Mem) :=
  if (0 : Int) ≤ p1 ∧ p1 < 8 then if σ 76 p1 = (-1000000) then (some (1, σ)) else (some (0, σ)) else none
theorem t_X7_isMissing {L n d : Nat} {Q : am_Post} {p1 : Int} {σ σr : am_Mem} {rr : Int} (hd : 0 < d) (h : f_X7_isMissing n p1 σ = some (rr, σr)) (hQ : Q (some (am_i rr)) (rm_h L σr)) : xs_aw d me_X7_isMissing [am_r 75, am_i p1] (rm_h L σ) Q := by
  obtain ⟨d, rfl⟩ : ∃ k, d = k + 1 := ⟨d - 1, by omega⟩
  have hd : 0 ≤ d := by omega
  unfold f_X7_isMissing at h
  show xs_AW (xs_aw d) me_X7_isMissing Q 0 [some (am_r 75), some (am_i p1)] [] (rm_h L σ)
  refine rr_aload_n dX7_isMissing_0 rfl ?_
  refine rr_getr (t := 76) dX7_isMissing_1 fl_7_7 (sh_75 L) ⟨(by decide), by decide⟩ rfl rfl ?_
  refine rr_iload_n dX7_isMissing_4 rfl ?_
  obtain ⟨g1, h⟩ := ab_g h
  refine rr_iald (nz := 8) dX7_isMissing_5 (sh_76 L) rfl g1 ?_
  refine rr_ldc dX7_isMissing_6 cs_7_65 ?_
  rcases ab_i h with ⟨c2, h⟩ | ⟨c2, h⟩
  · refine rr_icmp_ne_p (t := 15) dX7_isMissing_8 (by decide) c2 ?_
    refine rr_iconst dX7_isMissing_11 (by decide) ?_
    refine rr_goto (t := 16) dX7_isMissing_12 (by decide) ?_
    obtain ⟨rfl, rfl⟩ := ab_r2 h
    exact rr_zret dX7_isMissing_16 rfl (Or.inr rfl) hQ
  · refine rr_icmp_ne_n (t := 15) dX7_isMissing_8 (by decide) c2 ?_
    refine rr_iconst dX7_isMissing_15 (by decide) ?_
    obtain ⟨rfl, rfl⟩ := ab_r2 h
    exact rr_zret dX7_isMissing_16 rfl (Or.inl rfl) hQ
theorem u_X7_isMissing {n : Nat} {p1 : Int} {σ σr : am_Mem} {rr : Int} (h : f_X7_isMissing n p1 σ = some (rr, σr)) : σr = σ := by
  unfold f_X7_isMissing at h
  have fr : σ = σ := rfl
  obtain ⟨g1, h⟩ := ab_g h
  rcases ab_i h with ⟨c2, h⟩ | ⟨c2, h⟩
  · obtain ⟨q1, q2⟩ := ab_r2 h
    exact q2.symm.trans fr
  · obtain ⟨q1, q2⟩ := ab_r2 h
    exact q2.symm.trans fr
/-! MoodFareModel.set -/
def f_X7_set (n : Nat) (p1 : Int) (p2 : Int) (p3 : Int) (σ : am_Mem) : Option (Int × am_Mem) :=
  am_b2 (f_X7_isRow n p1 σ) fun r2 σ3 => if r2 = 0 then (some ((-1000001), σ3)) else (am_b2 (f_X7_isMissing n p1 σ3) fun r6 σ7 => if r6 = 0 then (if (0 : Int) ≤ p1 ∧ p1 < 8 then am_b2 (f_X7_in n p2 0 (am_w ((σ7 77 p1) - 1)) σ7) fun r11 σ12 => if r11 = 0 then (am_b2 (f_X7_found n 2 σ12) fun r15 σ16 => some (r15, σ16)) else (am_b2 (f_X7_cut n (σ12 76 p1) p3 σ12) fun r18 σ19 => if (0 : Int) ≤ am_w ((am_w (40 * p1)) + p2) ∧ am_w ((am_w (40 * p1)) + p2) < 320 then am_b1 (some (am_up σ19 78 (am_w ((am_w (40 * p1)) + p2)) r18)) fun σ21 => am_b2 (f_X7_well n (σ21 78 (am_w ((am_w (40 * p1)) + p2))) σ21) fun r24 σ25 => some (r24, σ25) else none) else none) else (am_b2 (f_X7_found n 1 σ7) fun r27 σ28 => some (r27, σ28)))
theorem t_X7_set {L n d : Nat} {Q : am_Post} {p1 : Int} {p2 : Int} {p3 : Int} {σ σr : am_Mem} {rr : Int} (hd : 2 < d) (h : f_X7_set n p1 p2 p3 σ = some (rr, σr)) (hQ : Q (some (am_i rr)) (rm_h L σr)) : xs_aw d me_X7_set [am_r 75, am_i p1, am_i p2, am_i p3] (rm_h L σ) Q := by
  obtain ⟨d, rfl⟩ : ∃ k, d = k + 1 := ⟨d - 1, by omega⟩
  have hd : 2 ≤ d := by omega
  unfold f_X7_set at h
  show xs_AW (xs_aw d) me_X7_set Q 0 [some (am_r 75), some (am_i p1), some (am_i p2), some (am_i p3)] [] (rm_h L σ)
  refine rr_iload_n dX7_set_0 rfl ?_
  obtain ⟨r2, σ3, e1, h⟩ := ab_2 h
  refine rr_Si (as := [am_i p1]) (rest := []) dX7_set_1 ml_7_75 (Or.inl rfl) rfl rfl (Nat.le_of_ble_eq_true rfl) ⟨rfl, rfl⟩ (Nat.le_of_ble_eq_true rfl) (fun _ k => t_X7_isRow (by omega) e1 k) ?_
  rcases ab_i h with ⟨c4, h⟩ | ⟨c4, h⟩
  · refine rr_if_ne_p (t := 10) dX7_set_4 (by decide) c4 ?_
    refine rr_ldc dX7_set_7 cs_7_79 ?_
    obtain ⟨rfl, rfl⟩ := ab_r2 h
    exact rr_iret dX7_set_9 rfl hQ
  · refine rr_if_ne_n (t := 10) dX7_set_4 (by decide) c4 ?_
    refine rr_aload_n dX7_set_10 rfl ?_
    refine rr_iload_n dX7_set_11 rfl ?_
    obtain ⟨r6, σ7, e5, h⟩ := ab_2 h
    refine rr_Vi (as := [am_i p1]) (rest := []) dX7_set_12 ml_7_87 (sh_75 L) ⟨(by decide), by decide, by decide⟩ rfl rfl rfl (Nat.le_of_ble_eq_true rfl) ⟨rfl, rfl⟩ (Nat.le_of_ble_eq_true rfl) (fun _ k => t_X7_isMissing (by omega) e5 k) ?_
    rcases ab_i h with ⟨c8, h⟩ | ⟨c8, h⟩
    · refine rr_if_eq_p (t := 24) dX7_set_15 (by decide) c8 ?_
      refine rr_iload_n dX7_set_24 rfl ?_
      refine rr_iconst dX7_set_25 (by decide) ?_
      refine rr_aload_n dX7_set_26 rfl ?_
      refine rr_getr (t := 77) dX7_set_27 fl_7_13 (sh_75 L) ⟨(by decide), by decide⟩ rfl rfl ?_
      refine rr_iload_n dX7_set_30 rfl ?_
      obtain ⟨g9, h⟩ := ab_g h
      refine rr_iald (nz := 8) dX7_set_31 (sh_77 L) rfl g9 ?_
      refine rr_iconst dX7_set_32 (by decide) ?_
      refine rr_isub dX7_set_33 ?_
      obtain ⟨r11, σ12, e10, h⟩ := ab_2 h
      refine rr_Si (as := [am_i p2, am_i 0, am_i (am_w ((σ7 77 p1) - 1))]) (rest := []) dX7_set_34 ml_7_71 (Or.inl rfl) rfl rfl (Nat.le_of_ble_eq_true rfl) ⟨rfl, rfl⟩ (Nat.le_of_ble_eq_true rfl) (fun _ k => t_X7_in (by omega) e10 k) ?_
      rcases ab_i h with ⟨c13, h⟩ | ⟨c13, h⟩
      · refine rr_if_ne_p (t := 46) dX7_set_37 (by decide) c13 ?_
        refine rr_aload_n dX7_set_40 rfl ?_
        refine rr_iconst dX7_set_41 (by decide) ?_
        obtain ⟨r15, σ16, e14, h⟩ := ab_2 h
        refine rr_Vi (as := [am_i 2]) (rest := []) dX7_set_42 ml_7_80 (sh_75 L) ⟨(by decide), by decide, by decide⟩ rfl rfl rfl (Nat.le_of_ble_eq_true rfl) ⟨rfl, rfl⟩ (Nat.le_of_ble_eq_true rfl) (fun _ k => t_X7_found (by omega) e14 k) ?_
        obtain ⟨rfl, rfl⟩ := ab_r2 h
        exact rr_iret dX7_set_45 rfl hQ
      · refine rr_if_ne_n (t := 46) dX7_set_37 (by decide) c13 ?_
        refine rr_aload_n dX7_set_46 rfl ?_
        refine rr_getr (t := 78) dX7_set_47 fl_7_16 (sh_75 L) ⟨(by decide), by decide⟩ rfl rfl ?_
        refine rr_bipush dX7_set_50 (by decide) ?_
        refine rr_iload_n dX7_set_52 rfl ?_
        refine rr_imul dX7_set_53 ?_
        refine rr_iload_n dX7_set_54 rfl ?_
        refine rr_iadd dX7_set_55 ?_
        refine rr_aload_n dX7_set_56 rfl ?_
        refine rr_getr (t := 76) dX7_set_57 fl_7_7 (sh_75 L) ⟨(by decide), by decide⟩ rfl rfl ?_
        refine rr_iload_n dX7_set_60 rfl ?_
        refine rr_iald (nz := 8) dX7_set_61 (sh_76 L) rfl g9 ?_
        refine rr_iload_n dX7_set_62 rfl ?_
        obtain ⟨r18, σ19, e17, h⟩ := ab_2 h
        refine rr_Si (as := [am_i (σ12 76 p1), am_i p3]) (rest := [am_i (am_w ((am_w (40 * p1)) + p2)), am_r 78]) dX7_set_63 ml_7_90 (Or.inl rfl) rfl rfl (Nat.le_of_ble_eq_true rfl) ⟨rfl, rfl⟩ (Nat.le_of_ble_eq_true rfl) (fun _ k => t_X7_cut (by omega) e17 k) ?_
        obtain ⟨g20, h⟩ := ab_g h
        refine rr_iast (nz := 320) dX7_set_66 (sh_78 L) (by decide) rfl g20 ?_
        obtain ⟨σ21, e22, h⟩ := ab_1 h
        refine ab_m e22 ?_
        refine rr_aload_n dX7_set_67 rfl ?_
        refine rr_aload_n dX7_set_68 rfl ?_
        refine rr_getr (t := 78) dX7_set_69 fl_7_16 (sh_75 L) ⟨(by decide), by decide⟩ rfl rfl ?_
        refine rr_bipush dX7_set_72 (by decide) ?_
        refine rr_iload_n dX7_set_74 rfl ?_
        refine rr_imul dX7_set_75 ?_
        refine rr_iload_n dX7_set_76 rfl ?_
        refine rr_iadd dX7_set_77 ?_
        refine rr_iald (nz := 320) dX7_set_78 (sh_78 L) rfl g20 ?_
        obtain ⟨r24, σ25, e23, h⟩ := ab_2 h
        refine rr_Vi (as := [am_i (σ21 78 (am_w ((am_w (40 * p1)) + p2)))]) (rest := []) dX7_set_79 ml_7_84 (sh_75 L) ⟨(by decide), by decide, by decide⟩ rfl rfl rfl (Nat.le_of_ble_eq_true rfl) ⟨rfl, rfl⟩ (Nat.le_of_ble_eq_true rfl) (fun _ k => t_X7_well (by omega) e23 k) ?_
        obtain ⟨rfl, rfl⟩ := ab_r2 h
        exact rr_iret dX7_set_82 rfl hQ
    · refine rr_if_eq_n (t := 24) dX7_set_15 (by decide) c8 ?_
      refine rr_aload_n dX7_set_18 rfl ?_
      refine rr_iconst dX7_set_19 (by decide) ?_
      obtain ⟨r27, σ28, e26, h⟩ := ab_2 h
      refine rr_Vi (as := [am_i 1]) (rest := []) dX7_set_20 ml_7_80 (sh_75 L) ⟨(by decide), by decide, by decide⟩ rfl rfl rfl (Nat.le_of_ble_eq_true rfl) ⟨rfl, rfl⟩ (Nat.le_of_ble_eq_true rfl) (fun _ k => t_X7_found (by omega) e26 k) ?_
      obtain ⟨rfl, rfl⟩ := ab_r2 h
      exact rr_iret dX7_set_23 rfl hQ
def nw_X7_set (a : Nat) : Prop := a ≠ 75 ∧ a ≠ 78
theorem w_X7_set {n : Nat} {p1 : Int} {p2 : Int} {p3 : Int} {σ σr : am_Mem} {rr : Int} (h : f_X7_set n p1 p2 p3 σ = some (rr, σr)) : ∀ a : Nat, nw_X7_set a → σr a = σ a := by
  unfold f_X7_set at h
  have fr : ∀ a : Nat, nw_X7_set a → σ a = σ a := fun _ _ => rfl
  obtain ⟨r2, σ3, e1, h⟩ := ab_2 h
  have fr := fun (a : Nat) (ha : nw_X7_set a) => (congrFun (u_X7_isRow e1) a).trans (fr a ha)
  rcases ab_i h with ⟨c4, h⟩ | ⟨c4, h⟩
  · obtain ⟨q1, q2⟩ := ab_r2 h
    exact fun a ha => (congrFun q2.symm a).trans (fr a ha)
  · obtain ⟨r6, σ7, e5, h⟩ := ab_2 h
    have fr := fun (a : Nat) (ha : nw_X7_set a) => (congrFun (u_X7_isMissing e5) a).trans (fr a ha)
    rcases ab_i h with ⟨c8, h⟩ | ⟨c8, h⟩
    · obtain ⟨g9, h⟩ := ab_g h
      obtain ⟨r11, σ12, e10, h⟩ := ab_2 h
      have fr := fun (a : Nat) (ha : nw_X7_set a) => (congrFun (u_X7_in e10) a).trans (fr a ha)
      rcases ab_i h with ⟨c13, h⟩ | ⟨c13, h⟩
      · obtain ⟨r15, σ16, e14, h⟩ := ab_2 h
        have fr := fun (a : Nat) (ha : nw_X7_set a) => (w_X7_found e14 a (by unfold nw_X7_set at ha; unfold nw_X7_found; omega)).trans (fr a ha)
        obtain ⟨q1, q2⟩ := ab_r2 h
        exact fun a ha => (congrFun q2.symm a).trans (fr a ha)
      · obtain ⟨r18, σ19, e17, h⟩ := ab_2 h
        have fr := fun (a : Nat) (ha : nw_X7_set a) => (congrFun (u_X7_cut e17) a).trans (fr a ha)
        obtain ⟨g20, h⟩ := ab_g h
        obtain ⟨σ21, e22, h⟩ := ab_1 h
        have fr := fun (a : Nat) (ha : nw_X7_set a) => (ab_fu e22 (show a ≠ 78 by unfold nw_X7_set at ha; omega)).trans (fr a ha)
        obtain ⟨r24, σ25, e23, h⟩ := ab_2 h
        have fr := fun (a : Nat) (ha : nw_X7_set a) => (w_X7_well e23 a (by unfold nw_X7_set at ha; unfold nw_X7_well; omega)).trans (fr a ha)
        obtain ⟨q1, q2⟩ := ab_r2 h
        exact fun a ha => (congrFun q2.symm a).trans (fr a ha)
    · obtain ⟨r27, σ28, e26, h⟩ := ab_2 h
      have fr := fun (a : Nat) (ha : nw_X7_set a) => (w_X7_found e26 a (by unfold nw_X7_set at ha; unfold nw_X7_found; omega)).trans (fr a ha)
      obtain ⟨q1, q2⟩ := ab_r2 h
      exact fun a ha => (congrFun q2.symm a).trans (fr a ha)
/-! MoodFareModel.isPart -/
def f_X7_isPart (n : Nat) (p1 : Int) (p2 : Int) (p3 : Int) (σ : am_Mem) : Option (Int × am_Mem) :=
  if p2 < 0 then (some (0, σ)) else (if p3 < 0 then (some (0, σ)) else (if (0 : Int) ≤ p1 ∧ p1 < 8 then if p2 ≤ σ 77 p1 then (if p3 ≤ am_w ((σ 77 p1) - p2) then (some (1, σ)) else (some (0, σ))) else (some (0, σ)) else none))
theorem t_X7_isPart {L n d : Nat} {Q : am_Post} {p1 : Int} {p2 : Int} {p3 : Int} {σ σr : am_Mem} {rr : Int} (hd : 0 < d) (h : f_X7_isPart n p1 p2 p3 σ = some (rr, σr)) (hQ : Q (some (am_i rr)) (rm_h L σr)) : xs_aw d me_X7_isPart [am_r 75, am_i p1, am_i p2, am_i p3] (rm_h L σ) Q := by
  obtain ⟨d, rfl⟩ : ∃ k, d = k + 1 := ⟨d - 1, by omega⟩
  have hd : 0 ≤ d := by omega
  unfold f_X7_isPart at h
  show xs_AW (xs_aw d) me_X7_isPart Q 0 [some (am_r 75), some (am_i p1), some (am_i p2), some (am_i p3)] [] (rm_h L σ)
  refine rr_iload_n dX7_isPart_0 rfl ?_
  rcases ab_i h with ⟨c1, h⟩ | ⟨c1, h⟩
  · refine rr_if_lt_p (t := 34) dX7_isPart_1 (by decide) c1 ?_
    refine rr_iconst dX7_isPart_34 (by decide) ?_
    obtain ⟨rfl, rfl⟩ := ab_r2 h
    exact rr_zret dX7_isPart_35 rfl (Or.inl rfl) hQ
  · refine rr_if_lt_n (t := 34) dX7_isPart_1 (by decide) c1 ?_
    refine rr_iload_n dX7_isPart_4 rfl ?_
    rcases ab_i h with ⟨c2, h⟩ | ⟨c2, h⟩
    · refine rr_if_lt_p (t := 34) dX7_isPart_5 (by decide) c2 ?_
      refine rr_iconst dX7_isPart_34 (by decide) ?_
      obtain ⟨rfl, rfl⟩ := ab_r2 h
      exact rr_zret dX7_isPart_35 rfl (Or.inl rfl) hQ
    · refine rr_if_lt_n (t := 34) dX7_isPart_5 (by decide) c2 ?_
      refine rr_iload_n dX7_isPart_8 rfl ?_
      refine rr_aload_n dX7_isPart_9 rfl ?_
      refine rr_getr (t := 77) dX7_isPart_10 fl_7_13 (sh_75 L) ⟨(by decide), by decide⟩ rfl rfl ?_
      refine rr_iload_n dX7_isPart_13 rfl ?_
      obtain ⟨g3, h⟩ := ab_g h
      refine rr_iald (nz := 8) dX7_isPart_14 (sh_77 L) rfl g3 ?_
      rcases ab_i h with ⟨c4, h⟩ | ⟨c4, h⟩
      · refine rr_icmp_gt_p (t := 34) dX7_isPart_15 (by decide) c4 ?_
        refine rr_iload_n dX7_isPart_18 rfl ?_
        refine rr_aload_n dX7_isPart_19 rfl ?_
        refine rr_getr (t := 77) dX7_isPart_20 fl_7_13 (sh_75 L) ⟨(by decide), by decide⟩ rfl rfl ?_
        refine rr_iload_n dX7_isPart_23 rfl ?_
        refine rr_iald (nz := 8) dX7_isPart_24 (sh_77 L) rfl g3 ?_
        refine rr_iload_n dX7_isPart_25 rfl ?_
        refine rr_isub dX7_isPart_26 ?_
        rcases ab_i h with ⟨c5, h⟩ | ⟨c5, h⟩
        · refine rr_icmp_gt_p (t := 34) dX7_isPart_27 (by decide) c5 ?_
          refine rr_iconst dX7_isPart_30 (by decide) ?_
          refine rr_goto (t := 35) dX7_isPart_31 (by decide) ?_
          obtain ⟨rfl, rfl⟩ := ab_r2 h
          exact rr_zret dX7_isPart_35 rfl (Or.inr rfl) hQ
        · refine rr_icmp_gt_n (t := 34) dX7_isPart_27 (by decide) c5 ?_
          refine rr_iconst dX7_isPart_34 (by decide) ?_
          obtain ⟨rfl, rfl⟩ := ab_r2 h
          exact rr_zret dX7_isPart_35 rfl (Or.inl rfl) hQ
      · refine rr_icmp_gt_n (t := 34) dX7_isPart_15 (by decide) c4 ?_
        refine rr_iconst dX7_isPart_34 (by decide) ?_
        obtain ⟨rfl, rfl⟩ := ab_r2 h
        exact rr_zret dX7_isPart_35 rfl (Or.inl rfl) hQ
theorem u_X7_isPart {n : Nat} {p1 : Int} {p2 : Int} {p3 : Int} {σ σr : am_Mem} {rr : Int} (h : f_X7_isPart n p1 p2 p3 σ = some (rr, σr)) : σr = σ := by
  unfold f_X7_isPart at h
  have fr : σ = σ := rfl
  rcases ab_i h with ⟨c1, h⟩ | ⟨c1, h⟩
  · obtain ⟨q1, q2⟩ := ab_r2 h
    exact q2.symm.trans fr
  · rcases ab_i h with ⟨c2, h⟩ | ⟨c2, h⟩
    · obtain ⟨q1, q2⟩ := ab_r2 h
      exact q2.symm.trans fr
    · obtain ⟨g3, h⟩ := ab_g h
      rcases ab_i h with ⟨c4, h⟩ | ⟨c4, h⟩
      · rcases ab_i h with ⟨c5, h⟩ | ⟨c5, h⟩
        · obtain ⟨q1, q2⟩ := ab_r2 h
          exact q2.symm.trans fr
        · obtain ⟨q1, q2⟩ := ab_r2 h
          exact q2.symm.trans fr
      · obtain ⟨q1, q2⟩ := ab_r2 h
        exact q2.symm.trans fr
/-! MoodFareModel.copy -/
def fb_X7_copy_129 (n : Nat) (kh129 : Int → Int → Int → Int → am_Mem → Option (Int × am_Mem)) (x3 : Int) (x4 : Int) (x5 : Int) (x6 : Int) (σ : am_Mem) : Option (Int × am_Mem) :=
  if x6 < x5 then (if (0 : Int) ≤ x6 ∧ x6 < 40 then if (0 : Int) ≤ am_w ((am_w ((am_w (40 * x3)) + x4)) + x6) ∧ am_w ((am_w ((am_w (40 * x3)) + x4)) + x6) < 320 then am_b1 (some (am_up σ 78 (am_w ((am_w ((am_w (40 * x3)) + x4)) + x6)) (σ 79 x6))) fun σ42 => kh129 x3 x4 x5 (am_w (x6 + 1)) σ42 else none else none) else (am_b2 (f_X7_well n x5 σ) fun r45 σ46 => some (r45, σ46))
def fl_X7_copy_129 (n : Nat) : Nat → Int → Int → Int → Int → am_Mem → Option (Int × am_Mem)
  | 0, _, _, _, _, _ => none
  | m + 1, x3, x4, x5, x6, σ => fb_X7_copy_129 n (fun yx3 yx4 yx5 yx6 σ => fl_X7_copy_129 n m yx3 yx4 yx5 yx6 σ) x3 x4 x5 x6 σ
def fb_X7_copy_92 (n : Nat) (kh92 : Int → Int → Int → Int → Int → Int → am_Mem → Option (Int × am_Mem)) (x1 : Int) (x2 : Int) (x3 : Int) (x4 : Int) (x5 : Int) (x6 : Int) (σ : am_Mem) : Option (Int × am_Mem) :=
  if x6 < x5 then (if (0 : Int) ≤ am_w ((am_w ((am_w (40 * x1)) + x2)) + x6) ∧ am_w ((am_w ((am_w (40 * x1)) + x2)) + x6) < 320 then if (0 : Int) ≤ x6 ∧ x6 < 40 then am_b1 (some (am_up σ 79 x6 (σ 78 (am_w ((am_w ((am_w (40 * x1)) + x2)) + x6))))) fun σ37 => kh92 x1 x2 x3 x4 x5 (am_w (x6 + 1)) σ37 else none else none) else (fl_X7_copy_129 n n x3 x4 x5 0 σ)
def fl_X7_copy_92 (n : Nat) : Nat → Int → Int → Int → Int → Int → Int → am_Mem → Option (Int × am_Mem)
  | 0, _, _, _, _, _, _, _ => none
  | m + 1, x1, x2, x3, x4, x5, x6, σ => fb_X7_copy_92 n (fun yx1 yx2 yx3 yx4 yx5 yx6 σ => fl_X7_copy_92 n m yx1 yx2 yx3 yx4 yx5 yx6 σ) x1 x2 x3 x4 x5 x6 σ
def f_X7_copy (n : Nat) (p1 : Int) (p2 : Int) (p3 : Int) (p4 : Int) (p5 : Int) (σ : am_Mem) : Option (Int × am_Mem) :=
  am_b2 (f_X7_isRow n p1 σ) fun r2 σ3 => if r2 = 0 then (some ((-1000001), σ3)) else (am_b2 (f_X7_isRow n p3 σ3) fun r6 σ7 => if r6 = 0 then (some ((-1000001), σ7)) else (am_b2 (f_X7_isMissing n p1 σ7) fun r10 σ11 => if r10 = 0 then (am_b2 (f_X7_isMissing n p3 σ11) fun r14 σ15 => if r14 = 0 then (if (0 : Int) ≤ p1 ∧ p1 < 8 then if (0 : Int) ≤ p3 ∧ p3 < 8 then if σ15 76 p1 = σ15 76 p3 then (am_b2 (f_X7_isPart n p1 p2 p5 σ15) fun r21 σ22 => if r21 = 0 then (am_b2 (f_X7_found n 2 σ22) fun r25 σ26 => some (r25, σ26)) else (am_b2 (f_X7_isPart n p3 p4 p5 σ22) fun r28 σ29 => if r28 = 0 then (am_b2 (f_X7_found n 2 σ29) fun r32 σ33 => some (r32, σ33)) else (fl_X7_copy_92 n n p1 p2 p3 p4 p5 0 σ29))) else (am_b2 (f_X7_found n 5 σ15) fun r48 σ49 => some (r48, σ49)) else none else none) else (am_b2 (f_X7_found n 1 σ15) fun r51 σ52 => some (r51, σ52))) else (am_b2 (f_X7_found n 1 σ11) fun r54 σ55 => some (r54, σ55))))
theorem tb_X7_copy_129 {L n d : Nat} {Q : am_Post} {kh129 : Int → Int → Int → Int → am_Mem → Option (Int × am_Mem)} {x3 : Int} {x4 : Int} {x5 : Int} {x6 : Int} {o1 : Int} {o2 : Int} {σ σr : am_Mem} {rr : Int} (hd : 2 ≤ d) (hk129 : ∀ (y3 : Int) (y4 : Int) (y5 : Int) (y6 : Int) (σ : am_Mem), kh129 y3 y4 y5 y6 σ = some (rr, σr) → ∀ (o1 : Int) (o2 : Int), xs_AW (xs_aw d) me_X7_copy Q 129 [some (am_r 75), some (am_i o1), some (am_i o2), some (am_i y3), some (am_i y4), some (am_i y5), some (am_i y6)] [] (rm_h L σ)) (hQ : Q (some (am_i rr)) (rm_h L σr)) (h : fb_X7_copy_129 n kh129 x3 x4 x5 x6 σ = some (rr, σr)) : xs_AW (xs_aw d) me_X7_copy Q 129 [some (am_r 75), some (am_i o1), some (am_i o2), some (am_i x3), some (am_i x4), some (am_i x5), some (am_i x6)] [] (rm_h L σ) := by
  unfold fb_X7_copy_129 at h
  refine rr_iload dX7_copy_129 rfl ?_
  refine rr_iload dX7_copy_131 rfl ?_
  rcases ab_i h with ⟨c39, h⟩ | ⟨c39, h⟩
  · refine rr_icmp_ge_p (t := 164) dX7_copy_133 (by decide) c39 ?_
    refine rr_aload_n dX7_copy_136 rfl ?_
    refine rr_getr (t := 78) dX7_copy_137 fl_7_16 (sh_75 L) ⟨(by decide), by decide⟩ rfl rfl ?_
    refine rr_bipush dX7_copy_140 (by decide) ?_
    refine rr_iload_n dX7_copy_142 rfl ?_
    refine rr_imul dX7_copy_143 ?_
    refine rr_iload dX7_copy_144 rfl ?_
    refine rr_iadd dX7_copy_146 ?_
    refine rr_iload dX7_copy_147 rfl ?_
    refine rr_iadd dX7_copy_149 ?_
    refine rr_aload_n dX7_copy_150 rfl ?_
    refine rr_getr (t := 79) dX7_copy_151 fl_7_19 (sh_75 L) ⟨(by decide), by decide⟩ rfl rfl ?_
    refine rr_iload dX7_copy_154 rfl ?_
    obtain ⟨g40, h⟩ := ab_g h
    refine rr_iald (nz := 40) dX7_copy_156 (sh_79 L) rfl g40 ?_
    obtain ⟨g41, h⟩ := ab_g h
    refine rr_iast (nz := 320) dX7_copy_157 (sh_78 L) (by decide) rfl g41 ?_
    obtain ⟨σ42, e43, h⟩ := ab_1 h
    refine ab_m e43 ?_
    refine rr_iinc (ls' := [some (am_r 75), some (am_i o1), some (am_i o2), some (am_i x3), some (am_i x4), some (am_i x5), some (am_i (am_w (x6 + 1)))]) dX7_copy_158 rfl (Nat.le_of_ble_eq_true rfl) rfl ?_
    refine rr_goto (t := 129) dX7_copy_161 (by decide) ?_
    exact hk129 _ _ _ _ _ h _ _
  · refine rr_icmp_ge_n (t := 164) dX7_copy_133 (by decide) c39 ?_
    refine rr_aload_n dX7_copy_164 rfl ?_
    refine rr_iload dX7_copy_165 rfl ?_
    obtain ⟨r45, σ46, e44, h⟩ := ab_2 h
    refine rr_Vi (as := [am_i x5]) (rest := []) dX7_copy_167 ml_7_84 (sh_75 L) ⟨(by decide), by decide, by decide⟩ rfl rfl rfl (Nat.le_of_ble_eq_true rfl) ⟨rfl, rfl⟩ (Nat.le_of_ble_eq_true rfl) (fun _ k => t_X7_well (by omega) e44 k) ?_
    obtain ⟨rfl, rfl⟩ := ab_r2 h
    exact rr_iret dX7_copy_170 rfl hQ
theorem tl_X7_copy_129 {L n d : Nat} {Q : am_Post} {σr : am_Mem} {rr : Int} (hd : 2 ≤ d) (hQ : Q (some (am_i rr)) (rm_h L σr)) : ∀ (m : Nat) (x3 : Int) (x4 : Int) (x5 : Int) (x6 : Int) (σ : am_Mem) (o1 : Int) (o2 : Int), fl_X7_copy_129 n m x3 x4 x5 x6 σ = some (rr, σr) → xs_AW (xs_aw d) me_X7_copy Q 129 [some (am_r 75), some (am_i o1), some (am_i o2), some (am_i x3), some (am_i x4), some (am_i x5), some (am_i x6)] [] (rm_h L σ) := by
  intro m
  induction m with
  | zero => intro x3 x4 x5 x6 σ o1 o2 h; cases h
  | succ m ih =>
    intro x3 x4 x5 x6 σ o1 o2 h
    exact tb_X7_copy_129 hd (fun x3 x4 x5 x6 σ h o1 o2 => ih x3 x4 x5 x6 σ o1 o2 h) hQ h
theorem tb_X7_copy_92 {L n d : Nat} {Q : am_Post} {kh92 : Int → Int → Int → Int → Int → Int → am_Mem → Option (Int × am_Mem)} {x1 : Int} {x2 : Int} {x3 : Int} {x4 : Int} {x5 : Int} {x6 : Int} {σ σr : am_Mem} {rr : Int} (hd : 2 ≤ d) (hk92 : ∀ (y1 : Int) (y2 : Int) (y3 : Int) (y4 : Int) (y5 : Int) (y6 : Int) (σ : am_Mem), kh92 y1 y2 y3 y4 y5 y6 σ = some (rr, σr) → xs_AW (xs_aw d) me_X7_copy Q 92 [some (am_r 75), some (am_i y1), some (am_i y2), some (am_i y3), some (am_i y4), some (am_i y5), some (am_i y6)] [] (rm_h L σ)) (hQ : Q (some (am_i rr)) (rm_h L σr)) (h : fb_X7_copy_92 n kh92 x1 x2 x3 x4 x5 x6 σ = some (rr, σr)) : xs_AW (xs_aw d) me_X7_copy Q 92 [some (am_r 75), some (am_i x1), some (am_i x2), some (am_i x3), some (am_i x4), some (am_i x5), some (am_i x6)] [] (rm_h L σ) := by
  unfold fb_X7_copy_92 at h
  refine rr_iload dX7_copy_92 rfl ?_
  refine rr_iload dX7_copy_94 rfl ?_
  rcases ab_i h with ⟨c34, h⟩ | ⟨c34, h⟩
  · refine rr_icmp_ge_p (t := 126) dX7_copy_96 (by decide) c34 ?_
    refine rr_aload_n dX7_copy_99 rfl ?_
    refine rr_getr (t := 79) dX7_copy_100 fl_7_19 (sh_75 L) ⟨(by decide), by decide⟩ rfl rfl ?_
    refine rr_iload dX7_copy_103 rfl ?_
    refine rr_aload_n dX7_copy_105 rfl ?_
    refine rr_getr (t := 78) dX7_copy_106 fl_7_16 (sh_75 L) ⟨(by decide), by decide⟩ rfl rfl ?_
    refine rr_bipush dX7_copy_109 (by decide) ?_
    refine rr_iload_n dX7_copy_111 rfl ?_
    refine rr_imul dX7_copy_112 ?_
    refine rr_iload_n dX7_copy_113 rfl ?_
    refine rr_iadd dX7_copy_114 ?_
    refine rr_iload dX7_copy_115 rfl ?_
    refine rr_iadd dX7_copy_117 ?_
    obtain ⟨g35, h⟩ := ab_g h
    refine rr_iald (nz := 320) dX7_copy_118 (sh_78 L) rfl g35 ?_
    obtain ⟨g36, h⟩ := ab_g h
    refine rr_iast (nz := 40) dX7_copy_119 (sh_79 L) (by decide) rfl g36 ?_
    obtain ⟨σ37, e38, h⟩ := ab_1 h
    refine ab_m e38 ?_
    refine rr_iinc (ls' := [some (am_r 75), some (am_i x1), some (am_i x2), some (am_i x3), some (am_i x4), some (am_i x5), some (am_i (am_w (x6 + 1)))]) dX7_copy_120 rfl (Nat.le_of_ble_eq_true rfl) rfl ?_
    refine rr_goto (t := 92) dX7_copy_123 (by decide) ?_
    exact hk92 _ _ _ _ _ _ _ h
  · refine rr_icmp_ge_n (t := 126) dX7_copy_96 (by decide) c34 ?_
    refine rr_iconst dX7_copy_126 (by decide) ?_
    refine rr_istore (ls' := [some (am_r 75), some (am_i x1), some (am_i x2), some (am_i x3), some (am_i x4), some (am_i x5), some (am_i 0)]) dX7_copy_127 (Nat.le_of_ble_eq_true rfl) rfl ?_
    exact tl_X7_copy_129 hd hQ n _ _ _ _ _ _ _ h
theorem tl_X7_copy_92 {L n d : Nat} {Q : am_Post} {σr : am_Mem} {rr : Int} (hd : 2 ≤ d) (hQ : Q (some (am_i rr)) (rm_h L σr)) : ∀ (m : Nat) (x1 : Int) (x2 : Int) (x3 : Int) (x4 : Int) (x5 : Int) (x6 : Int) (σ : am_Mem), fl_X7_copy_92 n m x1 x2 x3 x4 x5 x6 σ = some (rr, σr) → xs_AW (xs_aw d) me_X7_copy Q 92 [some (am_r 75), some (am_i x1), some (am_i x2), some (am_i x3), some (am_i x4), some (am_i x5), some (am_i x6)] [] (rm_h L σ) := by
  intro m
  induction m with
  | zero => intro x1 x2 x3 x4 x5 x6 σ h; cases h
  | succ m ih =>
    intro x1 x2 x3 x4 x5 x6 σ h
    exact tb_X7_copy_92 hd (fun x1 x2 x3 x4 x5 x6 σ h => ih x1 x2 x3 x4 x5 x6 σ h) hQ h
theorem t_X7_copy {L n d : Nat} {Q : am_Post} {p1 : Int} {p2 : Int} {p3 : Int} {p4 : Int} {p5 : Int} {σ σr : am_Mem} {rr : Int} (hd : 2 < d) (h : f_X7_copy n p1 p2 p3 p4 p5 σ = some (rr, σr)) (hQ : Q (some (am_i rr)) (rm_h L σr)) : xs_aw d me_X7_copy [am_r 75, am_i p1, am_i p2, am_i p3, am_i p4, am_i p5] (rm_h L σ) Q := by
  obtain ⟨d, rfl⟩ : ∃ k, d = k + 1 := ⟨d - 1, by omega⟩
  have hd : 2 ≤ d := by omega
  unfold f_X7_copy at h
  show xs_AW (xs_aw d) me_X7_copy Q 0 [some (am_r 75), some (am_i p1), some (am_i p2), some (am_i p3), some (am_i p4), some (am_i p5), none] [] (rm_h L σ)
  refine rr_iload_n dX7_copy_0 rfl ?_
  obtain ⟨r2, σ3, e1, h⟩ := ab_2 h
  refine rr_Si (as := [am_i p1]) (rest := []) dX7_copy_1 ml_7_75 (Or.inl rfl) rfl rfl (Nat.le_of_ble_eq_true rfl) ⟨rfl, rfl⟩ (Nat.le_of_ble_eq_true rfl) (fun _ k => t_X7_isRow (by omega) e1 k) ?_
  rcases ab_i h with ⟨c4, h⟩ | ⟨c4, h⟩
  · refine rr_if_eq_p (t := 14) dX7_copy_4 (by decide) c4 ?_
    refine rr_ldc dX7_copy_14 cs_7_79 ?_
    obtain ⟨rfl, rfl⟩ := ab_r2 h
    exact rr_iret dX7_copy_16 rfl hQ
  · refine rr_if_eq_n (t := 14) dX7_copy_4 (by decide) c4 ?_
    refine rr_iload_n dX7_copy_7 rfl ?_
    obtain ⟨r6, σ7, e5, h⟩ := ab_2 h
    refine rr_Si (as := [am_i p3]) (rest := []) dX7_copy_8 ml_7_75 (Or.inl rfl) rfl rfl (Nat.le_of_ble_eq_true rfl) ⟨rfl, rfl⟩ (Nat.le_of_ble_eq_true rfl) (fun _ k => t_X7_isRow (by omega) e5 k) ?_
    rcases ab_i h with ⟨c8, h⟩ | ⟨c8, h⟩
    · refine rr_if_ne_p (t := 17) dX7_copy_11 (by decide) c8 ?_
      refine rr_ldc dX7_copy_14 cs_7_79 ?_
      obtain ⟨rfl, rfl⟩ := ab_r2 h
      exact rr_iret dX7_copy_16 rfl hQ
    · refine rr_if_ne_n (t := 17) dX7_copy_11 (by decide) c8 ?_
      refine rr_aload_n dX7_copy_17 rfl ?_
      refine rr_iload_n dX7_copy_18 rfl ?_
      obtain ⟨r10, σ11, e9, h⟩ := ab_2 h
      refine rr_Vi (as := [am_i p1]) (rest := []) dX7_copy_19 ml_7_87 (sh_75 L) ⟨(by decide), by decide, by decide⟩ rfl rfl rfl (Nat.le_of_ble_eq_true rfl) ⟨rfl, rfl⟩ (Nat.le_of_ble_eq_true rfl) (fun _ k => t_X7_isMissing (by omega) e9 k) ?_
      rcases ab_i h with ⟨c12, h⟩ | ⟨c12, h⟩
      · refine rr_if_ne_p (t := 33) dX7_copy_22 (by decide) c12 ?_
        refine rr_aload_n dX7_copy_25 rfl ?_
        refine rr_iload_n dX7_copy_26 rfl ?_
        obtain ⟨r14, σ15, e13, h⟩ := ab_2 h
        refine rr_Vi (as := [am_i p3]) (rest := []) dX7_copy_27 ml_7_87 (sh_75 L) ⟨(by decide), by decide, by decide⟩ rfl rfl rfl (Nat.le_of_ble_eq_true rfl) ⟨rfl, rfl⟩ (Nat.le_of_ble_eq_true rfl) (fun _ k => t_X7_isMissing (by omega) e13 k) ?_
        rcases ab_i h with ⟨c16, h⟩ | ⟨c16, h⟩
        · refine rr_if_eq_p (t := 39) dX7_copy_30 (by decide) c16 ?_
          refine rr_aload_n dX7_copy_39 rfl ?_
          refine rr_getr (t := 76) dX7_copy_40 fl_7_7 (sh_75 L) ⟨(by decide), by decide⟩ rfl rfl ?_
          refine rr_iload_n dX7_copy_43 rfl ?_
          obtain ⟨g17, h⟩ := ab_g h
          refine rr_iald (nz := 8) dX7_copy_44 (sh_76 L) rfl g17 ?_
          refine rr_aload_n dX7_copy_45 rfl ?_
          refine rr_getr (t := 76) dX7_copy_46 fl_7_7 (sh_75 L) ⟨(by decide), by decide⟩ rfl rfl ?_
          refine rr_iload_n dX7_copy_49 rfl ?_
          obtain ⟨g18, h⟩ := ab_g h
          refine rr_iald (nz := 8) dX7_copy_50 (sh_76 L) rfl g18 ?_
          rcases ab_i h with ⟨c19, h⟩ | ⟨c19, h⟩
          · refine rr_icmp_eq_p (t := 60) dX7_copy_51 (by decide) c19 ?_
            refine rr_aload_n dX7_copy_60 rfl ?_
            refine rr_iload_n dX7_copy_61 rfl ?_
            refine rr_iload_n dX7_copy_62 rfl ?_
            refine rr_iload dX7_copy_63 rfl ?_
            obtain ⟨r21, σ22, e20, h⟩ := ab_2 h
            refine rr_Vi (as := [am_i p1, am_i p2, am_i p5]) (rest := []) dX7_copy_65 ml_7_94 (sh_75 L) ⟨(by decide), by decide, by decide⟩ rfl rfl rfl (Nat.le_of_ble_eq_true rfl) ⟨rfl, rfl⟩ (Nat.le_of_ble_eq_true rfl) (fun _ k => t_X7_isPart (by omega) e20 k) ?_
            rcases ab_i h with ⟨c23, h⟩ | ⟨c23, h⟩
            · refine rr_if_eq_p (t := 83) dX7_copy_68 (by decide) c23 ?_
              refine rr_aload_n dX7_copy_83 rfl ?_
              refine rr_iconst dX7_copy_84 (by decide) ?_
              obtain ⟨r25, σ26, e24, h⟩ := ab_2 h
              refine rr_Vi (as := [am_i 2]) (rest := []) dX7_copy_85 ml_7_80 (sh_75 L) ⟨(by decide), by decide, by decide⟩ rfl rfl rfl (Nat.le_of_ble_eq_true rfl) ⟨rfl, rfl⟩ (Nat.le_of_ble_eq_true rfl) (fun _ k => t_X7_found (by omega) e24 k) ?_
              obtain ⟨rfl, rfl⟩ := ab_r2 h
              exact rr_iret dX7_copy_88 rfl hQ
            · refine rr_if_eq_n (t := 83) dX7_copy_68 (by decide) c23 ?_
              refine rr_aload_n dX7_copy_71 rfl ?_
              refine rr_iload_n dX7_copy_72 rfl ?_
              refine rr_iload dX7_copy_73 rfl ?_
              refine rr_iload dX7_copy_75 rfl ?_
              obtain ⟨r28, σ29, e27, h⟩ := ab_2 h
              refine rr_Vi (as := [am_i p3, am_i p4, am_i p5]) (rest := []) dX7_copy_77 ml_7_94 (sh_75 L) ⟨(by decide), by decide, by decide⟩ rfl rfl rfl (Nat.le_of_ble_eq_true rfl) ⟨rfl, rfl⟩ (Nat.le_of_ble_eq_true rfl) (fun _ k => t_X7_isPart (by omega) e27 k) ?_
              rcases ab_i h with ⟨c30, h⟩ | ⟨c30, h⟩
              · refine rr_if_ne_p (t := 89) dX7_copy_80 (by decide) c30 ?_
                refine rr_aload_n dX7_copy_83 rfl ?_
                refine rr_iconst dX7_copy_84 (by decide) ?_
                obtain ⟨r32, σ33, e31, h⟩ := ab_2 h
                refine rr_Vi (as := [am_i 2]) (rest := []) dX7_copy_85 ml_7_80 (sh_75 L) ⟨(by decide), by decide, by decide⟩ rfl rfl rfl (Nat.le_of_ble_eq_true rfl) ⟨rfl, rfl⟩ (Nat.le_of_ble_eq_true rfl) (fun _ k => t_X7_found (by omega) e31 k) ?_
                obtain ⟨rfl, rfl⟩ := ab_r2 h
                exact rr_iret dX7_copy_88 rfl hQ
              · refine rr_if_ne_n (t := 89) dX7_copy_80 (by decide) c30 ?_
                refine rr_iconst dX7_copy_89 (by decide) ?_
                refine rr_istore (ls' := [some (am_r 75), some (am_i p1), some (am_i p2), some (am_i p3), some (am_i p4), some (am_i p5), some (am_i 0)]) dX7_copy_90 (Nat.le_of_ble_eq_true rfl) rfl ?_
                exact tl_X7_copy_92 hd hQ n _ _ _ _ _ _ _ h
          · refine rr_icmp_eq_n (t := 60) dX7_copy_51 (by decide) c19 ?_
            refine rr_aload_n dX7_copy_54 rfl ?_
            refine rr_iconst dX7_copy_55 (by decide) ?_
            obtain ⟨r48, σ49, e47, h⟩ := ab_2 h
            refine rr_Vi (as := [am_i 5]) (rest := []) dX7_copy_56 ml_7_80 (sh_75 L) ⟨(by decide), by decide, by decide⟩ rfl rfl rfl (Nat.le_of_ble_eq_true rfl) ⟨rfl, rfl⟩ (Nat.le_of_ble_eq_true rfl) (fun _ k => t_X7_found (by omega) e47 k) ?_
            obtain ⟨rfl, rfl⟩ := ab_r2 h
            exact rr_iret dX7_copy_59 rfl hQ
        · refine rr_if_eq_n (t := 39) dX7_copy_30 (by decide) c16 ?_
          refine rr_aload_n dX7_copy_33 rfl ?_
          refine rr_iconst dX7_copy_34 (by decide) ?_
          obtain ⟨r51, σ52, e50, h⟩ := ab_2 h
          refine rr_Vi (as := [am_i 1]) (rest := []) dX7_copy_35 ml_7_80 (sh_75 L) ⟨(by decide), by decide, by decide⟩ rfl rfl rfl (Nat.le_of_ble_eq_true rfl) ⟨rfl, rfl⟩ (Nat.le_of_ble_eq_true rfl) (fun _ k => t_X7_found (by omega) e50 k) ?_
          obtain ⟨rfl, rfl⟩ := ab_r2 h
          exact rr_iret dX7_copy_38 rfl hQ
      · refine rr_if_ne_n (t := 33) dX7_copy_22 (by decide) c12 ?_
        refine rr_aload_n dX7_copy_33 rfl ?_
        refine rr_iconst dX7_copy_34 (by decide) ?_
        obtain ⟨r54, σ55, e53, h⟩ := ab_2 h
        refine rr_Vi (as := [am_i 1]) (rest := []) dX7_copy_35 ml_7_80 (sh_75 L) ⟨(by decide), by decide, by decide⟩ rfl rfl rfl (Nat.le_of_ble_eq_true rfl) ⟨rfl, rfl⟩ (Nat.le_of_ble_eq_true rfl) (fun _ k => t_X7_found (by omega) e53 k) ?_
        obtain ⟨rfl, rfl⟩ := ab_r2 h
        exact rr_iret dX7_copy_38 rfl hQ
def nw_X7_copy (a : Nat) : Prop := a ≠ 75 ∧ a ≠ 78 ∧ a ≠ 79
theorem wb_X7_copy_129 {n : Nat} {kh129 : Int → Int → Int → Int → am_Mem → Option (Int × am_Mem)} {x3 : Int} {x4 : Int} {x5 : Int} {x6 : Int} {σ σr : am_Mem} {rr : Int} (hk129 : ∀ (y3 : Int) (y4 : Int) (y5 : Int) (y6 : Int) (σ : am_Mem), kh129 y3 y4 y5 y6 σ = some (rr, σr) → ∀ a : Nat, nw_X7_copy a → σr a = σ a) (h : fb_X7_copy_129 n kh129 x3 x4 x5 x6 σ = some (rr, σr)) : ∀ a : Nat, nw_X7_copy a → σr a = σ a := by
  unfold fb_X7_copy_129 at h
  have fr : ∀ a : Nat, nw_X7_copy a → σ a = σ a := fun _ _ => rfl
  rcases ab_i h with ⟨c39, h⟩ | ⟨c39, h⟩
  · obtain ⟨g40, h⟩ := ab_g h
    obtain ⟨g41, h⟩ := ab_g h
    obtain ⟨σ42, e43, h⟩ := ab_1 h
    have fr := fun (a : Nat) (ha : nw_X7_copy a) => (ab_fu e43 (show a ≠ 78 by unfold nw_X7_copy at ha; omega)).trans (fr a ha)
    exact fun a ha => (hk129 _ _ _ _ _ h a ha).trans (fr a ha)
  · obtain ⟨r45, σ46, e44, h⟩ := ab_2 h
    have fr := fun (a : Nat) (ha : nw_X7_copy a) => (w_X7_well e44 a (by unfold nw_X7_copy at ha; unfold nw_X7_well; omega)).trans (fr a ha)
    obtain ⟨q1, q2⟩ := ab_r2 h
    exact fun a ha => (congrFun q2.symm a).trans (fr a ha)
theorem wl_X7_copy_129 {n : Nat} {σr : am_Mem} {rr : Int} : ∀ (m : Nat) (x3 : Int) (x4 : Int) (x5 : Int) (x6 : Int) (σ : am_Mem), fl_X7_copy_129 n m x3 x4 x5 x6 σ = some (rr, σr) → ∀ a : Nat, nw_X7_copy a → σr a = σ a := by
  intro m
  induction m with
  | zero => intro x3 x4 x5 x6 σ h; cases h
  | succ m ih =>
    intro x3 x4 x5 x6 σ h
    exact wb_X7_copy_129 (fun x3 x4 x5 x6 σ h => ih x3 x4 x5 x6 σ h) h
theorem wb_X7_copy_92 {n : Nat} {kh92 : Int → Int → Int → Int → Int → Int → am_Mem → Option (Int × am_Mem)} {x1 : Int} {x2 : Int} {x3 : Int} {x4 : Int} {x5 : Int} {x6 : Int} {σ σr : am_Mem} {rr : Int} (hk92 : ∀ (y1 : Int) (y2 : Int) (y3 : Int) (y4 : Int) (y5 : Int) (y6 : Int) (σ : am_Mem), kh92 y1 y2 y3 y4 y5 y6 σ = some (rr, σr) → ∀ a : Nat, nw_X7_copy a → σr a = σ a) (h : fb_X7_copy_92 n kh92 x1 x2 x3 x4 x5 x6 σ = some (rr, σr)) : ∀ a : Nat, nw_X7_copy a → σr a = σ a := by
  unfold fb_X7_copy_92 at h
  have fr : ∀ a : Nat, nw_X7_copy a → σ a = σ a := fun _ _ => rfl
  rcases ab_i h with ⟨c34, h⟩ | ⟨c34, h⟩
  · obtain ⟨g35, h⟩ := ab_g h
    obtain ⟨g36, h⟩ := ab_g h
    obtain ⟨σ37, e38, h⟩ := ab_1 h
    have fr := fun (a : Nat) (ha : nw_X7_copy a) => (ab_fu e38 (show a ≠ 79 by unfold nw_X7_copy at ha; omega)).trans (fr a ha)
    exact fun a ha => (hk92 _ _ _ _ _ _ _ h a ha).trans (fr a ha)
  · exact fun a ha => (wl_X7_copy_129 n _ _ _ _ _ h a ha).trans (fr a ha)
theorem wl_X7_copy_92 {n : Nat} {σr : am_Mem} {rr : Int} : ∀ (m : Nat) (x1 : Int) (x2 : Int) (x3 : Int) (x4 : Int) (x5 : Int) (x6 : Int) (σ : am_Mem), fl_X7_copy_92 n m x1 x2 x3 x4 x5 x6 σ = some (rr, σr) → ∀ a : Nat, nw_X7_copy a → σr a = σ a := by
  intro m
  induction m with
  | zero => intro x1 x2 x3 x4 x5 x6 σ h; cases h
  | succ m ih =>
    intro x1 x2 x3 x4 x5 x6 σ h
    exact wb_X7_copy_92 (fun x1 x2 x3 x4 x5 x6 σ h => ih x1 x2 x3 x4 x5 x6 σ h) h
theorem w_X7_copy {n : Nat} {p1 : Int} {p2 : Int} {p3 : Int} {p4 : Int} {p5 : Int} {σ σr : am_Mem} {rr : Int} (h : f_X7_copy n p1 p2 p3 p4 p5 σ = some (rr, σr)) : ∀ a : Nat, nw_X7_copy a → σr a = σ a := by
  unfold f_X7_copy at h
  have fr : ∀ a : Nat, nw_X7_copy a → σ a = σ a := fun _ _ => rfl
  obtain ⟨r2, σ3, e1, h⟩ := ab_2 h
  have fr := fun (a : Nat) (ha : nw_X7_copy a) => (congrFun (u_X7_isRow e1) a).trans (fr a ha)
  rcases ab_i h with ⟨c4, h⟩ | ⟨c4, h⟩
  · obtain ⟨q1, q2⟩ := ab_r2 h
    exact fun a ha => (congrFun q2.symm a).trans (fr a ha)
  · obtain ⟨r6, σ7, e5, h⟩ := ab_2 h
    have fr := fun (a : Nat) (ha : nw_X7_copy a) => (congrFun (u_X7_isRow e5) a).trans (fr a ha)
    rcases ab_i h with ⟨c8, h⟩ | ⟨c8, h⟩
    · obtain ⟨q1, q2⟩ := ab_r2 h
      exact fun a ha => (congrFun q2.symm a).trans (fr a ha)
    · obtain ⟨r10, σ11, e9, h⟩ := ab_2 h
      have fr := fun (a : Nat) (ha : nw_X7_copy a) => (congrFun (u_X7_isMissing e9) a).trans (fr a ha)
      rcases ab_i h with ⟨c12, h⟩ | ⟨c12, h⟩
      · obtain ⟨r14, σ15, e13, h⟩ := ab_2 h
        have fr := fun (a : Nat) (ha : nw_X7_copy a) => (congrFun (u_X7_isMissing e13) a).trans (fr a ha)
        rcases ab_i h with ⟨c16, h⟩ | ⟨c16, h⟩
        · obtain ⟨g17, h⟩ := ab_g h
          obtain ⟨g18, h⟩ := ab_g h
          rcases ab_i h with ⟨c19, h⟩ | ⟨c19, h⟩
          · obtain ⟨r21, σ22, e20, h⟩ := ab_2 h
            have fr := fun (a : Nat) (ha : nw_X7_copy a) => (congrFun (u_X7_isPart e20) a).trans (fr a ha)
            rcases ab_i h with ⟨c23, h⟩ | ⟨c23, h⟩
            · obtain ⟨r25, σ26, e24, h⟩ := ab_2 h
              have fr := fun (a : Nat) (ha : nw_X7_copy a) => (w_X7_found e24 a (by unfold nw_X7_copy at ha; unfold nw_X7_found; omega)).trans (fr a ha)
              obtain ⟨q1, q2⟩ := ab_r2 h
              exact fun a ha => (congrFun q2.symm a).trans (fr a ha)
            · obtain ⟨r28, σ29, e27, h⟩ := ab_2 h
              have fr := fun (a : Nat) (ha : nw_X7_copy a) => (congrFun (u_X7_isPart e27) a).trans (fr a ha)
              rcases ab_i h with ⟨c30, h⟩ | ⟨c30, h⟩
              · obtain ⟨r32, σ33, e31, h⟩ := ab_2 h
                have fr := fun (a : Nat) (ha : nw_X7_copy a) => (w_X7_found e31 a (by unfold nw_X7_copy at ha; unfold nw_X7_found; omega)).trans (fr a ha)
                obtain ⟨q1, q2⟩ := ab_r2 h
                exact fun a ha => (congrFun q2.symm a).trans (fr a ha)
              · exact fun a ha => (wl_X7_copy_92 n _ _ _ _ _ _ _ h a ha).trans (fr a ha)
          · obtain ⟨r48, σ49, e47, h⟩ := ab_2 h
            have fr := fun (a : Nat) (ha : nw_X7_copy a) => (w_X7_found e47 a (by unfold nw_X7_copy at ha; unfold nw_X7_found; omega)).trans (fr a ha)
            obtain ⟨q1, q2⟩ := ab_r2 h
            exact fun a ha => (congrFun q2.symm a).trans (fr a ha)
        · obtain ⟨r51, σ52, e50, h⟩ := ab_2 h
          have fr := fun (a : Nat) (ha : nw_X7_copy a) => (w_X7_found e50 a (by unfold nw_X7_copy at ha; unfold nw_X7_found; omega)).trans (fr a ha)
          obtain ⟨q1, q2⟩ := ab_r2 h
          exact fun a ha => (congrFun q2.symm a).trans (fr a ha)
      · obtain ⟨r54, σ55, e53, h⟩ := ab_2 h
        have fr := fun (a : Nat) (ha : nw_X7_copy a) => (w_X7_found e53 a (by unfold nw_X7_copy at ha; unfold nw_X7_found; omega)).trans (fr a ha)
        obtain ⟨q1, q2⟩ := ab_r2 h
        exact fun a ha => (congrFun q2.symm a).trans (fr a ha)
/-! MoodFareModel.drop -/
def f_X7_drop (n : Nat) (p1 : Int) (σ : am_Mem) : Option (Int × am_Mem) :=
  am_b2 (f_X7_isRow n p1 σ) fun r2 σ3 => if r2 = 0 then (some ((-1000001), σ3)) else (am_b2 (f_X7_isMissing n p1 σ3) fun r6 σ7 => if r6 = 0 then (if (0 : Int) ≤ p1 ∧ p1 < 8 then am_b1 (some (am_up σ7 76 p1 (-1000000))) fun σ10 => am_b2 (f_X7_well n (σ10 77 p1) σ10) fun r13 σ14 => some (r13, σ14) else none) else (am_b2 (f_X7_found n 1 σ7) fun r16 σ17 => some (r16, σ17)))
theorem t_X7_drop {L n d : Nat} {Q : am_Post} {p1 : Int} {σ σr : am_Mem} {rr : Int} (hd : 2 < d) (h : f_X7_drop n p1 σ = some (rr, σr)) (hQ : Q (some (am_i rr)) (rm_h L σr)) : xs_aw d me_X7_drop [am_r 75, am_i p1] (rm_h L σ) Q := by
  obtain ⟨d, rfl⟩ : ∃ k, d = k + 1 := ⟨d - 1, by omega⟩
  have hd : 2 ≤ d := by omega
  unfold f_X7_drop at h
  show xs_AW (xs_aw d) me_X7_drop Q 0 [some (am_r 75), some (am_i p1)] [] (rm_h L σ)
  refine rr_iload_n dX7_drop_0 rfl ?_
  obtain ⟨r2, σ3, e1, h⟩ := ab_2 h
  refine rr_Si (as := [am_i p1]) (rest := []) dX7_drop_1 ml_7_75 (Or.inl rfl) rfl rfl (Nat.le_of_ble_eq_true rfl) ⟨rfl, rfl⟩ (Nat.le_of_ble_eq_true rfl) (fun _ k => t_X7_isRow (by omega) e1 k) ?_
  rcases ab_i h with ⟨c4, h⟩ | ⟨c4, h⟩
  · refine rr_if_ne_p (t := 10) dX7_drop_4 (by decide) c4 ?_
    refine rr_ldc dX7_drop_7 cs_7_79 ?_
    obtain ⟨rfl, rfl⟩ := ab_r2 h
    exact rr_iret dX7_drop_9 rfl hQ
  · refine rr_if_ne_n (t := 10) dX7_drop_4 (by decide) c4 ?_
    refine rr_aload_n dX7_drop_10 rfl ?_
    refine rr_iload_n dX7_drop_11 rfl ?_
    obtain ⟨r6, σ7, e5, h⟩ := ab_2 h
    refine rr_Vi (as := [am_i p1]) (rest := []) dX7_drop_12 ml_7_87 (sh_75 L) ⟨(by decide), by decide, by decide⟩ rfl rfl rfl (Nat.le_of_ble_eq_true rfl) ⟨rfl, rfl⟩ (Nat.le_of_ble_eq_true rfl) (fun _ k => t_X7_isMissing (by omega) e5 k) ?_
    rcases ab_i h with ⟨c8, h⟩ | ⟨c8, h⟩
    · refine rr_if_eq_p (t := 24) dX7_drop_15 (by decide) c8 ?_
      refine rr_aload_n dX7_drop_24 rfl ?_
      refine rr_getr (t := 76) dX7_drop_25 fl_7_7 (sh_75 L) ⟨(by decide), by decide⟩ rfl rfl ?_
      refine rr_iload_n dX7_drop_28 rfl ?_
      refine rr_ldc dX7_drop_29 cs_7_65 ?_
      obtain ⟨g9, h⟩ := ab_g h
      refine rr_iast (nz := 8) dX7_drop_31 (sh_76 L) (by decide) rfl g9 ?_
      obtain ⟨σ10, e11, h⟩ := ab_1 h
      refine ab_m e11 ?_
      refine rr_aload_n dX7_drop_32 rfl ?_
      refine rr_aload_n dX7_drop_33 rfl ?_
      refine rr_getr (t := 77) dX7_drop_34 fl_7_13 (sh_75 L) ⟨(by decide), by decide⟩ rfl rfl ?_
      refine rr_iload_n dX7_drop_37 rfl ?_
      refine rr_iald (nz := 8) dX7_drop_38 (sh_77 L) rfl g9 ?_
      obtain ⟨r13, σ14, e12, h⟩ := ab_2 h
      refine rr_Vi (as := [am_i (σ10 77 p1)]) (rest := []) dX7_drop_39 ml_7_84 (sh_75 L) ⟨(by decide), by decide, by decide⟩ rfl rfl rfl (Nat.le_of_ble_eq_true rfl) ⟨rfl, rfl⟩ (Nat.le_of_ble_eq_true rfl) (fun _ k => t_X7_well (by omega) e12 k) ?_
      obtain ⟨rfl, rfl⟩ := ab_r2 h
      exact rr_iret dX7_drop_42 rfl hQ
    · refine rr_if_eq_n (t := 24) dX7_drop_15 (by decide) c8 ?_
      refine rr_aload_n dX7_drop_18 rfl ?_
      refine rr_iconst dX7_drop_19 (by decide) ?_
      obtain ⟨r16, σ17, e15, h⟩ := ab_2 h
      refine rr_Vi (as := [am_i 1]) (rest := []) dX7_drop_20 ml_7_80 (sh_75 L) ⟨(by decide), by decide, by decide⟩ rfl rfl rfl (Nat.le_of_ble_eq_true rfl) ⟨rfl, rfl⟩ (Nat.le_of_ble_eq_true rfl) (fun _ k => t_X7_found (by omega) e15 k) ?_
      obtain ⟨rfl, rfl⟩ := ab_r2 h
      exact rr_iret dX7_drop_23 rfl hQ
def nw_X7_drop (a : Nat) : Prop := a ≠ 75 ∧ a ≠ 76
theorem w_X7_drop {n : Nat} {p1 : Int} {σ σr : am_Mem} {rr : Int} (h : f_X7_drop n p1 σ = some (rr, σr)) : ∀ a : Nat, nw_X7_drop a → σr a = σ a := by
  unfold f_X7_drop at h
  have fr : ∀ a : Nat, nw_X7_drop a → σ a = σ a := fun _ _ => rfl
  obtain ⟨r2, σ3, e1, h⟩ := ab_2 h
  have fr := fun (a : Nat) (ha : nw_X7_drop a) => (congrFun (u_X7_isRow e1) a).trans (fr a ha)
  rcases ab_i h with ⟨c4, h⟩ | ⟨c4, h⟩
  · obtain ⟨q1, q2⟩ := ab_r2 h
    exact fun a ha => (congrFun q2.symm a).trans (fr a ha)
  · obtain ⟨r6, σ7, e5, h⟩ := ab_2 h
    have fr := fun (a : Nat) (ha : nw_X7_drop a) => (congrFun (u_X7_isMissing e5) a).trans (fr a ha)
    rcases ab_i h with ⟨c8, h⟩ | ⟨c8, h⟩
    · obtain ⟨g9, h⟩ := ab_g h
      obtain ⟨σ10, e11, h⟩ := ab_1 h
      have fr := fun (a : Nat) (ha : nw_X7_drop a) => (ab_fu e11 (show a ≠ 76 by unfold nw_X7_drop at ha; omega)).trans (fr a ha)
      obtain ⟨r13, σ14, e12, h⟩ := ab_2 h
      have fr := fun (a : Nat) (ha : nw_X7_drop a) => (w_X7_well e12 a (by unfold nw_X7_drop at ha; unfold nw_X7_well; omega)).trans (fr a ha)
      obtain ⟨q1, q2⟩ := ab_r2 h
      exact fun a ha => (congrFun q2.symm a).trans (fr a ha)
    · obtain ⟨r16, σ17, e15, h⟩ := ab_2 h
      have fr := fun (a : Nat) (ha : nw_X7_drop a) => (w_X7_found e15 a (by unfold nw_X7_drop at ha; unfold nw_X7_found; omega)).trans (fr a ha)
      obtain ⟨q1, q2⟩ := ab_r2 h
      exact fun a ha => (congrFun q2.symm a).trans (fr a ha)
/-! MoodFareModel.feed -/
def f_X7_feed (n : Nat) (p1 : Int) (σ : am_Mem) : Option (Int × am_Mem) :=
  am_b2 (f_X7_in n p1 0 255 σ) fun r2 σ3 => if r2 = 0 then (some ((-1000001), σ3)) else (if σ3 75 6 = 120 then (some ((-1000003), σ3)) else (if (0 : Int) ≤ σ3 75 6 ∧ σ3 75 6 < 120 then am_b1 (some (am_up σ3 80 (σ3 75 6) p1)) fun σ7 => am_b1 (some (am_up σ7 75 6 (am_w ((σ7 75 6) + 1)))) fun σ9 => some (σ9 75 6, σ9) else none))
theorem t_X7_feed {L n d : Nat} {Q : am_Post} {p1 : Int} {σ σr : am_Mem} {rr : Int} (hd : 1 < d) (h : f_X7_feed n p1 σ = some (rr, σr)) (hQ : Q (some (am_i rr)) (rm_h L σr)) : xs_aw d me_X7_feed [am_r 75, am_i p1] (rm_h L σ) Q := by
  obtain ⟨d, rfl⟩ : ∃ k, d = k + 1 := ⟨d - 1, by omega⟩
  have hd : 1 ≤ d := by omega
  unfold f_X7_feed at h
  show xs_AW (xs_aw d) me_X7_feed Q 0 [some (am_r 75), some (am_i p1)] [] (rm_h L σ)
  refine rr_iload_n dX7_feed_0 rfl ?_
  refine rr_iconst dX7_feed_1 (by decide) ?_
  refine rr_sipush dX7_feed_2 (by decide) ?_
  obtain ⟨r2, σ3, e1, h⟩ := ab_2 h
  refine rr_Si (as := [am_i p1, am_i 0, am_i 255]) (rest := []) dX7_feed_5 ml_7_71 (Or.inl rfl) rfl rfl (Nat.le_of_ble_eq_true rfl) ⟨rfl, rfl⟩ (Nat.le_of_ble_eq_true rfl) (fun _ k => t_X7_in (by omega) e1 k) ?_
  rcases ab_i h with ⟨c4, h⟩ | ⟨c4, h⟩
  · refine rr_if_ne_p (t := 14) dX7_feed_8 (by decide) c4 ?_
    refine rr_ldc dX7_feed_11 cs_7_79 ?_
    obtain ⟨rfl, rfl⟩ := ab_r2 h
    exact rr_iret dX7_feed_13 rfl hQ
  · refine rr_if_ne_n (t := 14) dX7_feed_8 (by decide) c4 ?_
    refine rr_aload_n dX7_feed_14 rfl ?_
    refine rr_geti (kz := 6) dX7_feed_15 fl_7_97 (sh_75 L) ⟨(by decide), by decide⟩ rfl rfl ?_
    refine rr_bipush dX7_feed_18 (by decide) ?_
    rcases ab_i h with ⟨c5, h⟩ | ⟨c5, h⟩
    · refine rr_icmp_ne_p (t := 26) dX7_feed_20 (by decide) c5 ?_
      refine rr_ldc dX7_feed_23 cs_7_100 ?_
      obtain ⟨rfl, rfl⟩ := ab_r2 h
      exact rr_iret dX7_feed_25 rfl hQ
    · refine rr_icmp_ne_n (t := 26) dX7_feed_20 (by decide) c5 ?_
      refine rr_aload_n dX7_feed_26 rfl ?_
      refine rr_getr (t := 80) dX7_feed_27 fl_7_22 (sh_75 L) ⟨(by decide), by decide⟩ rfl rfl ?_
      refine rr_aload_n dX7_feed_30 rfl ?_
      refine rr_geti (kz := 6) dX7_feed_31 fl_7_97 (sh_75 L) ⟨(by decide), by decide⟩ rfl rfl ?_
      refine rr_iload_n dX7_feed_34 rfl ?_
      obtain ⟨g6, h⟩ := ab_g h
      refine rr_iast (nz := 120) dX7_feed_35 (sh_80 L) (by decide) rfl g6 ?_
      obtain ⟨σ7, e8, h⟩ := ab_1 h
      refine ab_m e8 ?_
      refine rr_aload_n dX7_feed_36 rfl ?_
      refine rr_dup dX7_feed_37 rfl ?_
      refine rr_geti (kz := 6) dX7_feed_38 fl_7_97 (sh_75 L) ⟨(by decide), by decide⟩ rfl rfl ?_
      refine rr_iconst dX7_feed_41 (by decide) ?_
      refine rr_iadd dX7_feed_42 ?_
      obtain ⟨σ9, e10, h⟩ := ab_1 h
      refine rr_puti (kz := 6) dX7_feed_43 fl_7_97 (sh_75 L) ⟨(by decide), by decide⟩ ⟨rfl, rfl⟩ rfl (ab_m e10 ?_)
      refine rr_aload_n dX7_feed_46 rfl ?_
      refine rr_geti (kz := 6) dX7_feed_47 fl_7_97 (sh_75 L) ⟨(by decide), by decide⟩ rfl rfl ?_
      obtain ⟨rfl, rfl⟩ := ab_r2 h
      exact rr_iret dX7_feed_50 rfl hQ
def nw_X7_feed (a : Nat) : Prop := a ≠ 75 ∧ a ≠ 80
theorem w_X7_feed {n : Nat} {p1 : Int} {σ σr : am_Mem} {rr : Int} (h : f_X7_feed n p1 σ = some (rr, σr)) : ∀ a : Nat, nw_X7_feed a → σr a = σ a := by
  unfold f_X7_feed at h
  have fr : ∀ a : Nat, nw_X7_feed a → σ a = σ a := fun _ _ => rfl
  obtain ⟨r2, σ3, e1, h⟩ := ab_2 h
  have fr := fun (a : Nat) (ha : nw_X7_feed a) => (congrFun (u_X7_in e1) a).trans (fr a ha)
  rcases ab_i h with ⟨c4, h⟩ | ⟨c4, h⟩
  · obtain ⟨q1, q2⟩ := ab_r2 h
    exact fun a ha => (congrFun q2.symm a).trans (fr a ha)
  · rcases ab_i h with ⟨c5, h⟩ | ⟨c5, h⟩
    · obtain ⟨q1, q2⟩ := ab_r2 h
      exact fun a ha => (congrFun q2.symm a).trans (fr a ha)
    · obtain ⟨g6, h⟩ := ab_g h
      obtain ⟨σ7, e8, h⟩ := ab_1 h
      have fr := fun (a : Nat) (ha : nw_X7_feed a) => (ab_fu e8 (show a ≠ 80 by unfold nw_X7_feed at ha; omega)).trans (fr a ha)
      obtain ⟨σ9, e10, h⟩ := ab_1 h
      have fr := fun (a : Nat) (ha : nw_X7_feed a) => (ab_fu e10 (show a ≠ 75 by unfold nw_X7_feed at ha; omega)).trans (fr a ha)
      obtain ⟨q1, q2⟩ := ab_r2 h
      exact fun a ha => (congrFun q2.symm a).trans (fr a ha)
/-! MoodFareModel.byteAt -/
def f_X7_byteAt (n : Nat) (p1 : Int) (σ : am_Mem) : Option (Int × am_Mem) :=
  if p1 < σ 75 6 then (if (0 : Int) ≤ p1 ∧ p1 < 120 then some (σ 80 p1, σ) else none) else (some ((-1), σ))
theorem t_X7_byteAt {L n d : Nat} {Q : am_Post} {p1 : Int} {σ σr : am_Mem} {rr : Int} (hd : 0 < d) (h : f_X7_byteAt n p1 σ = some (rr, σr)) (hQ : Q (some (am_i rr)) (rm_h L σr)) : xs_aw d me_X7_byteAt [am_r 75, am_i p1] (rm_h L σ) Q := by
  obtain ⟨d, rfl⟩ : ∃ k, d = k + 1 := ⟨d - 1, by omega⟩
  have hd : 0 ≤ d := by omega
  unfold f_X7_byteAt at h
  show xs_AW (xs_aw d) me_X7_byteAt Q 0 [some (am_r 75), some (am_i p1)] [] (rm_h L σ)
  refine rr_iload_n dX7_byteAt_0 rfl ?_
  refine rr_aload_n dX7_byteAt_1 rfl ?_
  refine rr_geti (kz := 6) dX7_byteAt_2 fl_7_97 (sh_75 L) ⟨(by decide), by decide⟩ rfl rfl ?_
  rcases ab_i h with ⟨c1, h⟩ | ⟨c1, h⟩
  · refine rr_icmp_ge_p (t := 17) dX7_byteAt_5 (by decide) c1 ?_
    refine rr_aload_n dX7_byteAt_8 rfl ?_
    refine rr_getr (t := 80) dX7_byteAt_9 fl_7_22 (sh_75 L) ⟨(by decide), by decide⟩ rfl rfl ?_
    refine rr_iload_n dX7_byteAt_12 rfl ?_
    obtain ⟨g2, h⟩ := ab_g h
    refine rr_iald (nz := 120) dX7_byteAt_13 (sh_80 L) rfl g2 ?_
    refine rr_goto (t := 18) dX7_byteAt_14 (by decide) ?_
    obtain ⟨rfl, rfl⟩ := ab_r2 h
    exact rr_iret dX7_byteAt_18 rfl hQ
  · refine rr_icmp_ge_n (t := 17) dX7_byteAt_5 (by decide) c1 ?_
    refine rr_iconst dX7_byteAt_17 (by decide) ?_
    obtain ⟨rfl, rfl⟩ := ab_r2 h
    exact rr_iret dX7_byteAt_18 rfl hQ
theorem u_X7_byteAt {n : Nat} {p1 : Int} {σ σr : am_Mem} {rr : Int} (h : f_X7_byteAt n p1 σ = some (rr, σr)) : σr = σ := by
  unfold f_X7_byteAt at h
  have fr : σ = σ := rfl
  rcases ab_i h with ⟨c1, h⟩ | ⟨c1, h⟩
  · obtain ⟨g2, h⟩ := ab_g h
    obtain ⟨q1, q2⟩ := ab_r2 h
    exact q2.symm.trans fr
  · obtain ⟨q1, q2⟩ := ab_r2 h
    exact q2.symm.trans fr
/-! MoodFareModel.advances -/
def fb_X7_advances_38 (n : Nat) (kh38 : am_Mem → Option am_Mem) (σ : am_Mem) : Option am_Mem :=
  am_b2 (f_X7_byteAt n (σ 75 9) σ) fun r57 σ58 => am_b2 (f_X7_in n r57 48 57 σ58) fun r60 σ61 => if r60 = 0 then (if am_w ((σ61 75 9) - (σ61 75 10)) < 3 then (am_b1 (some (am_up σ61 75 11 2)) fun σ64 => some σ64) else (am_b1 (some (am_up σ61 75 11 5)) fun σ66 => some σ66)) else (if am_w ((σ61 75 9) - (σ61 75 10)) < 2 then (am_b2 (f_X7_byteAt n (σ61 75 9) σ61) fun r70 σ71 => am_b1 (some (am_up σ71 75 12 (am_w ((am_w ((am_w (10 * (σ61 75 12))) + r70)) - 48)))) fun σ72 => am_b1 (some (am_up σ72 75 9 (am_w ((σ72 75 9) + 1)))) fun σ74 => kh38 σ74) else (am_b1 (some (am_up σ61 75 12 (σ61 75 12))) fun σ76 => am_b1 (some (am_up σ76 75 9 (am_w ((σ76 75 9) + 1)))) fun σ78 => kh38 σ78))
def fl_X7_advances_38 (n : Nat) : Nat → am_Mem → Option am_Mem
  | 0, _ => none
  | m + 1, σ => fb_X7_advances_38 n (fun σ => fl_X7_advances_38 n m σ) σ
def f_X7_advances (n : Nat) (σ : am_Mem) : Option am_Mem :=
  am_b1 (some (am_up σ 75 10 (σ 75 9))) fun σ1 => am_b2 (f_X7_byteAt n (σ1 75 9) σ1) fun r4 σ5 => am_b1 (some (am_up σ5 75 12 r4)) fun σ6 => am_b2 (f_X7_in n r4 48 57 σ6) fun r9 σ10 => if r9 = 0 then (if r4 < 0 then (am_b1 (some (am_up σ10 75 11 0)) fun σ13 => if σ13 75 11 = 0 then (am_b1 (some (am_up σ13 75 9 (am_w ((σ13 75 9) + 0)))) fun σ16 => some σ16) else (am_b1 (some (am_up σ13 75 9 (am_w ((σ13 75 9) + 1)))) fun σ18 => some σ18)) else (am_b2 (f_X7_in n r4 97 122 σ10) fun r21 σ22 => if r21 = 0 then (if r4 = 44 then (am_b1 (some (am_up σ22 75 11 3)) fun σ25 => if σ25 75 11 = 0 then (am_b1 (some (am_up σ25 75 9 (am_w ((σ25 75 9) + 0)))) fun σ28 => some σ28) else (am_b1 (some (am_up σ25 75 9 (am_w ((σ25 75 9) + 1)))) fun σ30 => some σ30)) else (if r4 = 59 then (am_b1 (some (am_up σ22 75 11 4)) fun σ33 => if σ33 75 11 = 0 then (am_b1 (some (am_up σ33 75 9 (am_w ((σ33 75 9) + 0)))) fun σ36 => some σ36) else (am_b1 (some (am_up σ33 75 9 (am_w ((σ33 75 9) + 1)))) fun σ38 => some σ38)) else (am_b1 (some (am_up σ22 75 11 5)) fun σ40 => if σ40 75 11 = 0 then (am_b1 (some (am_up σ40 75 9 (am_w ((σ40 75 9) + 0)))) fun σ43 => some σ43) else (am_b1 (some (am_up σ40 75 9 (am_w ((σ40 75 9) + 1)))) fun σ45 => some σ45)))) else (am_b1 (some (am_up σ22 75 11 1)) fun σ47 => if σ47 75 11 = 0 then (am_b1 (some (am_up σ47 75 9 (am_w ((σ47 75 9) + 0)))) fun σ50 => some σ50) else (am_b1 (some (am_up σ47 75 9 (am_w ((σ47 75 9) + 1)))) fun σ52 => some σ52)))) else (am_b1 (some (am_up σ10 75 12 0)) fun σ54 => fl_X7_advances_38 n n σ54)
theorem tb_X7_advances_38 {L n d : Nat} {Q : am_Post} {kh38 : am_Mem → Option am_Mem} {o1 : Int} {σ σr : am_Mem} (hd : 1 ≤ d) (hk38 : ∀ (σ : am_Mem), kh38 σ = some σr → ∀ (o1 : Int), xs_AW (xs_aw d) me_X7_advances Q 38 [some (am_r 75), some (am_i o1)] [] (rm_h L σ)) (hQ : Q none (rm_h L σr)) (h : fb_X7_advances_38 n kh38 σ = some σr) : xs_AW (xs_aw d) me_X7_advances Q 38 [some (am_r 75), some (am_i o1)] [] (rm_h L σ) := by
  unfold fb_X7_advances_38 at h
  refine rr_aload_n dX7_advances_38 rfl ?_
  refine rr_aload_n dX7_advances_39 rfl ?_
  refine rr_geti (kz := 9) dX7_advances_40 fl_7_101 (sh_75 L) ⟨(by decide), by decide⟩ rfl rfl ?_
  obtain ⟨r57, σ58, e56, h⟩ := ab_2 h
  refine rr_Vi (as := [am_i (σ 75 9)]) (rest := []) dX7_advances_43 ml_7_107 (sh_75 L) ⟨(by decide), by decide, by decide⟩ rfl rfl rfl (Nat.le_of_ble_eq_true rfl) ⟨rfl, rfl⟩ (Nat.le_of_ble_eq_true rfl) (fun _ k => t_X7_byteAt (by omega) e56 k) ?_
  refine rr_bipush dX7_advances_46 (by decide) ?_
  refine rr_bipush dX7_advances_48 (by decide) ?_
  obtain ⟨r60, σ61, e59, h⟩ := ab_2 h
  refine rr_Si (as := [am_i r57, am_i 48, am_i 57]) (rest := []) dX7_advances_50 ml_7_71 (Or.inl rfl) rfl rfl (Nat.le_of_ble_eq_true rfl) ⟨rfl, rfl⟩ (Nat.le_of_ble_eq_true rfl) (fun _ k => t_X7_in (by omega) e59 k) ?_
  rcases ab_i h with ⟨c62, h⟩ | ⟨c62, h⟩
  · refine rr_if_eq_p (t := 112) dX7_advances_53 (by decide) c62 ?_
    refine rr_aload_n dX7_advances_112 rfl ?_
    refine rr_aload_n dX7_advances_113 rfl ?_
    refine rr_geti (kz := 9) dX7_advances_114 fl_7_101 (sh_75 L) ⟨(by decide), by decide⟩ rfl rfl ?_
    refine rr_aload_n dX7_advances_117 rfl ?_
    refine rr_geti (kz := 10) dX7_advances_118 fl_7_104 (sh_75 L) ⟨(by decide), by decide⟩ rfl rfl ?_
    refine rr_isub dX7_advances_121 ?_
    refine rr_iconst dX7_advances_122 (by decide) ?_
    rcases ab_i h with ⟨c63, h⟩ | ⟨c63, h⟩
    · refine rr_icmp_ge_p (t := 130) dX7_advances_123 (by decide) c63 ?_
      refine rr_iconst dX7_advances_126 (by decide) ?_
      refine rr_goto (t := 131) dX7_advances_127 (by decide) ?_
      obtain ⟨σ64, e65, h⟩ := ab_1 h
      refine rr_puti (kz := 11) dX7_advances_131 fl_7_113 (sh_75 L) ⟨(by decide), by decide⟩ ⟨rfl, rfl⟩ rfl (ab_m e65 ?_)
      obtain rfl := ab_r1 h
      exact rr_vret dX7_advances_134 rfl hQ
    · refine rr_icmp_ge_n (t := 130) dX7_advances_123 (by decide) c63 ?_
      refine rr_iconst dX7_advances_130 (by decide) ?_
      obtain ⟨σ66, e67, h⟩ := ab_1 h
      refine rr_puti (kz := 11) dX7_advances_131 fl_7_113 (sh_75 L) ⟨(by decide), by decide⟩ ⟨rfl, rfl⟩ rfl (ab_m e67 ?_)
      obtain rfl := ab_r1 h
      exact rr_vret dX7_advances_134 rfl hQ
  · refine rr_if_eq_n (t := 112) dX7_advances_53 (by decide) c62 ?_
    refine rr_aload_n dX7_advances_56 rfl ?_
    refine rr_aload_n dX7_advances_57 rfl ?_
    refine rr_geti (kz := 9) dX7_advances_58 fl_7_101 (sh_75 L) ⟨(by decide), by decide⟩ rfl rfl ?_
    refine rr_aload_n dX7_advances_61 rfl ?_
    refine rr_geti (kz := 10) dX7_advances_62 fl_7_104 (sh_75 L) ⟨(by decide), by decide⟩ rfl rfl ?_
    refine rr_isub dX7_advances_65 ?_
    refine rr_iconst dX7_advances_66 (by decide) ?_
    rcases ab_i h with ⟨c68, h⟩ | ⟨c68, h⟩
    · refine rr_icmp_ge_p (t := 92) dX7_advances_67 (by decide) c68 ?_
      refine rr_bipush dX7_advances_70 (by decide) ?_
      refine rr_aload_n dX7_advances_72 rfl ?_
      refine rr_geti (kz := 12) dX7_advances_73 fl_7_110 (sh_75 L) ⟨(by decide), by decide⟩ rfl rfl ?_
      refine rr_imul dX7_advances_76 ?_
      refine rr_aload_n dX7_advances_77 rfl ?_
      refine rr_aload_n dX7_advances_78 rfl ?_
      refine rr_geti (kz := 9) dX7_advances_79 fl_7_101 (sh_75 L) ⟨(by decide), by decide⟩ rfl rfl ?_
      obtain ⟨r70, σ71, e69, h⟩ := ab_2 h
      refine rr_Vi (as := [am_i (σ61 75 9)]) (rest := [am_i (am_w (10 * (σ61 75 12))), am_r 75]) dX7_advances_82 ml_7_107 (sh_75 L) ⟨(by decide), by decide, by decide⟩ rfl rfl rfl (Nat.le_of_ble_eq_true rfl) ⟨rfl, rfl⟩ (Nat.le_of_ble_eq_true rfl) (fun _ k => t_X7_byteAt (by omega) e69 k) ?_
      refine rr_iadd dX7_advances_85 ?_
      refine rr_bipush dX7_advances_86 (by decide) ?_
      refine rr_isub dX7_advances_88 ?_
      refine rr_goto (t := 96) dX7_advances_89 (by decide) ?_
      obtain ⟨σ72, e73, h⟩ := ab_1 h
      refine rr_puti (kz := 12) dX7_advances_96 fl_7_110 (sh_75 L) ⟨(by decide), by decide⟩ ⟨rfl, rfl⟩ rfl (ab_m e73 ?_)
      refine rr_aload_n dX7_advances_99 rfl ?_
      refine rr_dup dX7_advances_100 rfl ?_
      refine rr_geti (kz := 9) dX7_advances_101 fl_7_101 (sh_75 L) ⟨(by decide), by decide⟩ rfl rfl ?_
      refine rr_iconst dX7_advances_104 (by decide) ?_
      refine rr_iadd dX7_advances_105 ?_
      obtain ⟨σ74, e75, h⟩ := ab_1 h
      refine rr_puti (kz := 9) dX7_advances_106 fl_7_101 (sh_75 L) ⟨(by decide), by decide⟩ ⟨rfl, rfl⟩ rfl (ab_m e75 ?_)
      refine rr_goto (t := 38) dX7_advances_109 (by decide) ?_
      exact hk38 _ h _
    · refine rr_icmp_ge_n (t := 92) dX7_advances_67 (by decide) c68 ?_
      refine rr_aload_n dX7_advances_92 rfl ?_
      refine rr_geti (kz := 12) dX7_advances_93 fl_7_110 (sh_75 L) ⟨(by decide), by decide⟩ rfl rfl ?_
      obtain ⟨σ76, e77, h⟩ := ab_1 h
      refine rr_puti (kz := 12) dX7_advances_96 fl_7_110 (sh_75 L) ⟨(by decide), by decide⟩ ⟨rfl, rfl⟩ rfl (ab_m e77 ?_)
      refine rr_aload_n dX7_advances_99 rfl ?_
      refine rr_dup dX7_advances_100 rfl ?_
      refine rr_geti (kz := 9) dX7_advances_101 fl_7_101 (sh_75 L) ⟨(by decide), by decide⟩ rfl rfl ?_
      refine rr_iconst dX7_advances_104 (by decide) ?_
      refine rr_iadd dX7_advances_105 ?_
      obtain ⟨σ78, e79, h⟩ := ab_1 h
      refine rr_puti (kz := 9) dX7_advances_106 fl_7_101 (sh_75 L) ⟨(by decide), by decide⟩ ⟨rfl, rfl⟩ rfl (ab_m e79 ?_)
      refine rr_goto (t := 38) dX7_advances_109 (by decide) ?_
      exact hk38 _ h _
theorem tl_X7_advances_38 {L n d : Nat} {Q : am_Post} {σr : am_Mem} (hd : 1 ≤ d) (hQ : Q none (rm_h L σr)) : ∀ (m : Nat) (σ : am_Mem) (o1 : Int), fl_X7_advances_38 n m σ = some σr → xs_AW (xs_aw d) me_X7_advances Q 38 [some (am_r 75), some (am_i o1)] [] (rm_h L σ) := by
  intro m
  induction m with
  | zero => intro σ o1 h; cases h
  | succ m ih =>
    intro σ o1 h
    exact tb_X7_advances_38 hd (fun σ h o1 => ih σ o1 h) hQ h
theorem t_X7_advances {L n d : Nat} {Q : am_Post} {σ σr : am_Mem} (hd : 1 < d) (h : f_X7_advances n σ = some σr) (hQ : Q none (rm_h L σr)) : xs_aw d me_X7_advances [am_r 75] (rm_h L σ) Q := by
  obtain ⟨d, rfl⟩ : ∃ k, d = k + 1 := ⟨d - 1, by omega⟩
  have hd : 1 ≤ d := by omega
  unfold f_X7_advances at h
  show xs_AW (xs_aw d) me_X7_advances Q 0 [some (am_r 75), none] [] (rm_h L σ)
  refine rr_aload_n dX7_advances_0 rfl ?_
  refine rr_aload_n dX7_advances_1 rfl ?_
  refine rr_geti (kz := 9) dX7_advances_2 fl_7_101 (sh_75 L) ⟨(by decide), by decide⟩ rfl rfl ?_
  obtain ⟨σ1, e2, h⟩ := ab_1 h
  refine rr_puti (kz := 10) dX7_advances_5 fl_7_104 (sh_75 L) ⟨(by decide), by decide⟩ ⟨rfl, rfl⟩ rfl (ab_m e2 ?_)
  refine rr_aload_n dX7_advances_8 rfl ?_
  refine rr_aload_n dX7_advances_9 rfl ?_
  refine rr_geti (kz := 9) dX7_advances_10 fl_7_101 (sh_75 L) ⟨(by decide), by decide⟩ rfl rfl ?_
  obtain ⟨r4, σ5, e3, h⟩ := ab_2 h
  refine rr_Vi (as := [am_i (σ1 75 9)]) (rest := []) dX7_advances_13 ml_7_107 (sh_75 L) ⟨(by decide), by decide, by decide⟩ rfl rfl rfl (Nat.le_of_ble_eq_true rfl) ⟨rfl, rfl⟩ (Nat.le_of_ble_eq_true rfl) (fun _ k => t_X7_byteAt (by omega) e3 k) ?_
  refine rr_istore_n (ls' := [some (am_r 75), some (am_i r4)]) dX7_advances_16 (Nat.le_of_ble_eq_true rfl) rfl ?_
  refine rr_aload_n dX7_advances_17 rfl ?_
  refine rr_iload_n dX7_advances_18 rfl ?_
  obtain ⟨σ6, e7, h⟩ := ab_1 h
  refine rr_puti (kz := 12) dX7_advances_19 fl_7_110 (sh_75 L) ⟨(by decide), by decide⟩ ⟨rfl, rfl⟩ rfl (ab_m e7 ?_)
  refine rr_iload_n dX7_advances_22 rfl ?_
  refine rr_bipush dX7_advances_23 (by decide) ?_
  refine rr_bipush dX7_advances_25 (by decide) ?_
  obtain ⟨r9, σ10, e8, h⟩ := ab_2 h
  refine rr_Si (as := [am_i r4, am_i 48, am_i 57]) (rest := []) dX7_advances_27 ml_7_71 (Or.inl rfl) rfl rfl (Nat.le_of_ble_eq_true rfl) ⟨rfl, rfl⟩ (Nat.le_of_ble_eq_true rfl) (fun _ k => t_X7_in (by omega) e8 k) ?_
  rcases ab_i h with ⟨c11, h⟩ | ⟨c11, h⟩
  · refine rr_if_eq_p (t := 135) dX7_advances_30 (by decide) c11 ?_
    refine rr_aload_n dX7_advances_135 rfl ?_
    refine rr_iload_n dX7_advances_136 rfl ?_
    rcases ab_i h with ⟨c12, h⟩ | ⟨c12, h⟩
    · refine rr_if_ge_p (t := 144) dX7_advances_137 (by decide) c12 ?_
      refine rr_iconst dX7_advances_140 (by decide) ?_
      refine rr_goto (t := 180) dX7_advances_141 (by decide) ?_
      obtain ⟨σ13, e14, h⟩ := ab_1 h
      refine rr_puti (kz := 11) dX7_advances_180 fl_7_113 (sh_75 L) ⟨(by decide), by decide⟩ ⟨rfl, rfl⟩ rfl (ab_m e14 ?_)
      refine rr_aload_n dX7_advances_183 rfl ?_
      refine rr_dup dX7_advances_184 rfl ?_
      refine rr_geti (kz := 9) dX7_advances_185 fl_7_101 (sh_75 L) ⟨(by decide), by decide⟩ rfl rfl ?_
      refine rr_aload_n dX7_advances_188 rfl ?_
      refine rr_geti (kz := 11) dX7_advances_189 fl_7_113 (sh_75 L) ⟨(by decide), by decide⟩ rfl rfl ?_
      rcases ab_i h with ⟨c15, h⟩ | ⟨c15, h⟩
      · refine rr_if_ne_p (t := 199) dX7_advances_192 (by decide) c15 ?_
        refine rr_iconst dX7_advances_195 (by decide) ?_
        refine rr_goto (t := 200) dX7_advances_196 (by decide) ?_
        refine rr_iadd dX7_advances_200 ?_
        obtain ⟨σ16, e17, h⟩ := ab_1 h
        refine rr_puti (kz := 9) dX7_advances_201 fl_7_101 (sh_75 L) ⟨(by decide), by decide⟩ ⟨rfl, rfl⟩ rfl (ab_m e17 ?_)
        obtain rfl := ab_r1 h
        exact rr_vret dX7_advances_204 rfl hQ
      · refine rr_if_ne_n (t := 199) dX7_advances_192 (by decide) c15 ?_
        refine rr_iconst dX7_advances_199 (by decide) ?_
        refine rr_iadd dX7_advances_200 ?_
        obtain ⟨σ18, e19, h⟩ := ab_1 h
        refine rr_puti (kz := 9) dX7_advances_201 fl_7_101 (sh_75 L) ⟨(by decide), by decide⟩ ⟨rfl, rfl⟩ rfl (ab_m e19 ?_)
        obtain rfl := ab_r1 h
        exact rr_vret dX7_advances_204 rfl hQ
    · refine rr_if_ge_n (t := 144) dX7_advances_137 (by decide) c12 ?_
      refine rr_iload_n dX7_advances_144 rfl ?_
      refine rr_bipush dX7_advances_145 (by decide) ?_
      refine rr_bipush dX7_advances_147 (by decide) ?_
      obtain ⟨r21, σ22, e20, h⟩ := ab_2 h
      refine rr_Si (as := [am_i r4, am_i 97, am_i 122]) (rest := [am_r 75]) dX7_advances_149 ml_7_71 (Or.inl rfl) rfl rfl (Nat.le_of_ble_eq_true rfl) ⟨rfl, rfl⟩ (Nat.le_of_ble_eq_true rfl) (fun _ k => t_X7_in (by omega) e20 k) ?_
      rcases ab_i h with ⟨c23, h⟩ | ⟨c23, h⟩
      · refine rr_if_eq_p (t := 159) dX7_advances_152 (by decide) c23 ?_
        refine rr_iload_n dX7_advances_159 rfl ?_
        refine rr_bipush dX7_advances_160 (by decide) ?_
        rcases ab_i h with ⟨c24, h⟩ | ⟨c24, h⟩
        · refine rr_icmp_ne_p (t := 169) dX7_advances_162 (by decide) c24 ?_
          refine rr_iconst dX7_advances_165 (by decide) ?_
          refine rr_goto (t := 180) dX7_advances_166 (by decide) ?_
          obtain ⟨σ25, e26, h⟩ := ab_1 h
          refine rr_puti (kz := 11) dX7_advances_180 fl_7_113 (sh_75 L) ⟨(by decide), by decide⟩ ⟨rfl, rfl⟩ rfl (ab_m e26 ?_)
          refine rr_aload_n dX7_advances_183 rfl ?_
          refine rr_dup dX7_advances_184 rfl ?_
          refine rr_geti (kz := 9) dX7_advances_185 fl_7_101 (sh_75 L) ⟨(by decide), by decide⟩ rfl rfl ?_
          refine rr_aload_n dX7_advances_188 rfl ?_
          refine rr_geti (kz := 11) dX7_advances_189 fl_7_113 (sh_75 L) ⟨(by decide), by decide⟩ rfl rfl ?_
          rcases ab_i h with ⟨c27, h⟩ | ⟨c27, h⟩
          · refine rr_if_ne_p (t := 199) dX7_advances_192 (by decide) c27 ?_
            refine rr_iconst dX7_advances_195 (by decide) ?_
            refine rr_goto (t := 200) dX7_advances_196 (by decide) ?_
            refine rr_iadd dX7_advances_200 ?_
            obtain ⟨σ28, e29, h⟩ := ab_1 h
            refine rr_puti (kz := 9) dX7_advances_201 fl_7_101 (sh_75 L) ⟨(by decide), by decide⟩ ⟨rfl, rfl⟩ rfl (ab_m e29 ?_)
            obtain rfl := ab_r1 h
            exact rr_vret dX7_advances_204 rfl hQ
          · refine rr_if_ne_n (t := 199) dX7_advances_192 (by decide) c27 ?_
            refine rr_iconst dX7_advances_199 (by decide) ?_
            refine rr_iadd dX7_advances_200 ?_
            obtain ⟨σ30, e31, h⟩ := ab_1 h
            refine rr_puti (kz := 9) dX7_advances_201 fl_7_101 (sh_75 L) ⟨(by decide), by decide⟩ ⟨rfl, rfl⟩ rfl (ab_m e31 ?_)
            obtain rfl := ab_r1 h
            exact rr_vret dX7_advances_204 rfl hQ
        · refine rr_icmp_ne_n (t := 169) dX7_advances_162 (by decide) c24 ?_
          refine rr_iload_n dX7_advances_169 rfl ?_
          refine rr_bipush dX7_advances_170 (by decide) ?_
          rcases ab_i h with ⟨c32, h⟩ | ⟨c32, h⟩
          · refine rr_icmp_ne_p (t := 179) dX7_advances_172 (by decide) c32 ?_
            refine rr_iconst dX7_advances_175 (by decide) ?_
            refine rr_goto (t := 180) dX7_advances_176 (by decide) ?_
            obtain ⟨σ33, e34, h⟩ := ab_1 h
            refine rr_puti (kz := 11) dX7_advances_180 fl_7_113 (sh_75 L) ⟨(by decide), by decide⟩ ⟨rfl, rfl⟩ rfl (ab_m e34 ?_)
            refine rr_aload_n dX7_advances_183 rfl ?_
            refine rr_dup dX7_advances_184 rfl ?_
            refine rr_geti (kz := 9) dX7_advances_185 fl_7_101 (sh_75 L) ⟨(by decide), by decide⟩ rfl rfl ?_
            refine rr_aload_n dX7_advances_188 rfl ?_
            refine rr_geti (kz := 11) dX7_advances_189 fl_7_113 (sh_75 L) ⟨(by decide), by decide⟩ rfl rfl ?_
            rcases ab_i h with ⟨c35, h⟩ | ⟨c35, h⟩
            · refine rr_if_ne_p (t := 199) dX7_advances_192 (by decide) c35 ?_
              refine rr_iconst dX7_advances_195 (by decide) ?_
              refine rr_goto (t := 200) dX7_advances_196 (by decide) ?_
              refine rr_iadd dX7_advances_200 ?_
              obtain ⟨σ36, e37, h⟩ := ab_1 h
              refine rr_puti (kz := 9) dX7_advances_201 fl_7_101 (sh_75 L) ⟨(by decide), by decide⟩ ⟨rfl, rfl⟩ rfl (ab_m e37 ?_)
              obtain rfl := ab_r1 h
              exact rr_vret dX7_advances_204 rfl hQ
            · refine rr_if_ne_n (t := 199) dX7_advances_192 (by decide) c35 ?_
              refine rr_iconst dX7_advances_199 (by decide) ?_
              refine rr_iadd dX7_advances_200 ?_
              obtain ⟨σ38, e39, h⟩ := ab_1 h
              refine rr_puti (kz := 9) dX7_advances_201 fl_7_101 (sh_75 L) ⟨(by decide), by decide⟩ ⟨rfl, rfl⟩ rfl (ab_m e39 ?_)
              obtain rfl := ab_r1 h
              exact rr_vret dX7_advances_204 rfl hQ
          · refine rr_icmp_ne_n (t := 179) dX7_advances_172 (by decide) c32 ?_
            refine rr_iconst dX7_advances_179 (by decide) ?_
            obtain ⟨σ40, e41, h⟩ := ab_1 h
            refine rr_puti (kz := 11) dX7_advances_180 fl_7_113 (sh_75 L) ⟨(by decide), by decide⟩ ⟨rfl, rfl⟩ rfl (ab_m e41 ?_)
            refine rr_aload_n dX7_advances_183 rfl ?_
            refine rr_dup dX7_advances_184 rfl ?_
            refine rr_geti (kz := 9) dX7_advances_185 fl_7_101 (sh_75 L) ⟨(by decide), by decide⟩ rfl rfl ?_
            refine rr_aload_n dX7_advances_188 rfl ?_
            refine rr_geti (kz := 11) dX7_advances_189 fl_7_113 (sh_75 L) ⟨(by decide), by decide⟩ rfl rfl ?_
            rcases ab_i h with ⟨c42, h⟩ | ⟨c42, h⟩
            · refine rr_if_ne_p (t := 199) dX7_advances_192 (by decide) c42 ?_
              refine rr_iconst dX7_advances_195 (by decide) ?_
              refine rr_goto (t := 200) dX7_advances_196 (by decide) ?_
              refine rr_iadd dX7_advances_200 ?_
              obtain ⟨σ43, e44, h⟩ := ab_1 h
              refine rr_puti (kz := 9) dX7_advances_201 fl_7_101 (sh_75 L) ⟨(by decide), by decide⟩ ⟨rfl, rfl⟩ rfl (ab_m e44 ?_)
              obtain rfl := ab_r1 h
              exact rr_vret dX7_advances_204 rfl hQ
            · refine rr_if_ne_n (t := 199) dX7_advances_192 (by decide) c42 ?_
              refine rr_iconst dX7_advances_199 (by decide) ?_
              refine rr_iadd dX7_advances_200 ?_
              obtain ⟨σ45, e46, h⟩ := ab_1 h
              refine rr_puti (kz := 9) dX7_advances_201 fl_7_101 (sh_75 L) ⟨(by decide), by decide⟩ ⟨rfl, rfl⟩ rfl (ab_m e46 ?_)
              obtain rfl := ab_r1 h
              exact rr_vret dX7_advances_204 rfl hQ
      · refine rr_if_eq_n (t := 159) dX7_advances_152 (by decide) c23 ?_
        refine rr_iconst dX7_advances_155 (by decide) ?_
        refine rr_goto (t := 180) dX7_advances_156 (by decide) ?_
        obtain ⟨σ47, e48, h⟩ := ab_1 h
        refine rr_puti (kz := 11) dX7_advances_180 fl_7_113 (sh_75 L) ⟨(by decide), by decide⟩ ⟨rfl, rfl⟩ rfl (ab_m e48 ?_)
        refine rr_aload_n dX7_advances_183 rfl ?_
        refine rr_dup dX7_advances_184 rfl ?_
        refine rr_geti (kz := 9) dX7_advances_185 fl_7_101 (sh_75 L) ⟨(by decide), by decide⟩ rfl rfl ?_
        refine rr_aload_n dX7_advances_188 rfl ?_
        refine rr_geti (kz := 11) dX7_advances_189 fl_7_113 (sh_75 L) ⟨(by decide), by decide⟩ rfl rfl ?_
        rcases ab_i h with ⟨c49, h⟩ | ⟨c49, h⟩
        · refine rr_if_ne_p (t := 199) dX7_advances_192 (by decide) c49 ?_
          refine rr_iconst dX7_advances_195 (by decide) ?_
          refine rr_goto (t := 200) dX7_advances_196 (by decide) ?_
          refine rr_iadd dX7_advances_200 ?_
          obtain ⟨σ50, e51, h⟩ := ab_1 h
          refine rr_puti (kz := 9) dX7_advances_201 fl_7_101 (sh_75 L) ⟨(by decide), by decide⟩ ⟨rfl, rfl⟩ rfl (ab_m e51 ?_)
          obtain rfl := ab_r1 h
          exact rr_vret dX7_advances_204 rfl hQ
        · refine rr_if_ne_n (t := 199) dX7_advances_192 (by decide) c49 ?_
          refine rr_iconst dX7_advances_199 (by decide) ?_
          refine rr_iadd dX7_advances_200 ?_
          obtain ⟨σ52, e53, h⟩ := ab_1 h
          refine rr_puti (kz := 9) dX7_advances_201 fl_7_101 (sh_75 L) ⟨(by decide), by decide⟩ ⟨rfl, rfl⟩ rfl (ab_m e53 ?_)
          obtain rfl := ab_r1 h
          exact rr_vret dX7_advances_204 rfl hQ
  · refine rr_if_eq_n (t := 135) dX7_advances_30 (by decide) c11 ?_
    refine rr_aload_n dX7_advances_33 rfl ?_
    refine rr_iconst dX7_advances_34 (by decide) ?_
    obtain ⟨σ54, e55, h⟩ := ab_1 h
    refine rr_puti (kz := 12) dX7_advances_35 fl_7_110 (sh_75 L) ⟨(by decide), by decide⟩ ⟨rfl, rfl⟩ rfl (ab_m e55 ?_)
    exact tl_X7_advances_38 hd hQ n _ _ h
def nw_X7_advances (a : Nat) : Prop := a ≠ 75
theorem wb_X7_advances_38 {n : Nat} {kh38 : am_Mem → Option am_Mem} {σ σr : am_Mem} (hk38 : ∀ (σ : am_Mem), kh38 σ = some σr → ∀ a : Nat, nw_X7_advances a → σr a = σ a) (h : fb_X7_advances_38 n kh38 σ = some σr) : ∀ a : Nat, nw_X7_advances a → σr a = σ a := by
  unfold fb_X7_advances_38 at h
  have fr : ∀ a : Nat, nw_X7_advances a → σ a = σ a := fun _ _ => rfl
  obtain ⟨r57, σ58, e56, h⟩ := ab_2 h
  have fr := fun (a : Nat) (ha : nw_X7_advances a) => (congrFun (u_X7_byteAt e56) a).trans (fr a ha)
  obtain ⟨r60, σ61, e59, h⟩ := ab_2 h
  have fr := fun (a : Nat) (ha : nw_X7_advances a) => (congrFun (u_X7_in e59) a).trans (fr a ha)
  rcases ab_i h with ⟨c62, h⟩ | ⟨c62, h⟩
  · rcases ab_i h with ⟨c63, h⟩ | ⟨c63, h⟩
    · obtain ⟨σ64, e65, h⟩ := ab_1 h
      have fr := fun (a : Nat) (ha : nw_X7_advances a) => (ab_fu e65 (show a ≠ 75 by unfold nw_X7_advances at ha; omega)).trans (fr a ha)
      have q2 := ab_r1 h
      exact fun a ha => (congrFun q2.symm a).trans (fr a ha)
    · obtain ⟨σ66, e67, h⟩ := ab_1 h
      have fr := fun (a : Nat) (ha : nw_X7_advances a) => (ab_fu e67 (show a ≠ 75 by unfold nw_X7_advances at ha; omega)).trans (fr a ha)
      have q2 := ab_r1 h
      exact fun a ha => (congrFun q2.symm a).trans (fr a ha)
  · rcases ab_i h with ⟨c68, h⟩ | ⟨c68, h⟩
    · obtain ⟨r70, σ71, e69, h⟩ := ab_2 h
      have fr := fun (a : Nat) (ha : nw_X7_advances a) => (congrFun (u_X7_byteAt e69) a).trans (fr a ha)
      obtain ⟨σ72, e73, h⟩ := ab_1 h
      have fr := fun (a : Nat) (ha : nw_X7_advances a) => (ab_fu e73 (show a ≠ 75 by unfold nw_X7_advances at ha; omega)).trans (fr a ha)
      obtain ⟨σ74, e75, h⟩ := ab_1 h
      have fr := fun (a : Nat) (ha : nw_X7_advances a) => (ab_fu e75 (show a ≠ 75 by unfold nw_X7_advances at ha; omega)).trans (fr a ha)
      exact fun a ha => (hk38 _ h a ha).trans (fr a ha)
    · obtain ⟨σ76, e77, h⟩ := ab_1 h
      have fr := fun (a : Nat) (ha : nw_X7_advances a) => (ab_fu e77 (show a ≠ 75 by unfold nw_X7_advances at ha; omega)).trans (fr a ha)
      obtain ⟨σ78, e79, h⟩ := ab_1 h
      have fr := fun (a : Nat) (ha : nw_X7_advances a) => (ab_fu e79 (show a ≠ 75 by unfold nw_X7_advances at ha; omega)).trans (fr a ha)
      exact fun a ha => (hk38 _ h a ha).trans (fr a ha)
theorem wl_X7_advances_38 {n : Nat} {σr : am_Mem} : ∀ (m : Nat) (σ : am_Mem), fl_X7_advances_38 n m σ = some σr → ∀ a : Nat, nw_X7_advances a → σr a = σ a := by
  intro m
  induction m with
  | zero => intro σ h; cases h
  | succ m ih =>
    intro σ h
    exact wb_X7_advances_38 (fun σ h => ih σ h) h
theorem w_X7_advances {n : Nat} {σ σr : am_Mem} (h : f_X7_advances n σ = some σr) : ∀ a : Nat, nw_X7_advances a → σr a = σ a := by
  unfold f_X7_advances at h
  have fr : ∀ a : Nat, nw_X7_advances a → σ a = σ a := fun _ _ => rfl
  obtain ⟨σ1, e2, h⟩ := ab_1 h
  have fr := fun (a : Nat) (ha : nw_X7_advances a) => (ab_fu e2 (show a ≠ 75 by unfold nw_X7_advances at ha; omega)).trans (fr a ha)
  obtain ⟨r4, σ5, e3, h⟩ := ab_2 h
  have fr := fun (a : Nat) (ha : nw_X7_advances a) => (congrFun (u_X7_byteAt e3) a).trans (fr a ha)
  obtain ⟨σ6, e7, h⟩ := ab_1 h
  have fr := fun (a : Nat) (ha : nw_X7_advances a) => (ab_fu e7 (show a ≠ 75 by unfold nw_X7_advances at ha; omega)).trans (fr a ha)
  obtain ⟨r9, σ10, e8, h⟩ := ab_2 h
  have fr := fun (a : Nat) (ha : nw_X7_advances a) => (congrFun (u_X7_in e8) a).trans (fr a ha)
  rcases ab_i h with ⟨c11, h⟩ | ⟨c11, h⟩
  · rcases ab_i h with ⟨c12, h⟩ | ⟨c12, h⟩
    · obtain ⟨σ13, e14, h⟩ := ab_1 h
      have fr := fun (a : Nat) (ha : nw_X7_advances a) => (ab_fu e14 (show a ≠ 75 by unfold nw_X7_advances at ha; omega)).trans (fr a ha)
      rcases ab_i h with ⟨c15, h⟩ | ⟨c15, h⟩
      · obtain ⟨σ16, e17, h⟩ := ab_1 h
        have fr := fun (a : Nat) (ha : nw_X7_advances a) => (ab_fu e17 (show a ≠ 75 by unfold nw_X7_advances at ha; omega)).trans (fr a ha)
        have q2 := ab_r1 h
        exact fun a ha => (congrFun q2.symm a).trans (fr a ha)
      · obtain ⟨σ18, e19, h⟩ := ab_1 h
        have fr := fun (a : Nat) (ha : nw_X7_advances a) => (ab_fu e19 (show a ≠ 75 by unfold nw_X7_advances at ha; omega)).trans (fr a ha)
        have q2 := ab_r1 h
        exact fun a ha => (congrFun q2.symm a).trans (fr a ha)
    · obtain ⟨r21, σ22, e20, h⟩ := ab_2 h
      have fr := fun (a : Nat) (ha : nw_X7_advances a) => (congrFun (u_X7_in e20) a).trans (fr a ha)
      rcases ab_i h with ⟨c23, h⟩ | ⟨c23, h⟩
      · rcases ab_i h with ⟨c24, h⟩ | ⟨c24, h⟩
        · obtain ⟨σ25, e26, h⟩ := ab_1 h
          have fr := fun (a : Nat) (ha : nw_X7_advances a) => (ab_fu e26 (show a ≠ 75 by unfold nw_X7_advances at ha; omega)).trans (fr a ha)
          rcases ab_i h with ⟨c27, h⟩ | ⟨c27, h⟩
          · obtain ⟨σ28, e29, h⟩ := ab_1 h
            have fr := fun (a : Nat) (ha : nw_X7_advances a) => (ab_fu e29 (show a ≠ 75 by unfold nw_X7_advances at ha; omega)).trans (fr a ha)
            have q2 := ab_r1 h
            exact fun a ha => (congrFun q2.symm a).trans (fr a ha)
          · obtain ⟨σ30, e31, h⟩ := ab_1 h
            have fr := fun (a : Nat) (ha : nw_X7_advances a) => (ab_fu e31 (show a ≠ 75 by unfold nw_X7_advances at ha; omega)).trans (fr a ha)
            have q2 := ab_r1 h
            exact fun a ha => (congrFun q2.symm a).trans (fr a ha)
        · rcases ab_i h with ⟨c32, h⟩ | ⟨c32, h⟩
          · obtain ⟨σ33, e34, h⟩ := ab_1 h
            have fr := fun (a : Nat) (ha : nw_X7_advances a) => (ab_fu e34 (show a ≠ 75 by unfold nw_X7_advances at ha; omega)).trans (fr a ha)
            rcases ab_i h with ⟨c35, h⟩ | ⟨c35, h⟩
            · obtain ⟨σ36, e37, h⟩ := ab_1 h
              have fr := fun (a : Nat) (ha : nw_X7_advances a) => (ab_fu e37 (show a ≠ 75 by unfold nw_X7_advances at ha; omega)).trans (fr a ha)
              have q2 := ab_r1 h
              exact fun a ha => (congrFun q2.symm a).trans (fr a ha)
            · obtain ⟨σ38, e39, h⟩ := ab_1 h
              have fr := fun (a : Nat) (ha : nw_X7_advances a) => (ab_fu e39 (show a ≠ 75 by unfold nw_X7_advances at ha; omega)).trans (fr a ha)
              have q2 := ab_r1 h
              exact fun a ha => (congrFun q2.symm a).trans (fr a ha)
          · obtain ⟨σ40, e41, h⟩ := ab_1 h
            have fr := fun (a : Nat) (ha : nw_X7_advances a) => (ab_fu e41 (show a ≠ 75 by unfold nw_X7_advances at ha; omega)).trans (fr a ha)
            rcases ab_i h with ⟨c42, h⟩ | ⟨c42, h⟩
            · obtain ⟨σ43, e44, h⟩ := ab_1 h
              have fr := fun (a : Nat) (ha : nw_X7_advances a) => (ab_fu e44 (show a ≠ 75 by unfold nw_X7_advances at ha; omega)).trans (fr a ha)
              have q2 := ab_r1 h
              exact fun a ha => (congrFun q2.symm a).trans (fr a ha)
            · obtain ⟨σ45, e46, h⟩ := ab_1 h
              have fr := fun (a : Nat) (ha : nw_X7_advances a) => (ab_fu e46 (show a ≠ 75 by unfold nw_X7_advances at ha; omega)).trans (fr a ha)
              have q2 := ab_r1 h
              exact fun a ha => (congrFun q2.symm a).trans (fr a ha)
      · obtain ⟨σ47, e48, h⟩ := ab_1 h
        have fr := fun (a : Nat) (ha : nw_X7_advances a) => (ab_fu e48 (show a ≠ 75 by unfold nw_X7_advances at ha; omega)).trans (fr a ha)
        rcases ab_i h with ⟨c49, h⟩ | ⟨c49, h⟩
        · obtain ⟨σ50, e51, h⟩ := ab_1 h
          have fr := fun (a : Nat) (ha : nw_X7_advances a) => (ab_fu e51 (show a ≠ 75 by unfold nw_X7_advances at ha; omega)).trans (fr a ha)
          have q2 := ab_r1 h
          exact fun a ha => (congrFun q2.symm a).trans (fr a ha)
        · obtain ⟨σ52, e53, h⟩ := ab_1 h
          have fr := fun (a : Nat) (ha : nw_X7_advances a) => (ab_fu e53 (show a ≠ 75 by unfold nw_X7_advances at ha; omega)).trans (fr a ha)
          have q2 := ab_r1 h
          exact fun a ha => (congrFun q2.symm a).trans (fr a ha)
  · obtain ⟨σ54, e55, h⟩ := ab_1 h
    have fr := fun (a : Nat) (ha : nw_X7_advances a) => (ab_fu e55 (show a ≠ 75 by unfold nw_X7_advances at ha; omega)).trans (fr a ha)
    exact fun a ha => (wl_X7_advances_38 n _ h a ha).trans (fr a ha)
/-! MoodFareModel.copies -/
def fb_X7_copies_3 (n : Nat) (p0 : Nat) (p0_n : Nat) (p2 : Nat) (p2_n : Nat) (kh3 : Int → Int → Int → am_Mem → Option am_Mem) (x1 : Int) (x3 : Int) (x4 : Int) (σ : am_Mem) : Option am_Mem :=
  if x4 < 42 then (if (0 : Int) ≤ am_w (x1 + x4) ∧ am_w (x1 + x4) < (p0_n : Int) then if (0 : Int) ≤ am_w (x3 + x4) ∧ am_w (x3 + x4) < (p2_n : Int) then am_b1 (some (am_up σ p2 (am_w (x3 + x4)) (σ p0 (am_w (x1 + x4))))) fun σ4 => kh3 x1 x3 (am_w (x4 + 1)) σ4 else none else none) else (some σ)
def fl_X7_copies_3 (n : Nat) (p0 : Nat) (p0_n : Nat) (p2 : Nat) (p2_n : Nat) : Nat → Int → Int → Int → am_Mem → Option am_Mem
  | 0, _, _, _, _ => none
  | m + 1, x1, x3, x4, σ => fb_X7_copies_3 n p0 p0_n p2 p2_n (fun yx1 yx3 yx4 σ => fl_X7_copies_3 n p0 p0_n p2 p2_n m yx1 yx3 yx4 σ) x1 x3 x4 σ
def f_X7_copies (n : Nat) (p0 : Nat) (p0_n : Nat) (p2 : Nat) (p2_n : Nat) (p1 : Int) (p3 : Int) (σ : am_Mem) : Option am_Mem :=
  fl_X7_copies_3 n p0 p0_n p2 p2_n n p1 p3 0 σ
theorem tb_X7_copies_3 {L n d : Nat} {Q : am_Post} {p0 : Nat} {p0_n : Nat} {p2 : Nat} {p2_n : Nat} {kh3 : Int → Int → Int → am_Mem → Option am_Mem} {x1 : Int} {x3 : Int} {x4 : Int} {σ σr : am_Mem} (hd : 0 ≤ d) (hs_p0 : (xr_Sh L)[p0]? = some (100, p0_n, [])) (h3_p0 : 3 ≤ p0) (hs_p2 : (xr_Sh L)[p2]? = some (100, p2_n, [])) (h3_p2 : 3 ≤ p2) (hk3 : ∀ (y1 : Int) (y3 : Int) (y4 : Int) (σ : am_Mem), kh3 y1 y3 y4 σ = some σr → xs_AW (xs_aw d) me_X7_copies Q 3 [some (am_r p0), some (am_i y1), some (am_r p2), some (am_i y3), some (am_i y4)] [] (rm_h L σ)) (hQ : Q none (rm_h L σr)) (h : fb_X7_copies_3 n p0 p0_n p2 p2_n kh3 x1 x3 x4 σ = some σr) : xs_AW (xs_aw d) me_X7_copies Q 3 [some (am_r p0), some (am_i x1), some (am_r p2), some (am_i x3), some (am_i x4)] [] (rm_h L σ) := by
  unfold fb_X7_copies_3 at h
  refine rr_iload dX7_copies_3 rfl ?_
  refine rr_bipush dX7_copies_5 (by decide) ?_
  rcases ab_i h with ⟨c1, h⟩ | ⟨c1, h⟩
  · refine rr_icmp_ge_p (t := 28) dX7_copies_7 (by decide) c1 ?_
    refine rr_aload_n dX7_copies_10 rfl ?_
    refine rr_iload_n dX7_copies_11 rfl ?_
    refine rr_iload dX7_copies_12 rfl ?_
    refine rr_iadd dX7_copies_14 ?_
    refine rr_aload_n dX7_copies_15 rfl ?_
    refine rr_iload_n dX7_copies_16 rfl ?_
    refine rr_iload dX7_copies_17 rfl ?_
    refine rr_iadd dX7_copies_19 ?_
    obtain ⟨g2, h⟩ := ab_g h
    refine rr_iald (nz := (p0_n : Int)) dX7_copies_20 hs_p0 rfl g2 ?_
    obtain ⟨g3, h⟩ := ab_g h
    refine rr_iast (nz := (p2_n : Int)) dX7_copies_21 hs_p2 h3_p2 rfl g3 ?_
    obtain ⟨σ4, e5, h⟩ := ab_1 h
    refine ab_m e5 ?_
    refine rr_iinc (ls' := [some (am_r p0), some (am_i x1), some (am_r p2), some (am_i x3), some (am_i (am_w (x4 + 1)))]) dX7_copies_22 rfl (Nat.le_of_ble_eq_true rfl) rfl ?_
    refine rr_goto (t := 3) dX7_copies_25 (by decide) ?_
    exact hk3 _ _ _ _ h
  · refine rr_icmp_ge_n (t := 28) dX7_copies_7 (by decide) c1 ?_
    obtain rfl := ab_r1 h
    exact rr_vret dX7_copies_28 rfl hQ
theorem tl_X7_copies_3 {L n d : Nat} {Q : am_Post} {p0 : Nat} {p0_n : Nat} {p2 : Nat} {p2_n : Nat} {σr : am_Mem} (hd : 0 ≤ d) (hs_p0 : (xr_Sh L)[p0]? = some (100, p0_n, [])) (h3_p0 : 3 ≤ p0) (hs_p2 : (xr_Sh L)[p2]? = some (100, p2_n, [])) (h3_p2 : 3 ≤ p2) (hQ : Q none (rm_h L σr)) : ∀ (m : Nat) (x1 : Int) (x3 : Int) (x4 : Int) (σ : am_Mem), fl_X7_copies_3 n p0 p0_n p2 p2_n m x1 x3 x4 σ = some σr → xs_AW (xs_aw d) me_X7_copies Q 3 [some (am_r p0), some (am_i x1), some (am_r p2), some (am_i x3), some (am_i x4)] [] (rm_h L σ) := by
  intro m
  induction m with
  | zero => intro x1 x3 x4 σ h; cases h
  | succ m ih =>
    intro x1 x3 x4 σ h
    exact tb_X7_copies_3 hd hs_p0 h3_p0 hs_p2 h3_p2 (fun x1 x3 x4 σ h => ih x1 x3 x4 σ h) hQ h
theorem t_X7_copies {L n d : Nat} {Q : am_Post} {p0 : Nat} {p0_n : Nat} {p2 : Nat} {p2_n : Nat} {p1 : Int} {p3 : Int} {σ σr : am_Mem} (hd : 0 < d) (hs_p0 : (xr_Sh L)[p0]? = some (100, p0_n, [])) (h3_p0 : 3 ≤ p0) (hs_p2 : (xr_Sh L)[p2]? = some (100, p2_n, [])) (h3_p2 : 3 ≤ p2) (h : f_X7_copies n p0 p0_n p2 p2_n p1 p3 σ = some σr) (hQ : Q none (rm_h L σr)) : xs_aw d me_X7_copies [am_r p0, am_i p1, am_r p2, am_i p3] (rm_h L σ) Q := by
  obtain ⟨d, rfl⟩ : ∃ k, d = k + 1 := ⟨d - 1, by omega⟩
  have hd : 0 ≤ d := by omega
  unfold f_X7_copies at h
  show xs_AW (xs_aw d) me_X7_copies Q 0 [some (am_r p0), some (am_i p1), some (am_r p2), some (am_i p3), none] [] (rm_h L σ)
  refine rr_iconst dX7_copies_0 (by decide) ?_
  refine rr_istore (ls' := [some (am_r p0), some (am_i p1), some (am_r p2), some (am_i p3), some (am_i 0)]) dX7_copies_1 (Nat.le_of_ble_eq_true rfl) rfl ?_
  exact tl_X7_copies_3 hd hs_p0 h3_p0 hs_p2 h3_p2 hQ n _ _ _ _ h
def nw_X7_copies (p0 : Nat) (p0_n : Nat) (p2 : Nat) (p2_n : Nat) (a : Nat) : Prop := a ≠ p2
theorem wb_X7_copies_3 {n : Nat} {p0 : Nat} {p0_n : Nat} {p2 : Nat} {p2_n : Nat} {kh3 : Int → Int → Int → am_Mem → Option am_Mem} {x1 : Int} {x3 : Int} {x4 : Int} {σ σr : am_Mem} (hk3 : ∀ (y1 : Int) (y3 : Int) (y4 : Int) (σ : am_Mem), kh3 y1 y3 y4 σ = some σr → ∀ a : Nat, nw_X7_copies p0 p0_n p2 p2_n a → σr a = σ a) (h : fb_X7_copies_3 n p0 p0_n p2 p2_n kh3 x1 x3 x4 σ = some σr) : ∀ a : Nat, nw_X7_copies p0 p0_n p2 p2_n a → σr a = σ a := by
  unfold fb_X7_copies_3 at h
  have fr : ∀ a : Nat, nw_X7_copies p0 p0_n p2 p2_n a → σ a = σ a := fun _ _ => rfl
  rcases ab_i h with ⟨c1, h⟩ | ⟨c1, h⟩
  · obtain ⟨g2, h⟩ := ab_g h
    obtain ⟨g3, h⟩ := ab_g h
    obtain ⟨σ4, e5, h⟩ := ab_1 h
    have fr := fun (a : Nat) (ha : nw_X7_copies p0 p0_n p2 p2_n a) => (ab_fu e5 (show a ≠ p2 by unfold nw_X7_copies at ha; omega)).trans (fr a ha)
    exact fun a ha => (hk3 _ _ _ _ h a ha).trans (fr a ha)
  · have q2 := ab_r1 h
    exact fun a ha => (congrFun q2.symm a).trans (fr a ha)
theorem wl_X7_copies_3 {n : Nat} {p0 : Nat} {p0_n : Nat} {p2 : Nat} {p2_n : Nat} {σr : am_Mem} : ∀ (m : Nat) (x1 : Int) (x3 : Int) (x4 : Int) (σ : am_Mem), fl_X7_copies_3 n p0 p0_n p2 p2_n m x1 x3 x4 σ = some σr → ∀ a : Nat, nw_X7_copies p0 p0_n p2 p2_n a → σr a = σ a := by
  intro m
  induction m with
  | zero => intro x1 x3 x4 σ h; cases h
  | succ m ih =>
    intro x1 x3 x4 σ h
    exact wb_X7_copies_3 (fun x1 x3 x4 σ h => ih x1 x3 x4 σ h) h
theorem w_X7_copies {n : Nat} {p0 : Nat} {p0_n : Nat} {p2 : Nat} {p2_n : Nat} {p1 : Int} {p3 : Int} {σ σr : am_Mem} (h : f_X7_copies n p0 p0_n p2 p2_n p1 p3 σ = some σr) : ∀ a : Nat, nw_X7_copies p0 p0_n p2 p2_n a → σr a = σ a := by
  unfold f_X7_copies at h
  have fr : ∀ a : Nat, nw_X7_copies p0 p0_n p2 p2_n a → σ a = σ a := fun _ _ => rfl
  exact fun a ha => (wl_X7_copies_3 n _ _ _ _ h a ha).trans (fr a ha)
/-! MoodFareModel.isWell -/
def f_X7_isWell (n : Nat) (σ : am_Mem) : Option (Int × am_Mem) :=
  if σ 75 8 < 0 then (some (1, σ)) else (some (0, σ))
theorem t_X7_isWell {L n d : Nat} {Q : am_Post} {σ σr : am_Mem} {rr : Int} (hd : 0 < d) (h : f_X7_isWell n σ = some (rr, σr)) (hQ : Q (some (am_i rr)) (rm_h L σr)) : xs_aw d me_X7_isWell [am_r 75] (rm_h L σ) Q := by
  obtain ⟨d, rfl⟩ : ∃ k, d = k + 1 := ⟨d - 1, by omega⟩
  have hd : 0 ≤ d := by omega
  unfold f_X7_isWell at h
  show xs_AW (xs_aw d) me_X7_isWell Q 0 [some (am_r 75)] [] (rm_h L σ)
  refine rr_aload_n dX7_isWell_0 rfl ?_
  refine rr_geti (kz := 8) dX7_isWell_1 fl_7_116 (sh_75 L) ⟨(by decide), by decide⟩ rfl rfl ?_
  rcases ab_i h with ⟨c1, h⟩ | ⟨c1, h⟩
  · refine rr_if_ge_p (t := 11) dX7_isWell_4 (by decide) c1 ?_
    refine rr_iconst dX7_isWell_7 (by decide) ?_
    refine rr_goto (t := 12) dX7_isWell_8 (by decide) ?_
    obtain ⟨rfl, rfl⟩ := ab_r2 h
    exact rr_zret dX7_isWell_12 rfl (Or.inr rfl) hQ
  · refine rr_if_ge_n (t := 11) dX7_isWell_4 (by decide) c1 ?_
    refine rr_iconst dX7_isWell_11 (by decide) ?_
    obtain ⟨rfl, rfl⟩ := ab_r2 h
    exact rr_zret dX7_isWell_12 rfl (Or.inl rfl) hQ
theorem u_X7_isWell {n : Nat} {σ σr : am_Mem} {rr : Int} (h : f_X7_isWell n σ = some (rr, σr)) : σr = σ := by
  unfold f_X7_isWell at h
  have fr : σ = σ := rfl
  rcases ab_i h with ⟨c1, h⟩ | ⟨c1, h⟩
  · obtain ⟨q1, q2⟩ := ab_r2 h
    exact q2.symm.trans fr
  · obtain ⟨q1, q2⟩ := ab_r2 h
    exact q2.symm.trans fr
/-! MoodFareModel.takes -/
def f_X7_takes (n : Nat) (p1 : Int) (p2 : Int) (σ : am_Mem) : Option (Int × am_Mem) :=
  am_b2 (f_X7_isWell n σ) fun r2 σ3 => if r2 = 0 then (some (0, σ3)) else (if p1 = 0 then (am_b1 (some (am_up σ3 75 8 (σ3 75 10))) fun σ6 => am_b1 (some (am_up σ6 75 7 p2)) fun σ8 => some (0, σ8)) else (am_b1 (f_X7_advances n σ3) fun σ12 => some (σ3 75 12, σ12)))
theorem t_X7_takes {L n d : Nat} {Q : am_Post} {p1 : Int} {p2 : Int} {σ σr : am_Mem} {rr : Int} (hd : 2 < d) (h : f_X7_takes n p1 p2 σ = some (rr, σr)) (hQ : Q (some (am_i rr)) (rm_h L σr)) : xs_aw d me_X7_takes [am_r 75, am_i p1, am_i p2] (rm_h L σ) Q := by
  obtain ⟨d, rfl⟩ : ∃ k, d = k + 1 := ⟨d - 1, by omega⟩
  have hd : 2 ≤ d := by omega
  unfold f_X7_takes at h
  show xs_AW (xs_aw d) me_X7_takes Q 0 [some (am_r 75), some (am_i p1), some (am_i p2), none] [] (rm_h L σ)
  refine rr_aload_n dX7_takes_0 rfl ?_
  obtain ⟨r2, σ3, e1, h⟩ := ab_2 h
  refine rr_Vi (as := []) (rest := []) dX7_takes_1 ml_7_119 (sh_75 L) ⟨(by decide), by decide, by decide⟩ rfl rfl rfl (Nat.le_of_ble_eq_true rfl) ⟨rfl, rfl⟩ (Nat.le_of_ble_eq_true rfl) (fun _ k => t_X7_isWell (by omega) e1 k) ?_
  rcases ab_i h with ⟨c4, h⟩ | ⟨c4, h⟩
  · refine rr_if_ne_p (t := 9) dX7_takes_4 (by decide) c4 ?_
    refine rr_iconst dX7_takes_7 (by decide) ?_
    obtain ⟨rfl, rfl⟩ := ab_r2 h
    exact rr_iret dX7_takes_8 rfl hQ
  · refine rr_if_ne_n (t := 9) dX7_takes_4 (by decide) c4 ?_
    refine rr_iload_n dX7_takes_9 rfl ?_
    rcases ab_i h with ⟨c5, h⟩ | ⟨c5, h⟩
    · refine rr_if_ne_p (t := 28) dX7_takes_10 (by decide) c5 ?_
      refine rr_aload_n dX7_takes_13 rfl ?_
      refine rr_aload_n dX7_takes_14 rfl ?_
      refine rr_geti (kz := 10) dX7_takes_15 fl_7_104 (sh_75 L) ⟨(by decide), by decide⟩ rfl rfl ?_
      obtain ⟨σ6, e7, h⟩ := ab_1 h
      refine rr_puti (kz := 8) dX7_takes_18 fl_7_116 (sh_75 L) ⟨(by decide), by decide⟩ ⟨rfl, rfl⟩ rfl (ab_m e7 ?_)
      refine rr_aload_n dX7_takes_21 rfl ?_
      refine rr_iload_n dX7_takes_22 rfl ?_
      obtain ⟨σ8, e9, h⟩ := ab_1 h
      refine rr_puti (kz := 7) dX7_takes_23 fl_7_123 (sh_75 L) ⟨(by decide), by decide⟩ ⟨rfl, rfl⟩ rfl (ab_m e9 ?_)
      refine rr_iconst dX7_takes_26 (by decide) ?_
      obtain ⟨rfl, rfl⟩ := ab_r2 h
      exact rr_iret dX7_takes_27 rfl hQ
    · refine rr_if_ne_n (t := 28) dX7_takes_10 (by decide) c5 ?_
      refine rr_aload_n dX7_takes_28 rfl ?_
      refine rr_geti (kz := 12) dX7_takes_29 fl_7_110 (sh_75 L) ⟨(by decide), by decide⟩ rfl rfl ?_
      refine rr_istore_n (ls' := [some (am_r 75), some (am_i p1), some (am_i p2), some (am_i (σ3 75 12))]) dX7_takes_32 (Nat.le_of_ble_eq_true rfl) rfl ?_
      refine rr_aload_n dX7_takes_33 rfl ?_
      obtain ⟨σ12, e10, h⟩ := ab_1 h
      refine rr_Vv (as := []) (rest := []) dX7_takes_34 ml_7_126 (sh_75 L) ⟨(by decide), by decide, by decide⟩ rfl rfl rfl (Nat.le_of_ble_eq_true rfl) ⟨rfl, rfl⟩ (Nat.le_of_ble_eq_true rfl) (fun _ k => t_X7_advances (by omega) e10 k) ?_
      refine rr_iload_n dX7_takes_37 rfl ?_
      obtain ⟨rfl, rfl⟩ := ab_r2 h
      exact rr_iret dX7_takes_38 rfl hQ
def nw_X7_takes (a : Nat) : Prop := a ≠ 75
theorem w_X7_takes {n : Nat} {p1 : Int} {p2 : Int} {σ σr : am_Mem} {rr : Int} (h : f_X7_takes n p1 p2 σ = some (rr, σr)) : ∀ a : Nat, nw_X7_takes a → σr a = σ a := by
  unfold f_X7_takes at h
  have fr : ∀ a : Nat, nw_X7_takes a → σ a = σ a := fun _ _ => rfl
  obtain ⟨r2, σ3, e1, h⟩ := ab_2 h
  have fr := fun (a : Nat) (ha : nw_X7_takes a) => (congrFun (u_X7_isWell e1) a).trans (fr a ha)
  rcases ab_i h with ⟨c4, h⟩ | ⟨c4, h⟩
  · obtain ⟨q1, q2⟩ := ab_r2 h
    exact fun a ha => (congrFun q2.symm a).trans (fr a ha)
  · rcases ab_i h with ⟨c5, h⟩ | ⟨c5, h⟩
    · obtain ⟨σ6, e7, h⟩ := ab_1 h
      have fr := fun (a : Nat) (ha : nw_X7_takes a) => (ab_fu e7 (show a ≠ 75 by unfold nw_X7_takes at ha; omega)).trans (fr a ha)
      obtain ⟨σ8, e9, h⟩ := ab_1 h
      have fr := fun (a : Nat) (ha : nw_X7_takes a) => (ab_fu e9 (show a ≠ 75 by unfold nw_X7_takes at ha; omega)).trans (fr a ha)
      obtain ⟨q1, q2⟩ := ab_r2 h
      exact fun a ha => (congrFun q2.symm a).trans (fr a ha)
    · obtain ⟨σ12, e10, h⟩ := ab_1 h
      have fr := fun (a : Nat) (ha : nw_X7_takes a) => (w_X7_advances e10 a (by unfold nw_X7_takes at ha; unfold nw_X7_advances; omega)).trans (fr a ha)
      obtain ⟨q1, q2⟩ := ab_r2 h
      exact fun a ha => (congrFun q2.symm a).trans (fr a ha)
/-! MoodFareModel.figure -/
def f_X7_figure (n : Nat) (p1 : Int) (p2 : Int) (σ : am_Mem) : Option (Int × am_Mem) :=
  am_b2 (f_X7_isWell n σ) fun r2 σ3 => if r2 = 0 then (am_b2 (f_X7_in n (σ3 75 12) p1 p2 σ3) fun r6 σ7 => am_b2 (f_X7_takes n r6 2 σ7) fun r9 σ10 => some (r9, σ10)) else (if σ3 75 11 = 2 then (am_b2 (f_X7_in n (σ3 75 12) p1 p2 σ3) fun r13 σ14 => am_b2 (f_X7_takes n r13 2 σ14) fun r16 σ17 => some (r16, σ17)) else (am_b2 (f_X7_takes n 0 1 σ3) fun r19 σ20 => some (r19, σ20)))
theorem t_X7_figure {L n d : Nat} {Q : am_Post} {p1 : Int} {p2 : Int} {σ σr : am_Mem} {rr : Int} (hd : 3 < d) (h : f_X7_figure n p1 p2 σ = some (rr, σr)) (hQ : Q (some (am_i rr)) (rm_h L σr)) : xs_aw d me_X7_figure [am_r 75, am_i p1, am_i p2] (rm_h L σ) Q := by
  obtain ⟨d, rfl⟩ : ∃ k, d = k + 1 := ⟨d - 1, by omega⟩
  have hd : 3 ≤ d := by omega
  unfold f_X7_figure at h
  show xs_AW (xs_aw d) me_X7_figure Q 0 [some (am_r 75), some (am_i p1), some (am_i p2)] [] (rm_h L σ)
  refine rr_aload_n dX7_figure_0 rfl ?_
  obtain ⟨r2, σ3, e1, h⟩ := ab_2 h
  refine rr_Vi (as := []) (rest := []) dX7_figure_1 ml_7_119 (sh_75 L) ⟨(by decide), by decide, by decide⟩ rfl rfl rfl (Nat.le_of_ble_eq_true rfl) ⟨rfl, rfl⟩ (Nat.le_of_ble_eq_true rfl) (fun _ k => t_X7_isWell (by omega) e1 k) ?_
  rcases ab_i h with ⟨c4, h⟩ | ⟨c4, h⟩
  · refine rr_if_eq_p (t := 22) dX7_figure_4 (by decide) c4 ?_
    refine rr_aload_n dX7_figure_22 rfl ?_
    refine rr_aload_n dX7_figure_23 rfl ?_
    refine rr_geti (kz := 12) dX7_figure_24 fl_7_110 (sh_75 L) ⟨(by decide), by decide⟩ rfl rfl ?_
    refine rr_iload_n dX7_figure_27 rfl ?_
    refine rr_iload_n dX7_figure_28 rfl ?_
    obtain ⟨r6, σ7, e5, h⟩ := ab_2 h
    refine rr_Si (as := [am_i (σ3 75 12), am_i p1, am_i p2]) (rest := [am_r 75]) dX7_figure_29 ml_7_71 (Or.inl rfl) rfl rfl (Nat.le_of_ble_eq_true rfl) ⟨rfl, rfl⟩ (Nat.le_of_ble_eq_true rfl) (fun _ k => t_X7_in (by omega) e5 k) ?_
    refine rr_iconst dX7_figure_32 (by decide) ?_
    obtain ⟨r9, σ10, e8, h⟩ := ab_2 h
    refine rr_Vi (as := [am_i r6, am_i 2]) (rest := []) dX7_figure_33 ml_7_129 (sh_75 L) ⟨(by decide), by decide, by decide⟩ rfl rfl rfl (Nat.le_of_ble_eq_true rfl) ⟨rfl, rfl⟩ (Nat.le_of_ble_eq_true rfl) (fun _ k => t_X7_takes (by omega) e8 k) ?_
    obtain ⟨rfl, rfl⟩ := ab_r2 h
    exact rr_iret dX7_figure_36 rfl hQ
  · refine rr_if_eq_n (t := 22) dX7_figure_4 (by decide) c4 ?_
    refine rr_aload_n dX7_figure_7 rfl ?_
    refine rr_geti (kz := 11) dX7_figure_8 fl_7_113 (sh_75 L) ⟨(by decide), by decide⟩ rfl rfl ?_
    refine rr_iconst dX7_figure_11 (by decide) ?_
    rcases ab_i h with ⟨c11, h⟩ | ⟨c11, h⟩
    · refine rr_icmp_eq_p (t := 22) dX7_figure_12 (by decide) c11 ?_
      refine rr_aload_n dX7_figure_22 rfl ?_
      refine rr_aload_n dX7_figure_23 rfl ?_
      refine rr_geti (kz := 12) dX7_figure_24 fl_7_110 (sh_75 L) ⟨(by decide), by decide⟩ rfl rfl ?_
      refine rr_iload_n dX7_figure_27 rfl ?_
      refine rr_iload_n dX7_figure_28 rfl ?_
      obtain ⟨r13, σ14, e12, h⟩ := ab_2 h
      refine rr_Si (as := [am_i (σ3 75 12), am_i p1, am_i p2]) (rest := [am_r 75]) dX7_figure_29 ml_7_71 (Or.inl rfl) rfl rfl (Nat.le_of_ble_eq_true rfl) ⟨rfl, rfl⟩ (Nat.le_of_ble_eq_true rfl) (fun _ k => t_X7_in (by omega) e12 k) ?_
      refine rr_iconst dX7_figure_32 (by decide) ?_
      obtain ⟨r16, σ17, e15, h⟩ := ab_2 h
      refine rr_Vi (as := [am_i r13, am_i 2]) (rest := []) dX7_figure_33 ml_7_129 (sh_75 L) ⟨(by decide), by decide, by decide⟩ rfl rfl rfl (Nat.le_of_ble_eq_true rfl) ⟨rfl, rfl⟩ (Nat.le_of_ble_eq_true rfl) (fun _ k => t_X7_takes (by omega) e15 k) ?_
      obtain ⟨rfl, rfl⟩ := ab_r2 h
      exact rr_iret dX7_figure_36 rfl hQ
    · refine rr_icmp_eq_n (t := 22) dX7_figure_12 (by decide) c11 ?_
      refine rr_aload_n dX7_figure_15 rfl ?_
      refine rr_iconst dX7_figure_16 (by decide) ?_
      refine rr_iconst dX7_figure_17 (by decide) ?_
      obtain ⟨r19, σ20, e18, h⟩ := ab_2 h
      refine rr_Vi (as := [am_i 0, am_i 1]) (rest := []) dX7_figure_18 ml_7_129 (sh_75 L) ⟨(by decide), by decide, by decide⟩ rfl rfl rfl (Nat.le_of_ble_eq_true rfl) ⟨rfl, rfl⟩ (Nat.le_of_ble_eq_true rfl) (fun _ k => t_X7_takes (by omega) e18 k) ?_
      obtain ⟨rfl, rfl⟩ := ab_r2 h
      exact rr_iret dX7_figure_21 rfl hQ
def nw_X7_figure (a : Nat) : Prop := a ≠ 75
theorem w_X7_figure {n : Nat} {p1 : Int} {p2 : Int} {σ σr : am_Mem} {rr : Int} (h : f_X7_figure n p1 p2 σ = some (rr, σr)) : ∀ a : Nat, nw_X7_figure a → σr a = σ a := by
  unfold f_X7_figure at h
  have fr : ∀ a : Nat, nw_X7_figure a → σ a = σ a := fun _ _ => rfl
  obtain ⟨r2, σ3, e1, h⟩ := ab_2 h
  have fr := fun (a : Nat) (ha : nw_X7_figure a) => (congrFun (u_X7_isWell e1) a).trans (fr a ha)
  rcases ab_i h with ⟨c4, h⟩ | ⟨c4, h⟩
  · obtain ⟨r6, σ7, e5, h⟩ := ab_2 h
    have fr := fun (a : Nat) (ha : nw_X7_figure a) => (congrFun (u_X7_in e5) a).trans (fr a ha)
    obtain ⟨r9, σ10, e8, h⟩ := ab_2 h
    have fr := fun (a : Nat) (ha : nw_X7_figure a) => (w_X7_takes e8 a (by unfold nw_X7_figure at ha; unfold nw_X7_takes; omega)).trans (fr a ha)
    obtain ⟨q1, q2⟩ := ab_r2 h
    exact fun a ha => (congrFun q2.symm a).trans (fr a ha)
  · rcases ab_i h with ⟨c11, h⟩ | ⟨c11, h⟩
    · obtain ⟨r13, σ14, e12, h⟩ := ab_2 h
      have fr := fun (a : Nat) (ha : nw_X7_figure a) => (congrFun (u_X7_in e12) a).trans (fr a ha)
      obtain ⟨r16, σ17, e15, h⟩ := ab_2 h
      have fr := fun (a : Nat) (ha : nw_X7_figure a) => (w_X7_takes e15 a (by unfold nw_X7_figure at ha; unfold nw_X7_takes; omega)).trans (fr a ha)
      obtain ⟨q1, q2⟩ := ab_r2 h
      exact fun a ha => (congrFun q2.symm a).trans (fr a ha)
    · obtain ⟨r19, σ20, e18, h⟩ := ab_2 h
      have fr := fun (a : Nat) (ha : nw_X7_figure a) => (w_X7_takes e18 a (by unfold nw_X7_figure at ha; unfold nw_X7_takes; omega)).trans (fr a ha)
      obtain ⟨q1, q2⟩ := ab_r2 h
      exact fun a ha => (congrFun q2.symm a).trans (fr a ha)
/-! MoodFareModel.follows -/
def f_X7_follows (n : Nat) (p1 : Int) (p2 : Int) (σ : am_Mem) : Option (Int × am_Mem) :=
  if σ 75 11 = 3 then (am_b2 (f_X7_takes n 1 1 σ) fun r3 σ4 => am_b2 (f_X7_figure n p1 p2 σ4) fun r6 σ7 => some (r6, σ7)) else (am_b2 (f_X7_takes n 0 1 σ) fun r9 σ10 => am_b2 (f_X7_figure n p1 p2 σ10) fun r12 σ13 => some (r12, σ13))
theorem t_X7_follows {L n d : Nat} {Q : am_Post} {p1 : Int} {p2 : Int} {σ σr : am_Mem} {rr : Int} (hd : 4 < d) (h : f_X7_follows n p1 p2 σ = some (rr, σr)) (hQ : Q (some (am_i rr)) (rm_h L σr)) : xs_aw d me_X7_follows [am_r 75, am_i p1, am_i p2] (rm_h L σ) Q := by
  obtain ⟨d, rfl⟩ : ∃ k, d = k + 1 := ⟨d - 1, by omega⟩
  have hd : 4 ≤ d := by omega
  unfold f_X7_follows at h
  show xs_AW (xs_aw d) me_X7_follows Q 0 [some (am_r 75), some (am_i p1), some (am_i p2)] [] (rm_h L σ)
  refine rr_aload_n dX7_follows_0 rfl ?_
  refine rr_aload_n dX7_follows_1 rfl ?_
  refine rr_geti (kz := 11) dX7_follows_2 fl_7_113 (sh_75 L) ⟨(by decide), by decide⟩ rfl rfl ?_
  refine rr_iconst dX7_follows_5 (by decide) ?_
  rcases ab_i h with ⟨c1, h⟩ | ⟨c1, h⟩
  · refine rr_icmp_ne_p (t := 13) dX7_follows_6 (by decide) c1 ?_
    refine rr_iconst dX7_follows_9 (by decide) ?_
    refine rr_goto (t := 14) dX7_follows_10 (by decide) ?_
    refine rr_iconst dX7_follows_14 (by decide) ?_
    obtain ⟨r3, σ4, e2, h⟩ := ab_2 h
    refine rr_Vi (as := [am_i 1, am_i 1]) (rest := []) dX7_follows_15 ml_7_129 (sh_75 L) ⟨(by decide), by decide, by decide⟩ rfl rfl rfl (Nat.le_of_ble_eq_true rfl) ⟨rfl, rfl⟩ (Nat.le_of_ble_eq_true rfl) (fun _ k => t_X7_takes (by omega) e2 k) ?_
    refine rr_pop dX7_follows_18 rfl ?_
    refine rr_aload_n dX7_follows_19 rfl ?_
    refine rr_iload_n dX7_follows_20 rfl ?_
    refine rr_iload_n dX7_follows_21 rfl ?_
    obtain ⟨r6, σ7, e5, h⟩ := ab_2 h
    refine rr_Vi (as := [am_i p1, am_i p2]) (rest := []) dX7_follows_22 ml_7_133 (sh_75 L) ⟨(by decide), by decide, by decide⟩ rfl rfl rfl (Nat.le_of_ble_eq_true rfl) ⟨rfl, rfl⟩ (Nat.le_of_ble_eq_true rfl) (fun _ k => t_X7_figure (by omega) e5 k) ?_
    obtain ⟨rfl, rfl⟩ := ab_r2 h
    exact rr_iret dX7_follows_25 rfl hQ
  · refine rr_icmp_ne_n (t := 13) dX7_follows_6 (by decide) c1 ?_
    refine rr_iconst dX7_follows_13 (by decide) ?_
    refine rr_iconst dX7_follows_14 (by decide) ?_
    obtain ⟨r9, σ10, e8, h⟩ := ab_2 h
    refine rr_Vi (as := [am_i 0, am_i 1]) (rest := []) dX7_follows_15 ml_7_129 (sh_75 L) ⟨(by decide), by decide, by decide⟩ rfl rfl rfl (Nat.le_of_ble_eq_true rfl) ⟨rfl, rfl⟩ (Nat.le_of_ble_eq_true rfl) (fun _ k => t_X7_takes (by omega) e8 k) ?_
    refine rr_pop dX7_follows_18 rfl ?_
    refine rr_aload_n dX7_follows_19 rfl ?_
    refine rr_iload_n dX7_follows_20 rfl ?_
    refine rr_iload_n dX7_follows_21 rfl ?_
    obtain ⟨r12, σ13, e11, h⟩ := ab_2 h
    refine rr_Vi (as := [am_i p1, am_i p2]) (rest := []) dX7_follows_22 ml_7_133 (sh_75 L) ⟨(by decide), by decide, by decide⟩ rfl rfl rfl (Nat.le_of_ble_eq_true rfl) ⟨rfl, rfl⟩ (Nat.le_of_ble_eq_true rfl) (fun _ k => t_X7_figure (by omega) e11 k) ?_
    obtain ⟨rfl, rfl⟩ := ab_r2 h
    exact rr_iret dX7_follows_25 rfl hQ
def nw_X7_follows (a : Nat) : Prop := a ≠ 75
theorem w_X7_follows {n : Nat} {p1 : Int} {p2 : Int} {σ σr : am_Mem} {rr : Int} (h : f_X7_follows n p1 p2 σ = some (rr, σr)) : ∀ a : Nat, nw_X7_follows a → σr a = σ a := by
  unfold f_X7_follows at h
  have fr : ∀ a : Nat, nw_X7_follows a → σ a = σ a := fun _ _ => rfl
  rcases ab_i h with ⟨c1, h⟩ | ⟨c1, h⟩
  · obtain ⟨r3, σ4, e2, h⟩ := ab_2 h
    have fr := fun (a : Nat) (ha : nw_X7_follows a) => (w_X7_takes e2 a (by unfold nw_X7_follows at ha; unfold nw_X7_takes; omega)).trans (fr a ha)
    obtain ⟨r6, σ7, e5, h⟩ := ab_2 h
    have fr := fun (a : Nat) (ha : nw_X7_follows a) => (w_X7_figure e5 a (by unfold nw_X7_follows at ha; unfold nw_X7_figure; omega)).trans (fr a ha)
    obtain ⟨q1, q2⟩ := ab_r2 h
    exact fun a ha => (congrFun q2.symm a).trans (fr a ha)
  · obtain ⟨r9, σ10, e8, h⟩ := ab_2 h
    have fr := fun (a : Nat) (ha : nw_X7_follows a) => (w_X7_takes e8 a (by unfold nw_X7_follows at ha; unfold nw_X7_takes; omega)).trans (fr a ha)
    obtain ⟨r12, σ13, e11, h⟩ := ab_2 h
    have fr := fun (a : Nat) (ha : nw_X7_follows a) => (w_X7_figure e11 a (by unfold nw_X7_follows at ha; unfold nw_X7_figure; omega)).trans (fr a ha)
    obtain ⟨q1, q2⟩ := ab_r2 h
    exact fun a ha => (congrFun q2.symm a).trans (fr a ha)
/-! MoodFareModel.kindOf -/
def f_X7_kindOf (n : Nat) (p0 : Int) (σ : am_Mem) : Option (Int × am_Mem) :=
  if p0 = 106 then (some (1, σ)) else (if p0 = 108 then (some (2, σ)) else (if p0 = 104 then (some (3, σ)) else (if p0 = 103 then (some (4, σ)) else (if p0 = 114 then (some (5, σ)) else (some (0, σ))))))
theorem t_X7_kindOf {L n d : Nat} {Q : am_Post} {p0 : Int} {σ σr : am_Mem} {rr : Int} (hd : 0 < d) (h : f_X7_kindOf n p0 σ = some (rr, σr)) (hQ : Q (some (am_i rr)) (rm_h L σr)) : xs_aw d me_X7_kindOf [am_i p0] (rm_h L σ) Q := by
  obtain ⟨d, rfl⟩ : ∃ k, d = k + 1 := ⟨d - 1, by omega⟩
  have hd : 0 ≤ d := by omega
  unfold f_X7_kindOf at h
  show xs_AW (xs_aw d) me_X7_kindOf Q 0 [some (am_i p0)] [] (rm_h L σ)
  refine rr_iload_n dX7_kindOf_0 rfl ?_
  refine rr_bipush dX7_kindOf_1 (by decide) ?_
  rcases ab_i h with ⟨c1, h⟩ | ⟨c1, h⟩
  · refine rr_icmp_ne_p (t := 10) dX7_kindOf_3 (by decide) c1 ?_
    refine rr_iconst dX7_kindOf_6 (by decide) ?_
    refine rr_goto (t := 51) dX7_kindOf_7 (by decide) ?_
    obtain ⟨rfl, rfl⟩ := ab_r2 h
    exact rr_iret dX7_kindOf_51 rfl hQ
  · refine rr_icmp_ne_n (t := 10) dX7_kindOf_3 (by decide) c1 ?_
    refine rr_iload_n dX7_kindOf_10 rfl ?_
    refine rr_bipush dX7_kindOf_11 (by decide) ?_
    rcases ab_i h with ⟨c2, h⟩ | ⟨c2, h⟩
    · refine rr_icmp_ne_p (t := 20) dX7_kindOf_13 (by decide) c2 ?_
      refine rr_iconst dX7_kindOf_16 (by decide) ?_
      refine rr_goto (t := 51) dX7_kindOf_17 (by decide) ?_
      obtain ⟨rfl, rfl⟩ := ab_r2 h
      exact rr_iret dX7_kindOf_51 rfl hQ
    · refine rr_icmp_ne_n (t := 20) dX7_kindOf_13 (by decide) c2 ?_
      refine rr_iload_n dX7_kindOf_20 rfl ?_
      refine rr_bipush dX7_kindOf_21 (by decide) ?_
      rcases ab_i h with ⟨c3, h⟩ | ⟨c3, h⟩
      · refine rr_icmp_ne_p (t := 30) dX7_kindOf_23 (by decide) c3 ?_
        refine rr_iconst dX7_kindOf_26 (by decide) ?_
        refine rr_goto (t := 51) dX7_kindOf_27 (by decide) ?_
        obtain ⟨rfl, rfl⟩ := ab_r2 h
        exact rr_iret dX7_kindOf_51 rfl hQ
      · refine rr_icmp_ne_n (t := 30) dX7_kindOf_23 (by decide) c3 ?_
        refine rr_iload_n dX7_kindOf_30 rfl ?_
        refine rr_bipush dX7_kindOf_31 (by decide) ?_
        rcases ab_i h with ⟨c4, h⟩ | ⟨c4, h⟩
        · refine rr_icmp_ne_p (t := 40) dX7_kindOf_33 (by decide) c4 ?_
          refine rr_iconst dX7_kindOf_36 (by decide) ?_
          refine rr_goto (t := 51) dX7_kindOf_37 (by decide) ?_
          obtain ⟨rfl, rfl⟩ := ab_r2 h
          exact rr_iret dX7_kindOf_51 rfl hQ
        · refine rr_icmp_ne_n (t := 40) dX7_kindOf_33 (by decide) c4 ?_
          refine rr_iload_n dX7_kindOf_40 rfl ?_
          refine rr_bipush dX7_kindOf_41 (by decide) ?_
          rcases ab_i h with ⟨c5, h⟩ | ⟨c5, h⟩
          · refine rr_icmp_ne_p (t := 50) dX7_kindOf_43 (by decide) c5 ?_
            refine rr_iconst dX7_kindOf_46 (by decide) ?_
            refine rr_goto (t := 51) dX7_kindOf_47 (by decide) ?_
            obtain ⟨rfl, rfl⟩ := ab_r2 h
            exact rr_iret dX7_kindOf_51 rfl hQ
          · refine rr_icmp_ne_n (t := 50) dX7_kindOf_43 (by decide) c5 ?_
            refine rr_iconst dX7_kindOf_50 (by decide) ?_
            obtain ⟨rfl, rfl⟩ := ab_r2 h
            exact rr_iret dX7_kindOf_51 rfl hQ
theorem u_X7_kindOf {n : Nat} {p0 : Int} {σ σr : am_Mem} {rr : Int} (h : f_X7_kindOf n p0 σ = some (rr, σr)) : σr = σ := by
  unfold f_X7_kindOf at h
  have fr : σ = σ := rfl
  rcases ab_i h with ⟨c1, h⟩ | ⟨c1, h⟩
  · obtain ⟨q1, q2⟩ := ab_r2 h
    exact q2.symm.trans fr
  · rcases ab_i h with ⟨c2, h⟩ | ⟨c2, h⟩
    · obtain ⟨q1, q2⟩ := ab_r2 h
      exact q2.symm.trans fr
    · rcases ab_i h with ⟨c3, h⟩ | ⟨c3, h⟩
      · obtain ⟨q1, q2⟩ := ab_r2 h
        exact q2.symm.trans fr
      · rcases ab_i h with ⟨c4, h⟩ | ⟨c4, h⟩
        · obtain ⟨q1, q2⟩ := ab_r2 h
          exact q2.symm.trans fr
        · rcases ab_i h with ⟨c5, h⟩ | ⟨c5, h⟩
          · obtain ⟨q1, q2⟩ := ab_r2 h
            exact q2.symm.trans fr
          · obtain ⟨q1, q2⟩ := ab_r2 h
            exact q2.symm.trans fr
/-! MoodFareModel.readsCorner -/
def fb_X7_readsCorner_91 (n : Nat) (x1 : Int) (x2 : Int) (x3 : Int) (x4 : Int) (s0 : Int) (σ : am_Mem) : Option am_Mem :=
  am_b2 (f_X7_takes n s0 1 σ) fun r17 σ18 => am_b2 (f_X7_isWell n σ18) fun r20 σ21 => if r20 = 0 then (some σ21) else (if (0 : Int) ≤ x2 ∧ x2 < 42 then am_b1 (some (am_up σ21 82 x2 x1)) fun σ24 => if (0 : Int) ≤ am_w (x2 + 1) ∧ am_w (x2 + 1) < 42 then am_b1 (some (am_up σ24 82 (am_w (x2 + 1)) x3)) fun σ27 => if (0 : Int) ≤ am_w (x2 + 2) ∧ am_w (x2 + 2) < 42 then am_b1 (some (am_up σ27 82 (am_w (x2 + 2)) x4)) fun σ30 => am_b1 (some (am_up σ30 82 6 (am_w ((σ30 82 6) + 1)))) fun σ32 => some σ32 else none else none else none)
def fb_X7_readsCorner_57 (n : Nat) (x1 : Int) (s0 : Int) (s1 : Int) (s2 : Int) (σ : am_Mem) : Option am_Mem :=
  am_b2 (f_X7_figure n 0 9 σ) fun r10 σ11 => am_b2 (f_X7_follows n 0 9 σ11) fun r13 σ14 => if σ14 75 11 = 4 then (fb_X7_readsCorner_91 n x1 (am_w (s2 + (am_w (s1 * s0)))) r10 r13 1 σ14) else (fb_X7_readsCorner_91 n x1 (am_w (s2 + (am_w (s1 * s0)))) r10 r13 0 σ14)
def fb_X7_readsCorner_26 (n : Nat) (x1 : Int) (s0 : Int) (σ : am_Mem) : Option am_Mem :=
  am_b2 (f_X7_takes n s0 3 σ) fun r6 σ7 => if σ7 82 6 < 6 then (fb_X7_readsCorner_57 n x1 (σ7 82 6) 3 7 σ7) else (fb_X7_readsCorner_57 n x1 0 3 7 σ7)
def f_X7_readsCorner (n : Nat) (σ : am_Mem) : Option am_Mem :=
  am_b2 (f_X7_kindOf n (σ 75 12) σ) fun r2 σ3 => if σ3 82 6 < 6 then (fb_X7_readsCorner_26 n r2 1 σ3) else (fb_X7_readsCorner_26 n r2 0 σ3)
theorem tb_X7_readsCorner_91 {L n d : Nat} {Q : am_Post} {x1 : Int} {x2 : Int} {x3 : Int} {x4 : Int} {s0 : Int} {σ σr : am_Mem} (hd : 5 ≤ d) (hQ : Q none (rm_h L σr)) (h : fb_X7_readsCorner_91 n x1 x2 x3 x4 s0 σ = some σr) : xs_AW (xs_aw d) me_X7_readsCorner Q 91 [some (am_r 75), some (am_i x1), some (am_i x2), some (am_i x3), some (am_i x4)] [am_i s0, am_r 75] (rm_h L σ) := by
  unfold fb_X7_readsCorner_91 at h
  refine rr_iconst dX7_readsCorner_91 (by decide) ?_
  obtain ⟨r17, σ18, e16, h⟩ := ab_2 h
  refine rr_Vi (as := [am_i s0, am_i 1]) (rest := []) dX7_readsCorner_92 ml_7_129 (sh_75 L) ⟨(by decide), by decide, by decide⟩ rfl rfl rfl (Nat.le_of_ble_eq_true rfl) ⟨rfl, rfl⟩ (Nat.le_of_ble_eq_true rfl) (fun _ k => t_X7_takes (by omega) e16 k) ?_
  refine rr_pop dX7_readsCorner_95 rfl ?_
  refine rr_aload_n dX7_readsCorner_96 rfl ?_
  obtain ⟨r20, σ21, e19, h⟩ := ab_2 h
  refine rr_Vi (as := []) (rest := []) dX7_readsCorner_97 ml_7_119 (sh_75 L) ⟨(by decide), by decide, by decide⟩ rfl rfl rfl (Nat.le_of_ble_eq_true rfl) ⟨rfl, rfl⟩ (Nat.le_of_ble_eq_true rfl) (fun _ k => t_X7_isWell (by omega) e19 k) ?_
  rcases ab_i h with ⟨c22, h⟩ | ⟨c22, h⟩
  · refine rr_if_eq_p (t := 140) dX7_readsCorner_100 (by decide) c22 ?_
    obtain rfl := ab_r1 h
    exact rr_vret dX7_readsCorner_140 rfl hQ
  · refine rr_if_eq_n (t := 140) dX7_readsCorner_100 (by decide) c22 ?_
    refine rr_aload_n dX7_readsCorner_103 rfl ?_
    refine rr_getr (t := 82) dX7_readsCorner_104 fl_7_28 (sh_75 L) ⟨(by decide), by decide⟩ rfl rfl ?_
    refine rr_iload_n dX7_readsCorner_107 rfl ?_
    refine rr_iload_n dX7_readsCorner_108 rfl ?_
    obtain ⟨g23, h⟩ := ab_g h
    refine rr_iast (nz := 42) dX7_readsCorner_109 (sh_82 L) (by decide) rfl g23 ?_
    obtain ⟨σ24, e25, h⟩ := ab_1 h
    refine ab_m e25 ?_
    refine rr_aload_n dX7_readsCorner_110 rfl ?_
    refine rr_getr (t := 82) dX7_readsCorner_111 fl_7_28 (sh_75 L) ⟨(by decide), by decide⟩ rfl rfl ?_
    refine rr_iload_n dX7_readsCorner_114 rfl ?_
    refine rr_iconst dX7_readsCorner_115 (by decide) ?_
    refine rr_iadd dX7_readsCorner_116 ?_
    refine rr_iload_n dX7_readsCorner_117 rfl ?_
    obtain ⟨g26, h⟩ := ab_g h
    refine rr_iast (nz := 42) dX7_readsCorner_118 (sh_82 L) (by decide) rfl g26 ?_
    obtain ⟨σ27, e28, h⟩ := ab_1 h
    refine ab_m e28 ?_
    refine rr_aload_n dX7_readsCorner_119 rfl ?_
    refine rr_getr (t := 82) dX7_readsCorner_120 fl_7_28 (sh_75 L) ⟨(by decide), by decide⟩ rfl rfl ?_
    refine rr_iload_n dX7_readsCorner_123 rfl ?_
    refine rr_iconst dX7_readsCorner_124 (by decide) ?_
    refine rr_iadd dX7_readsCorner_125 ?_
    refine rr_iload dX7_readsCorner_126 rfl ?_
    obtain ⟨g29, h⟩ := ab_g h
    refine rr_iast (nz := 42) dX7_readsCorner_128 (sh_82 L) (by decide) rfl g29 ?_
    obtain ⟨σ30, e31, h⟩ := ab_1 h
    refine ab_m e31 ?_
    refine rr_aload_n dX7_readsCorner_129 rfl ?_
    refine rr_getr (t := 82) dX7_readsCorner_130 fl_7_28 (sh_75 L) ⟨(by decide), by decide⟩ rfl rfl ?_
    refine rr_bipush dX7_readsCorner_133 (by decide) ?_
    refine rr_dup2 dX7_readsCorner_135 rfl rfl ?_
    refine rr_iald (nz := 42) dX7_readsCorner_136 (sh_82 L) rfl ⟨by decide, by decide⟩ ?_
    refine rr_iconst dX7_readsCorner_137 (by decide) ?_
    refine rr_iadd dX7_readsCorner_138 ?_
    refine rr_iast (nz := 42) dX7_readsCorner_139 (sh_82 L) (by decide) rfl ⟨by decide, by decide⟩ ?_
    obtain ⟨σ32, e33, h⟩ := ab_1 h
    refine ab_m e33 ?_
    obtain rfl := ab_r1 h
    exact rr_vret dX7_readsCorner_140 rfl hQ
theorem tb_X7_readsCorner_57 {L n d : Nat} {Q : am_Post} {x1 : Int} {s0 : Int} {s1 : Int} {s2 : Int} {o2 : Option am_V} {o3 : Option am_V} {o4 : Option am_V} {σ σr : am_Mem} (hd : 5 ≤ d) (hQ : Q none (rm_h L σr)) (h : fb_X7_readsCorner_57 n x1 s0 s1 s2 σ = some σr) : xs_AW (xs_aw d) me_X7_readsCorner Q 57 [some (am_r 75), some (am_i x1), o2, o3, o4] [am_i s0, am_i s1, am_i s2] (rm_h L σ) := by
  unfold fb_X7_readsCorner_57 at h
  refine rr_imul dX7_readsCorner_57 ?_
  refine rr_iadd dX7_readsCorner_58 ?_
  refine rr_istore_n (ls' := [some (am_r 75), some (am_i x1), some (am_i (am_w (s2 + (am_w (s1 * s0))))), o3, o4]) dX7_readsCorner_59 (Nat.le_of_ble_eq_true rfl) rfl ?_
  refine rr_aload_n dX7_readsCorner_60 rfl ?_
  refine rr_iconst dX7_readsCorner_61 (by decide) ?_
  refine rr_bipush dX7_readsCorner_62 (by decide) ?_
  obtain ⟨r10, σ11, e9, h⟩ := ab_2 h
  refine rr_Vi (as := [am_i 0, am_i 9]) (rest := []) dX7_readsCorner_64 ml_7_133 (sh_75 L) ⟨(by decide), by decide, by decide⟩ rfl rfl rfl (Nat.le_of_ble_eq_true rfl) ⟨rfl, rfl⟩ (Nat.le_of_ble_eq_true rfl) (fun _ k => t_X7_figure (by omega) e9 k) ?_
  refine rr_istore_n (ls' := [some (am_r 75), some (am_i x1), some (am_i (am_w (s2 + (am_w (s1 * s0))))), some (am_i r10), o4]) dX7_readsCorner_67 (Nat.le_of_ble_eq_true rfl) rfl ?_
  refine rr_aload_n dX7_readsCorner_68 rfl ?_
  refine rr_iconst dX7_readsCorner_69 (by decide) ?_
  refine rr_bipush dX7_readsCorner_70 (by decide) ?_
  obtain ⟨r13, σ14, e12, h⟩ := ab_2 h
  refine rr_Vi (as := [am_i 0, am_i 9]) (rest := []) dX7_readsCorner_72 ml_7_139 (sh_75 L) ⟨(by decide), by decide, by decide⟩ rfl rfl rfl (Nat.le_of_ble_eq_true rfl) ⟨rfl, rfl⟩ (Nat.le_of_ble_eq_true rfl) (fun _ k => t_X7_follows (by omega) e12 k) ?_
  refine rr_istore (ls' := [some (am_r 75), some (am_i x1), some (am_i (am_w (s2 + (am_w (s1 * s0))))), some (am_i r10), some (am_i r13)]) dX7_readsCorner_75 (Nat.le_of_ble_eq_true rfl) rfl ?_
  refine rr_aload_n dX7_readsCorner_77 rfl ?_
  refine rr_aload_n dX7_readsCorner_78 rfl ?_
  refine rr_geti (kz := 11) dX7_readsCorner_79 fl_7_113 (sh_75 L) ⟨(by decide), by decide⟩ rfl rfl ?_
  refine rr_iconst dX7_readsCorner_82 (by decide) ?_
  rcases ab_i h with ⟨c15, h⟩ | ⟨c15, h⟩
  · refine rr_icmp_ne_p (t := 90) dX7_readsCorner_83 (by decide) c15 ?_
    refine rr_iconst dX7_readsCorner_86 (by decide) ?_
    refine rr_goto (t := 91) dX7_readsCorner_87 (by decide) ?_
    exact tb_X7_readsCorner_91 hd hQ h
  · refine rr_icmp_ne_n (t := 90) dX7_readsCorner_83 (by decide) c15 ?_
    refine rr_iconst dX7_readsCorner_90 (by decide) ?_
    exact tb_X7_readsCorner_91 hd hQ h
theorem tb_X7_readsCorner_26 {L n d : Nat} {Q : am_Post} {x1 : Int} {s0 : Int} {o2 : Option am_V} {o3 : Option am_V} {o4 : Option am_V} {σ σr : am_Mem} (hd : 5 ≤ d) (hQ : Q none (rm_h L σr)) (h : fb_X7_readsCorner_26 n x1 s0 σ = some σr) : xs_AW (xs_aw d) me_X7_readsCorner Q 26 [some (am_r 75), some (am_i x1), o2, o3, o4] [am_i s0, am_r 75] (rm_h L σ) := by
  unfold fb_X7_readsCorner_26 at h
  refine rr_iconst dX7_readsCorner_26 (by decide) ?_
  obtain ⟨r6, σ7, e5, h⟩ := ab_2 h
  refine rr_Vi (as := [am_i s0, am_i 3]) (rest := []) dX7_readsCorner_27 ml_7_129 (sh_75 L) ⟨(by decide), by decide, by decide⟩ rfl rfl rfl (Nat.le_of_ble_eq_true rfl) ⟨rfl, rfl⟩ (Nat.le_of_ble_eq_true rfl) (fun _ k => t_X7_takes (by omega) e5 k) ?_
  refine rr_pop dX7_readsCorner_30 rfl ?_
  refine rr_bipush dX7_readsCorner_31 (by decide) ?_
  refine rr_iconst dX7_readsCorner_33 (by decide) ?_
  refine rr_aload_n dX7_readsCorner_34 rfl ?_
  refine rr_getr (t := 82) dX7_readsCorner_35 fl_7_28 (sh_75 L) ⟨(by decide), by decide⟩ rfl rfl ?_
  refine rr_bipush dX7_readsCorner_38 (by decide) ?_
  refine rr_iald (nz := 42) dX7_readsCorner_40 (sh_82 L) rfl ⟨by decide, by decide⟩ ?_
  refine rr_bipush dX7_readsCorner_41 (by decide) ?_
  rcases ab_i h with ⟨c8, h⟩ | ⟨c8, h⟩
  · refine rr_icmp_ge_p (t := 56) dX7_readsCorner_43 (by decide) c8 ?_
    refine rr_aload_n dX7_readsCorner_46 rfl ?_
    refine rr_getr (t := 82) dX7_readsCorner_47 fl_7_28 (sh_75 L) ⟨(by decide), by decide⟩ rfl rfl ?_
    refine rr_bipush dX7_readsCorner_50 (by decide) ?_
    refine rr_iald (nz := 42) dX7_readsCorner_52 (sh_82 L) rfl ⟨by decide, by decide⟩ ?_
    refine rr_goto (t := 57) dX7_readsCorner_53 (by decide) ?_
    exact tb_X7_readsCorner_57 hd hQ h
  · refine rr_icmp_ge_n (t := 56) dX7_readsCorner_43 (by decide) c8 ?_
    refine rr_iconst dX7_readsCorner_56 (by decide) ?_
    exact tb_X7_readsCorner_57 hd hQ h
theorem t_X7_readsCorner {L n d : Nat} {Q : am_Post} {σ σr : am_Mem} (hd : 5 < d) (h : f_X7_readsCorner n σ = some σr) (hQ : Q none (rm_h L σr)) : xs_aw d me_X7_readsCorner [am_r 75] (rm_h L σ) Q := by
  obtain ⟨d, rfl⟩ : ∃ k, d = k + 1 := ⟨d - 1, by omega⟩
  have hd : 5 ≤ d := by omega
  unfold f_X7_readsCorner at h
  show xs_AW (xs_aw d) me_X7_readsCorner Q 0 [some (am_r 75), none, none, none, none] [] (rm_h L σ)
  refine rr_aload_n dX7_readsCorner_0 rfl ?_
  refine rr_geti (kz := 12) dX7_readsCorner_1 fl_7_110 (sh_75 L) ⟨(by decide), by decide⟩ rfl rfl ?_
  obtain ⟨r2, σ3, e1, h⟩ := ab_2 h
  refine rr_Si (as := [am_i (σ 75 12)]) (rest := []) dX7_readsCorner_4 ml_7_136 (Or.inl rfl) rfl rfl (Nat.le_of_ble_eq_true rfl) ⟨rfl, rfl⟩ (Nat.le_of_ble_eq_true rfl) (fun _ k => t_X7_kindOf (by omega) e1 k) ?_
  refine rr_istore_n (ls' := [some (am_r 75), some (am_i r2), none, none, none]) dX7_readsCorner_7 (Nat.le_of_ble_eq_true rfl) rfl ?_
  refine rr_aload_n dX7_readsCorner_8 rfl ?_
  refine rr_aload_n dX7_readsCorner_9 rfl ?_
  refine rr_getr (t := 82) dX7_readsCorner_10 fl_7_28 (sh_75 L) ⟨(by decide), by decide⟩ rfl rfl ?_
  refine rr_bipush dX7_readsCorner_13 (by decide) ?_
  refine rr_iald (nz := 42) dX7_readsCorner_15 (sh_82 L) rfl ⟨by decide, by decide⟩ ?_
  refine rr_bipush dX7_readsCorner_16 (by decide) ?_
  rcases ab_i h with ⟨c4, h⟩ | ⟨c4, h⟩
  · refine rr_icmp_ge_p (t := 25) dX7_readsCorner_18 (by decide) c4 ?_
    refine rr_iconst dX7_readsCorner_21 (by decide) ?_
    refine rr_goto (t := 26) dX7_readsCorner_22 (by decide) ?_
    exact tb_X7_readsCorner_26 hd hQ h
  · refine rr_icmp_ge_n (t := 25) dX7_readsCorner_18 (by decide) c4 ?_
    refine rr_iconst dX7_readsCorner_25 (by decide) ?_
    exact tb_X7_readsCorner_26 hd hQ h
def nw_X7_readsCorner (a : Nat) : Prop := a ≠ 75 ∧ a ≠ 82
theorem wb_X7_readsCorner_91 {n : Nat} {x1 : Int} {x2 : Int} {x3 : Int} {x4 : Int} {s0 : Int} {σ σr : am_Mem} (h : fb_X7_readsCorner_91 n x1 x2 x3 x4 s0 σ = some σr) : ∀ a : Nat, nw_X7_readsCorner a → σr a = σ a := by
  unfold fb_X7_readsCorner_91 at h
  have fr : ∀ a : Nat, nw_X7_readsCorner a → σ a = σ a := fun _ _ => rfl
  obtain ⟨r17, σ18, e16, h⟩ := ab_2 h
  have fr := fun (a : Nat) (ha : nw_X7_readsCorner a) => (w_X7_takes e16 a (by unfold nw_X7_readsCorner at ha; unfold nw_X7_takes; omega)).trans (fr a ha)
  obtain ⟨r20, σ21, e19, h⟩ := ab_2 h
  have fr := fun (a : Nat) (ha : nw_X7_readsCorner a) => (congrFun (u_X7_isWell e19) a).trans (fr a ha)
  rcases ab_i h with ⟨c22, h⟩ | ⟨c22, h⟩
  · have q2 := ab_r1 h
    exact fun a ha => (congrFun q2.symm a).trans (fr a ha)
  · obtain ⟨g23, h⟩ := ab_g h
    obtain ⟨σ24, e25, h⟩ := ab_1 h
    have fr := fun (a : Nat) (ha : nw_X7_readsCorner a) => (ab_fu e25 (show a ≠ 82 by unfold nw_X7_readsCorner at ha; omega)).trans (fr a ha)
    obtain ⟨g26, h⟩ := ab_g h
    obtain ⟨σ27, e28, h⟩ := ab_1 h
    have fr := fun (a : Nat) (ha : nw_X7_readsCorner a) => (ab_fu e28 (show a ≠ 82 by unfold nw_X7_readsCorner at ha; omega)).trans (fr a ha)
    obtain ⟨g29, h⟩ := ab_g h
    obtain ⟨σ30, e31, h⟩ := ab_1 h
    have fr := fun (a : Nat) (ha : nw_X7_readsCorner a) => (ab_fu e31 (show a ≠ 82 by unfold nw_X7_readsCorner at ha; omega)).trans (fr a ha)
    obtain ⟨σ32, e33, h⟩ := ab_1 h
    have fr := fun (a : Nat) (ha : nw_X7_readsCorner a) => (ab_fu e33 (show a ≠ 82 by unfold nw_X7_readsCorner at ha; omega)).trans (fr a ha)
    have q2 := ab_r1 h
    exact fun a ha => (congrFun q2.symm a).trans (fr a ha)
theorem wb_X7_readsCorner_57 {n : Nat} {x1 : Int} {s0 : Int} {s1 : Int} {s2 : Int} {σ σr : am_Mem} (h : fb_X7_readsCorner_57 n x1 s0 s1 s2 σ = some σr) : ∀ a : Nat, nw_X7_readsCorner a → σr a = σ a := by
  unfold fb_X7_readsCorner_57 at h
  have fr : ∀ a : Nat, nw_X7_readsCorner a → σ a = σ a := fun _ _ => rfl
  obtain ⟨r10, σ11, e9, h⟩ := ab_2 h
  have fr := fun (a : Nat) (ha : nw_X7_readsCorner a) => (w_X7_figure e9 a (by unfold nw_X7_readsCorner at ha; unfold nw_X7_figure; omega)).trans (fr a ha)
  obtain ⟨r13, σ14, e12, h⟩ := ab_2 h
  have fr := fun (a : Nat) (ha : nw_X7_readsCorner a) => (w_X7_follows e12 a (by unfold nw_X7_readsCorner at ha; unfold nw_X7_follows; omega)).trans (fr a ha)
  rcases ab_i h with ⟨c15, h⟩ | ⟨c15, h⟩
  · exact fun a ha => (wb_X7_readsCorner_91 h a ha).trans (fr a ha)
  · exact fun a ha => (wb_X7_readsCorner_91 h a ha).trans (fr a ha)
theorem wb_X7_readsCorner_26 {n : Nat} {x1 : Int} {s0 : Int} {σ σr : am_Mem} (h : fb_X7_readsCorner_26 n x1 s0 σ = some σr) : ∀ a : Nat, nw_X7_readsCorner a → σr a = σ a := by
  unfold fb_X7_readsCorner_26 at h
  have fr : ∀ a : Nat, nw_X7_readsCorner a → σ a = σ a := fun _ _ => rfl
  obtain ⟨r6, σ7, e5, h⟩ := ab_2 h
  have fr := fun (a : Nat) (ha : nw_X7_readsCorner a) => (w_X7_takes e5 a (by unfold nw_X7_readsCorner at ha; unfold nw_X7_takes; omega)).trans (fr a ha)
  rcases ab_i h with ⟨c8, h⟩ | ⟨c8, h⟩
  · exact fun a ha => (wb_X7_readsCorner_57 h a ha).trans (fr a ha)
  · exact fun a ha => (wb_X7_readsCorner_57 h a ha).trans (fr a ha)
theorem w_X7_readsCorner {n : Nat} {σ σr : am_Mem} (h : f_X7_readsCorner n σ = some σr) : ∀ a : Nat, nw_X7_readsCorner a → σr a = σ a := by
  unfold f_X7_readsCorner at h
  have fr : ∀ a : Nat, nw_X7_readsCorner a → σ a = σ a := fun _ _ => rfl
  obtain ⟨r2, σ3, e1, h⟩ := ab_2 h
  have fr := fun (a : Nat) (ha : nw_X7_readsCorner a) => (congrFun (u_X7_kindOf e1) a).trans (fr a ha)
  rcases ab_i h with ⟨c4, h⟩ | ⟨c4, h⟩
  · exact fun a ha => (wb_X7_readsCorner_26 h a ha).trans (fr a ha)
  · exact fun a ha => (wb_X7_readsCorner_26 h a ha).trans (fr a ha)
/-! MoodFareModel.isStreetTold -/
def fb_X7_isStreetTold_5 (n : Nat) (kh5 : Int → Int → Int → Int → am_Mem → Option (Int × am_Mem)) (x1 : Int) (x2 : Int) (x3 : Int) (x4 : Int) (σ : am_Mem) : Option (Int × am_Mem) :=
  if x4 < σ 82 25 then (if x3 = 0 then (if (0 : Int) ≤ am_w (26 + (am_w (2 * x4))) ∧ am_w (26 + (am_w (2 * x4))) < 42 then if σ 82 (am_w (26 + (am_w (2 * x4)))) = x1 then (if (0 : Int) ≤ am_w ((am_w (26 + (am_w (2 * x4)))) + 1) ∧ am_w ((am_w (26 + (am_w (2 * x4)))) + 1) < 42 then if σ 82 (am_w ((am_w (26 + (am_w (2 * x4)))) + 1)) = x2 then (kh5 x1 x2 1 (am_w (x4 + 1)) σ) else (kh5 x1 x2 0 (am_w (x4 + 1)) σ) else none) else (kh5 x1 x2 0 (am_w (x4 + 1)) σ) else none) else (kh5 x1 x2 1 (am_w (x4 + 1)) σ)) else (if x3 = 0 ∨ x3 = 1 then some (x3, σ) else none)
def fl_X7_isStreetTold_5 (n : Nat) : Nat → Int → Int → Int → Int → am_Mem → Option (Int × am_Mem)
  | 0, _, _, _, _, _ => none
  | m + 1, x1, x2, x3, x4, σ => fb_X7_isStreetTold_5 n (fun yx1 yx2 yx3 yx4 σ => fl_X7_isStreetTold_5 n m yx1 yx2 yx3 yx4 σ) x1 x2 x3 x4 σ
def f_X7_isStreetTold (n : Nat) (p1 : Int) (p2 : Int) (σ : am_Mem) : Option (Int × am_Mem) :=
  fl_X7_isStreetTold_5 n n p1 p2 0 0 σ
theorem tb_X7_isStreetTold_5 {L n d : Nat} {Q : am_Post} {kh5 : Int → Int → Int → Int → am_Mem → Option (Int × am_Mem)} {x1 : Int} {x2 : Int} {x3 : Int} {x4 : Int} {σ σr : am_Mem} {rr : Int} (hd : 0 ≤ d) (hk5 : ∀ (y1 : Int) (y2 : Int) (y3 : Int) (y4 : Int) (σ : am_Mem), kh5 y1 y2 y3 y4 σ = some (rr, σr) → xs_AW (xs_aw d) me_X7_isStreetTold Q 5 [some (am_r 75), some (am_i y1), some (am_i y2), some (am_i y3), some (am_i y4)] [] (rm_h L σ)) (hQ : Q (some (am_i rr)) (rm_h L σr)) (h : fb_X7_isStreetTold_5 n kh5 x1 x2 x3 x4 σ = some (rr, σr)) : xs_AW (xs_aw d) me_X7_isStreetTold Q 5 [some (am_r 75), some (am_i x1), some (am_i x2), some (am_i x3), some (am_i x4)] [] (rm_h L σ) := by
  unfold fb_X7_isStreetTold_5 at h
  refine rr_iload dX7_isStreetTold_5 rfl ?_
  refine rr_aload_n dX7_isStreetTold_7 rfl ?_
  refine rr_getr (t := 82) dX7_isStreetTold_8 fl_7_28 (sh_75 L) ⟨(by decide), by decide⟩ rfl rfl ?_
  refine rr_bipush dX7_isStreetTold_11 (by decide) ?_
  refine rr_iald (nz := 42) dX7_isStreetTold_13 (sh_82 L) rfl ⟨by decide, by decide⟩ ?_
  rcases ab_i h with ⟨c1, h⟩ | ⟨c1, h⟩
  · refine rr_icmp_ge_p (t := 67) dX7_isStreetTold_14 (by decide) c1 ?_
    refine rr_iload_n dX7_isStreetTold_17 rfl ?_
    rcases ab_i h with ⟨c2, h⟩ | ⟨c2, h⟩
    · refine rr_if_ne_p (t := 55) dX7_isStreetTold_18 (by decide) c2 ?_
      refine rr_aload_n dX7_isStreetTold_21 rfl ?_
      refine rr_getr (t := 82) dX7_isStreetTold_22 fl_7_28 (sh_75 L) ⟨(by decide), by decide⟩ rfl rfl ?_
      refine rr_bipush dX7_isStreetTold_25 (by decide) ?_
      refine rr_iconst dX7_isStreetTold_27 (by decide) ?_
      refine rr_iload dX7_isStreetTold_28 rfl ?_
      refine rr_imul dX7_isStreetTold_30 ?_
      refine rr_iadd dX7_isStreetTold_31 ?_
      obtain ⟨g3, h⟩ := ab_g h
      refine rr_iald (nz := 42) dX7_isStreetTold_32 (sh_82 L) rfl g3 ?_
      refine rr_iload_n dX7_isStreetTold_33 rfl ?_
      rcases ab_i h with ⟨c4, h⟩ | ⟨c4, h⟩
      · refine rr_icmp_ne_p (t := 59) dX7_isStreetTold_34 (by decide) c4 ?_
        refine rr_aload_n dX7_isStreetTold_37 rfl ?_
        refine rr_getr (t := 82) dX7_isStreetTold_38 fl_7_28 (sh_75 L) ⟨(by decide), by decide⟩ rfl rfl ?_
        refine rr_bipush dX7_isStreetTold_41 (by decide) ?_
        refine rr_iconst dX7_isStreetTold_43 (by decide) ?_
        refine rr_iload dX7_isStreetTold_44 rfl ?_
        refine rr_imul dX7_isStreetTold_46 ?_
        refine rr_iadd dX7_isStreetTold_47 ?_
        refine rr_iconst dX7_isStreetTold_48 (by decide) ?_
        refine rr_iadd dX7_isStreetTold_49 ?_
        obtain ⟨g5, h⟩ := ab_g h
        refine rr_iald (nz := 42) dX7_isStreetTold_50 (sh_82 L) rfl g5 ?_
        refine rr_iload_n dX7_isStreetTold_51 rfl ?_
        rcases ab_i h with ⟨c6, h⟩ | ⟨c6, h⟩
        · refine rr_icmp_ne_p (t := 59) dX7_isStreetTold_52 (by decide) c6 ?_
          refine rr_iconst dX7_isStreetTold_55 (by decide) ?_
          refine rr_goto (t := 60) dX7_isStreetTold_56 (by decide) ?_
          refine rr_istore_n (ls' := [some (am_r 75), some (am_i x1), some (am_i x2), some (am_i 1), some (am_i x4)]) dX7_isStreetTold_60 (Nat.le_of_ble_eq_true rfl) rfl ?_
          refine rr_iinc (ls' := [some (am_r 75), some (am_i x1), some (am_i x2), some (am_i 1), some (am_i (am_w (x4 + 1)))]) dX7_isStreetTold_61 rfl (Nat.le_of_ble_eq_true rfl) rfl ?_
          refine rr_goto (t := 5) dX7_isStreetTold_64 (by decide) ?_
          exact hk5 _ _ _ _ _ h
        · refine rr_icmp_ne_n (t := 59) dX7_isStreetTold_52 (by decide) c6 ?_
          refine rr_iconst dX7_isStreetTold_59 (by decide) ?_
          refine rr_istore_n (ls' := [some (am_r 75), some (am_i x1), some (am_i x2), some (am_i 0), some (am_i x4)]) dX7_isStreetTold_60 (Nat.le_of_ble_eq_true rfl) rfl ?_
          refine rr_iinc (ls' := [some (am_r 75), some (am_i x1), some (am_i x2), some (am_i 0), some (am_i (am_w (x4 + 1)))]) dX7_isStreetTold_61 rfl (Nat.le_of_ble_eq_true rfl) rfl ?_
          refine rr_goto (t := 5) dX7_isStreetTold_64 (by decide) ?_
          exact hk5 _ _ _ _ _ h
      · refine rr_icmp_ne_n (t := 59) dX7_isStreetTold_34 (by decide) c4 ?_
        refine rr_iconst dX7_isStreetTold_59 (by decide) ?_
        refine rr_istore_n (ls' := [some (am_r 75), some (am_i x1), some (am_i x2), some (am_i 0), some (am_i x4)]) dX7_isStreetTold_60 (Nat.le_of_ble_eq_true rfl) rfl ?_
        refine rr_iinc (ls' := [some (am_r 75), some (am_i x1), some (am_i x2), some (am_i 0), some (am_i (am_w (x4 + 1)))]) dX7_isStreetTold_61 rfl (Nat.le_of_ble_eq_true rfl) rfl ?_
        refine rr_goto (t := 5) dX7_isStreetTold_64 (by decide) ?_
        exact hk5 _ _ _ _ _ h
    · refine rr_if_ne_n (t := 55) dX7_isStreetTold_18 (by decide) c2 ?_
      refine rr_iconst dX7_isStreetTold_55 (by decide) ?_
      refine rr_goto (t := 60) dX7_isStreetTold_56 (by decide) ?_
      refine rr_istore_n (ls' := [some (am_r 75), some (am_i x1), some (am_i x2), some (am_i 1), some (am_i x4)]) dX7_isStreetTold_60 (Nat.le_of_ble_eq_true rfl) rfl ?_
      refine rr_iinc (ls' := [some (am_r 75), some (am_i x1), some (am_i x2), some (am_i 1), some (am_i (am_w (x4 + 1)))]) dX7_isStreetTold_61 rfl (Nat.le_of_ble_eq_true rfl) rfl ?_
      refine rr_goto (t := 5) dX7_isStreetTold_64 (by decide) ?_
      exact hk5 _ _ _ _ _ h
  · refine rr_icmp_ge_n (t := 67) dX7_isStreetTold_14 (by decide) c1 ?_
    refine rr_iload_n dX7_isStreetTold_67 rfl ?_
    obtain ⟨g7, h⟩ := ab_g h
    obtain ⟨rfl, rfl⟩ := ab_r2 h
    exact rr_zret dX7_isStreetTold_68 rfl g7 hQ
theorem tl_X7_isStreetTold_5 {L n d : Nat} {Q : am_Post} {σr : am_Mem} {rr : Int} (hd : 0 ≤ d) (hQ : Q (some (am_i rr)) (rm_h L σr)) : ∀ (m : Nat) (x1 : Int) (x2 : Int) (x3 : Int) (x4 : Int) (σ : am_Mem), fl_X7_isStreetTold_5 n m x1 x2 x3 x4 σ = some (rr, σr) → xs_AW (xs_aw d) me_X7_isStreetTold Q 5 [some (am_r 75), some (am_i x1), some (am_i x2), some (am_i x3), some (am_i x4)] [] (rm_h L σ) := by
  intro m
  induction m with
  | zero => intro x1 x2 x3 x4 σ h; cases h
  | succ m ih =>
    intro x1 x2 x3 x4 σ h
    exact tb_X7_isStreetTold_5 hd (fun x1 x2 x3 x4 σ h => ih x1 x2 x3 x4 σ h) hQ h
theorem t_X7_isStreetTold {L n d : Nat} {Q : am_Post} {p1 : Int} {p2 : Int} {σ σr : am_Mem} {rr : Int} (hd : 0 < d) (h : f_X7_isStreetTold n p1 p2 σ = some (rr, σr)) (hQ : Q (some (am_i rr)) (rm_h L σr)) : xs_aw d me_X7_isStreetTold [am_r 75, am_i p1, am_i p2] (rm_h L σ) Q := by
  obtain ⟨d, rfl⟩ : ∃ k, d = k + 1 := ⟨d - 1, by omega⟩
  have hd : 0 ≤ d := by omega
  unfold f_X7_isStreetTold at h
  show xs_AW (xs_aw d) me_X7_isStreetTold Q 0 [some (am_r 75), some (am_i p1), some (am_i p2), none, none] [] (rm_h L σ)
  refine rr_iconst dX7_isStreetTold_0 (by decide) ?_
  refine rr_istore_n (ls' := [some (am_r 75), some (am_i p1), some (am_i p2), some (am_i 0), none]) dX7_isStreetTold_1 (Nat.le_of_ble_eq_true rfl) rfl ?_
  refine rr_iconst dX7_isStreetTold_2 (by decide) ?_
  refine rr_istore (ls' := [some (am_r 75), some (am_i p1), some (am_i p2), some (am_i 0), some (am_i 0)]) dX7_isStreetTold_3 (Nat.le_of_ble_eq_true rfl) rfl ?_
  exact tl_X7_isStreetTold_5 hd hQ n _ _ _ _ _ h
theorem ub_X7_isStreetTold_5 {n : Nat} {kh5 : Int → Int → Int → Int → am_Mem → Option (Int × am_Mem)} {x1 : Int} {x2 : Int} {x3 : Int} {x4 : Int} {σ σr : am_Mem} {rr : Int} (hk5 : ∀ (y1 : Int) (y2 : Int) (y3 : Int) (y4 : Int) (σ : am_Mem), kh5 y1 y2 y3 y4 σ = some (rr, σr) → σr = σ) (h : fb_X7_isStreetTold_5 n kh5 x1 x2 x3 x4 σ = some (rr, σr)) : σr = σ := by
  unfold fb_X7_isStreetTold_5 at h
  have fr : σ = σ := rfl
  rcases ab_i h with ⟨c1, h⟩ | ⟨c1, h⟩
  · rcases ab_i h with ⟨c2, h⟩ | ⟨c2, h⟩
    · obtain ⟨g3, h⟩ := ab_g h
      rcases ab_i h with ⟨c4, h⟩ | ⟨c4, h⟩
      · obtain ⟨g5, h⟩ := ab_g h
        rcases ab_i h with ⟨c6, h⟩ | ⟨c6, h⟩
        · exact (hk5 _ _ _ _ _ h).trans fr
        · exact (hk5 _ _ _ _ _ h).trans fr
      · exact (hk5 _ _ _ _ _ h).trans fr
    · exact (hk5 _ _ _ _ _ h).trans fr
  · obtain ⟨g7, h⟩ := ab_g h
    obtain ⟨q1, q2⟩ := ab_r2 h
    exact q2.symm.trans fr
theorem ul_X7_isStreetTold_5 {n : Nat} {σr : am_Mem} {rr : Int} : ∀ (m : Nat) (x1 : Int) (x2 : Int) (x3 : Int) (x4 : Int) (σ : am_Mem), fl_X7_isStreetTold_5 n m x1 x2 x3 x4 σ = some (rr, σr) → σr = σ := by
  intro m
  induction m with
  | zero => intro x1 x2 x3 x4 σ h; cases h
  | succ m ih =>
    intro x1 x2 x3 x4 σ h
    exact ub_X7_isStreetTold_5 (fun x1 x2 x3 x4 σ h => ih x1 x2 x3 x4 σ h) h
theorem u_X7_isStreetTold {n : Nat} {p1 : Int} {p2 : Int} {σ σr : am_Mem} {rr : Int} (h : f_X7_isStreetTold n p1 p2 σ = some (rr, σr)) : σr = σ := by
  unfold f_X7_isStreetTold at h
  have fr : σ = σ := rfl
  exact (ul_X7_isStreetTold_5 n _ _ _ _ _ h).trans fr
/-! MoodFareModel.toFigure -/
def fb_X7_toFigure_22 (n : Nat) (x1 : Int) (σ : am_Mem) : Option (Int × am_Mem) :=
  am_b2 (f_X7_in n (σ 75 12) 0 (am_w ((σ 82 6) - 1)) σ) fun r6 σ7 => if r6 = 0 then (am_b2 (f_X7_takes n 0 2 σ7) fun r10 σ11 => some (r10, σ11)) else (if σ7 75 12 = x1 then (am_b2 (f_X7_takes n 0 2 σ7) fun r14 σ15 => some (r14, σ15)) else (am_b2 (f_X7_isStreetTold n x1 (σ7 75 12) σ7) fun r17 σ18 => if r17 = 0 then (am_b2 (f_X7_takes n 1 2 σ18) fun r21 σ22 => some (r21, σ22)) else (am_b2 (f_X7_takes n 0 2 σ18) fun r24 σ25 => some (r24, σ25))))
def f_X7_toFigure (n : Nat) (p1 : Int) (σ : am_Mem) : Option (Int × am_Mem) :=
  am_b2 (f_X7_isWell n σ) fun r2 σ3 => if r2 = 0 then (fb_X7_toFigure_22 n p1 σ3) else (if σ3 75 11 = 2 then (fb_X7_toFigure_22 n p1 σ3) else (am_b2 (f_X7_takes n 0 1 σ3) fun r28 σ29 => some (r28, σ29)))
theorem tb_X7_toFigure_22 {L n d : Nat} {Q : am_Post} {x1 : Int} {σ σr : am_Mem} {rr : Int} (hd : 3 ≤ d) (hQ : Q (some (am_i rr)) (rm_h L σr)) (h : fb_X7_toFigure_22 n x1 σ = some (rr, σr)) : xs_AW (xs_aw d) me_X7_toFigure Q 22 [some (am_r 75), some (am_i x1)] [] (rm_h L σ) := by
  unfold fb_X7_toFigure_22 at h
  refine rr_aload_n dX7_toFigure_22 rfl ?_
  refine rr_aload_n dX7_toFigure_23 rfl ?_
  refine rr_geti (kz := 12) dX7_toFigure_24 fl_7_110 (sh_75 L) ⟨(by decide), by decide⟩ rfl rfl ?_
  refine rr_iconst dX7_toFigure_27 (by decide) ?_
  refine rr_aload_n dX7_toFigure_28 rfl ?_
  refine rr_getr (t := 82) dX7_toFigure_29 fl_7_28 (sh_75 L) ⟨(by decide), by decide⟩ rfl rfl ?_
  refine rr_bipush dX7_toFigure_32 (by decide) ?_
  refine rr_iald (nz := 42) dX7_toFigure_34 (sh_82 L) rfl ⟨by decide, by decide⟩ ?_
  refine rr_iconst dX7_toFigure_35 (by decide) ?_
  refine rr_isub dX7_toFigure_36 ?_
  obtain ⟨r6, σ7, e5, h⟩ := ab_2 h
  refine rr_Si (as := [am_i (σ 75 12), am_i 0, am_i (am_w ((σ 82 6) - 1))]) (rest := [am_r 75]) dX7_toFigure_37 ml_7_71 (Or.inl rfl) rfl rfl (Nat.le_of_ble_eq_true rfl) ⟨rfl, rfl⟩ (Nat.le_of_ble_eq_true rfl) (fun _ k => t_X7_in (by omega) e5 k) ?_
  rcases ab_i h with ⟨c8, h⟩ | ⟨c8, h⟩
  · refine rr_if_eq_p (t := 67) dX7_toFigure_40 (by decide) c8 ?_
    refine rr_iconst dX7_toFigure_67 (by decide) ?_
    refine rr_iconst dX7_toFigure_68 (by decide) ?_
    obtain ⟨r10, σ11, e9, h⟩ := ab_2 h
    refine rr_Vi (as := [am_i 0, am_i 2]) (rest := []) dX7_toFigure_69 ml_7_129 (sh_75 L) ⟨(by decide), by decide, by decide⟩ rfl rfl rfl (Nat.le_of_ble_eq_true rfl) ⟨rfl, rfl⟩ (Nat.le_of_ble_eq_true rfl) (fun _ k => t_X7_takes (by omega) e9 k) ?_
    obtain ⟨rfl, rfl⟩ := ab_r2 h
    exact rr_iret dX7_toFigure_72 rfl hQ
  · refine rr_if_eq_n (t := 67) dX7_toFigure_40 (by decide) c8 ?_
    refine rr_aload_n dX7_toFigure_43 rfl ?_
    refine rr_geti (kz := 12) dX7_toFigure_44 fl_7_110 (sh_75 L) ⟨(by decide), by decide⟩ rfl rfl ?_
    refine rr_iload_n dX7_toFigure_47 rfl ?_
    rcases ab_i h with ⟨c12, h⟩ | ⟨c12, h⟩
    · refine rr_icmp_eq_p (t := 67) dX7_toFigure_48 (by decide) c12 ?_
      refine rr_iconst dX7_toFigure_67 (by decide) ?_
      refine rr_iconst dX7_toFigure_68 (by decide) ?_
      obtain ⟨r14, σ15, e13, h⟩ := ab_2 h
      refine rr_Vi (as := [am_i 0, am_i 2]) (rest := []) dX7_toFigure_69 ml_7_129 (sh_75 L) ⟨(by decide), by decide, by decide⟩ rfl rfl rfl (Nat.le_of_ble_eq_true rfl) ⟨rfl, rfl⟩ (Nat.le_of_ble_eq_true rfl) (fun _ k => t_X7_takes (by omega) e13 k) ?_
      obtain ⟨rfl, rfl⟩ := ab_r2 h
      exact rr_iret dX7_toFigure_72 rfl hQ
    · refine rr_icmp_eq_n (t := 67) dX7_toFigure_48 (by decide) c12 ?_
      refine rr_aload_n dX7_toFigure_51 rfl ?_
      refine rr_iload_n dX7_toFigure_52 rfl ?_
      refine rr_aload_n dX7_toFigure_53 rfl ?_
      refine rr_geti (kz := 12) dX7_toFigure_54 fl_7_110 (sh_75 L) ⟨(by decide), by decide⟩ rfl rfl ?_
      obtain ⟨r17, σ18, e16, h⟩ := ab_2 h
      refine rr_Vi (as := [am_i x1, am_i (σ7 75 12)]) (rest := [am_r 75]) dX7_toFigure_57 ml_7_142 (sh_75 L) ⟨(by decide), by decide, by decide⟩ rfl rfl rfl (Nat.le_of_ble_eq_true rfl) ⟨rfl, rfl⟩ (Nat.le_of_ble_eq_true rfl) (fun _ k => t_X7_isStreetTold (by omega) e16 k) ?_
      rcases ab_i h with ⟨c19, h⟩ | ⟨c19, h⟩
      · refine rr_if_ne_p (t := 67) dX7_toFigure_60 (by decide) c19 ?_
        refine rr_iconst dX7_toFigure_63 (by decide) ?_
        refine rr_goto (t := 68) dX7_toFigure_64 (by decide) ?_
        refine rr_iconst dX7_toFigure_68 (by decide) ?_
        obtain ⟨r21, σ22, e20, h⟩ := ab_2 h
        refine rr_Vi (as := [am_i 1, am_i 2]) (rest := []) dX7_toFigure_69 ml_7_129 (sh_75 L) ⟨(by decide), by decide, by decide⟩ rfl rfl rfl (Nat.le_of_ble_eq_true rfl) ⟨rfl, rfl⟩ (Nat.le_of_ble_eq_true rfl) (fun _ k => t_X7_takes (by omega) e20 k) ?_
        obtain ⟨rfl, rfl⟩ := ab_r2 h
        exact rr_iret dX7_toFigure_72 rfl hQ
      · refine rr_if_ne_n (t := 67) dX7_toFigure_60 (by decide) c19 ?_
        refine rr_iconst dX7_toFigure_67 (by decide) ?_
        refine rr_iconst dX7_toFigure_68 (by decide) ?_
        obtain ⟨r24, σ25, e23, h⟩ := ab_2 h
        refine rr_Vi (as := [am_i 0, am_i 2]) (rest := []) dX7_toFigure_69 ml_7_129 (sh_75 L) ⟨(by decide), by decide, by decide⟩ rfl rfl rfl (Nat.le_of_ble_eq_true rfl) ⟨rfl, rfl⟩ (Nat.le_of_ble_eq_true rfl) (fun _ k => t_X7_takes (by omega) e23 k) ?_
        obtain ⟨rfl, rfl⟩ := ab_r2 h
        exact rr_iret dX7_toFigure_72 rfl hQ
theorem t_X7_toFigure {L n d : Nat} {Q : am_Post} {p1 : Int} {σ σr : am_Mem} {rr : Int} (hd : 3 < d) (h : f_X7_toFigure n p1 σ = some (rr, σr)) (hQ : Q (some (am_i rr)) (rm_h L σr)) : xs_aw d me_X7_toFigure [am_r 75, am_i p1] (rm_h L σ) Q := by
  obtain ⟨d, rfl⟩ : ∃ k, d = k + 1 := ⟨d - 1, by omega⟩
  have hd : 3 ≤ d := by omega
  unfold f_X7_toFigure at h
  show xs_AW (xs_aw d) me_X7_toFigure Q 0 [some (am_r 75), some (am_i p1)] [] (rm_h L σ)
  refine rr_aload_n dX7_toFigure_0 rfl ?_
  obtain ⟨r2, σ3, e1, h⟩ := ab_2 h
  refine rr_Vi (as := []) (rest := []) dX7_toFigure_1 ml_7_119 (sh_75 L) ⟨(by decide), by decide, by decide⟩ rfl rfl rfl (Nat.le_of_ble_eq_true rfl) ⟨rfl, rfl⟩ (Nat.le_of_ble_eq_true rfl) (fun _ k => t_X7_isWell (by omega) e1 k) ?_
  rcases ab_i h with ⟨c4, h⟩ | ⟨c4, h⟩
  · refine rr_if_eq_p (t := 22) dX7_toFigure_4 (by decide) c4 ?_
    exact tb_X7_toFigure_22 hd hQ h
  · refine rr_if_eq_n (t := 22) dX7_toFigure_4 (by decide) c4 ?_
    refine rr_aload_n dX7_toFigure_7 rfl ?_
    refine rr_geti (kz := 11) dX7_toFigure_8 fl_7_113 (sh_75 L) ⟨(by decide), by decide⟩ rfl rfl ?_
    refine rr_iconst dX7_toFigure_11 (by decide) ?_
    rcases ab_i h with ⟨c26, h⟩ | ⟨c26, h⟩
    · refine rr_icmp_eq_p (t := 22) dX7_toFigure_12 (by decide) c26 ?_
      exact tb_X7_toFigure_22 hd hQ h
    · refine rr_icmp_eq_n (t := 22) dX7_toFigure_12 (by decide) c26 ?_
      refine rr_aload_n dX7_toFigure_15 rfl ?_
      refine rr_iconst dX7_toFigure_16 (by decide) ?_
      refine rr_iconst dX7_toFigure_17 (by decide) ?_
      obtain ⟨r28, σ29, e27, h⟩ := ab_2 h
      refine rr_Vi (as := [am_i 0, am_i 1]) (rest := []) dX7_toFigure_18 ml_7_129 (sh_75 L) ⟨(by decide), by decide, by decide⟩ rfl rfl rfl (Nat.le_of_ble_eq_true rfl) ⟨rfl, rfl⟩ (Nat.le_of_ble_eq_true rfl) (fun _ k => t_X7_takes (by omega) e27 k) ?_
      obtain ⟨rfl, rfl⟩ := ab_r2 h
      exact rr_iret dX7_toFigure_21 rfl hQ
def nw_X7_toFigure (a : Nat) : Prop := a ≠ 75
theorem wb_X7_toFigure_22 {n : Nat} {x1 : Int} {σ σr : am_Mem} {rr : Int} (h : fb_X7_toFigure_22 n x1 σ = some (rr, σr)) : ∀ a : Nat, nw_X7_toFigure a → σr a = σ a := by
  unfold fb_X7_toFigure_22 at h
  have fr : ∀ a : Nat, nw_X7_toFigure a → σ a = σ a := fun _ _ => rfl
  obtain ⟨r6, σ7, e5, h⟩ := ab_2 h
  have fr := fun (a : Nat) (ha : nw_X7_toFigure a) => (congrFun (u_X7_in e5) a).trans (fr a ha)
  rcases ab_i h with ⟨c8, h⟩ | ⟨c8, h⟩
  · obtain ⟨r10, σ11, e9, h⟩ := ab_2 h
    have fr := fun (a : Nat) (ha : nw_X7_toFigure a) => (w_X7_takes e9 a (by unfold nw_X7_toFigure at ha; unfold nw_X7_takes; omega)).trans (fr a ha)
    obtain ⟨q1, q2⟩ := ab_r2 h
    exact fun a ha => (congrFun q2.symm a).trans (fr a ha)
  · rcases ab_i h with ⟨c12, h⟩ | ⟨c12, h⟩
    · obtain ⟨r14, σ15, e13, h⟩ := ab_2 h
      have fr := fun (a : Nat) (ha : nw_X7_toFigure a) => (w_X7_takes e13 a (by unfold nw_X7_toFigure at ha; unfold nw_X7_takes; omega)).trans (fr a ha)
      obtain ⟨q1, q2⟩ := ab_r2 h
      exact fun a ha => (congrFun q2.symm a).trans (fr a ha)
    · obtain ⟨r17, σ18, e16, h⟩ := ab_2 h
      have fr := fun (a : Nat) (ha : nw_X7_toFigure a) => (congrFun (u_X7_isStreetTold e16) a).trans (fr a ha)
      rcases ab_i h with ⟨c19, h⟩ | ⟨c19, h⟩
      · obtain ⟨r21, σ22, e20, h⟩ := ab_2 h
        have fr := fun (a : Nat) (ha : nw_X7_toFigure a) => (w_X7_takes e20 a (by unfold nw_X7_toFigure at ha; unfold nw_X7_takes; omega)).trans (fr a ha)
        obtain ⟨q1, q2⟩ := ab_r2 h
        exact fun a ha => (congrFun q2.symm a).trans (fr a ha)
      · obtain ⟨r24, σ25, e23, h⟩ := ab_2 h
        have fr := fun (a : Nat) (ha : nw_X7_toFigure a) => (w_X7_takes e23 a (by unfold nw_X7_toFigure at ha; unfold nw_X7_takes; omega)).trans (fr a ha)
        obtain ⟨q1, q2⟩ := ab_r2 h
        exact fun a ha => (congrFun q2.symm a).trans (fr a ha)
theorem w_X7_toFigure {n : Nat} {p1 : Int} {σ σr : am_Mem} {rr : Int} (h : f_X7_toFigure n p1 σ = some (rr, σr)) : ∀ a : Nat, nw_X7_toFigure a → σr a = σ a := by
  unfold f_X7_toFigure at h
  have fr : ∀ a : Nat, nw_X7_toFigure a → σ a = σ a := fun _ _ => rfl
  obtain ⟨r2, σ3, e1, h⟩ := ab_2 h
  have fr := fun (a : Nat) (ha : nw_X7_toFigure a) => (congrFun (u_X7_isWell e1) a).trans (fr a ha)
  rcases ab_i h with ⟨c4, h⟩ | ⟨c4, h⟩
  · exact fun a ha => (wb_X7_toFigure_22 h a ha).trans (fr a ha)
  · rcases ab_i h with ⟨c26, h⟩ | ⟨c26, h⟩
    · exact fun a ha => (wb_X7_toFigure_22 h a ha).trans (fr a ha)
    · obtain ⟨r28, σ29, e27, h⟩ := ab_2 h
      have fr := fun (a : Nat) (ha : nw_X7_toFigure a) => (w_X7_takes e27 a (by unfold nw_X7_toFigure at ha; unfold nw_X7_takes; omega)).trans (fr a ha)
      obtain ⟨q1, q2⟩ := ab_r2 h
      exact fun a ha => (congrFun q2.symm a).trans (fr a ha)
/-! MoodFareModel.readsStreet -/
def fb_X7_readsStreet_106 (n : Nat) (x1 : Int) (x2 : Int) (x3 : Int) (s0 : Int) (σ : am_Mem) : Option am_Mem :=
  am_b2 (f_X7_takes n s0 1 σ) fun r18 σ19 => am_b2 (f_X7_isWell n σ19) fun r21 σ22 => if r21 = 0 then (some σ22) else (if (0 : Int) ≤ x1 ∧ x1 < 42 then am_b1 (some (am_up σ22 82 x1 x2)) fun σ25 => if (0 : Int) ≤ am_w (x1 + 1) ∧ am_w (x1 + 1) < 42 then am_b1 (some (am_up σ25 82 (am_w (x1 + 1)) x3)) fun σ28 => am_b1 (some (am_up σ28 82 5 (am_or (σ28 82 5) (am_shl 1 (σ28 82 25))))) fun σ30 => am_b1 (some (am_up σ30 82 25 (am_w ((σ30 82 25) + 1)))) fun σ32 => some σ32 else none else none)
def fb_X7_readsStreet_81 (n : Nat) (x1 : Int) (x2 : Int) (s0 : Int) (σ : am_Mem) : Option am_Mem :=
  am_b2 (f_X7_takes n s0 1 σ) fun r11 σ12 => am_b2 (f_X7_toFigure n x2 σ12) fun r14 σ15 => if σ15 75 11 = 4 then (fb_X7_readsStreet_106 n x1 x2 r14 1 σ15) else (fb_X7_readsStreet_106 n x1 x2 r14 0 σ15)
def fb_X7_readsStreet_49 (n : Nat) (s0 : Int) (s1 : Int) (s2 : Int) (σ : am_Mem) : Option am_Mem :=
  am_b2 (f_X7_figure n 0 (am_w ((σ 82 6) - 1)) σ) fun r7 σ8 => if σ8 75 11 = 3 then (fb_X7_readsStreet_81 n (am_w (s2 + (am_w (s1 * s0)))) r7 1 σ8) else (fb_X7_readsStreet_81 n (am_w (s2 + (am_w (s1 * s0)))) r7 0 σ8)
def fb_X7_readsStreet_18 (n : Nat) (s0 : Int) (σ : am_Mem) : Option am_Mem :=
  am_b2 (f_X7_takes n s0 3 σ) fun r3 σ4 => if σ4 82 25 < 8 then (fb_X7_readsStreet_49 n (σ4 82 25) 2 26 σ4) else (fb_X7_readsStreet_49 n 0 2 26 σ4)
def f_X7_readsStreet (n : Nat) (σ : am_Mem) : Option am_Mem :=
  if σ 82 25 < 8 then (fb_X7_readsStreet_18 n 1 σ) else (fb_X7_readsStreet_18 n 0 σ)
theorem tb_X7_readsStreet_106 {L n d : Nat} {Q : am_Post} {x1 : Int} {x2 : Int} {x3 : Int} {s0 : Int} {σ σr : am_Mem} (hd : 4 ≤ d) (hQ : Q none (rm_h L σr)) (h : fb_X7_readsStreet_106 n x1 x2 x3 s0 σ = some σr) : xs_AW (xs_aw d) me_X7_readsStreet Q 106 [some (am_r 75), some (am_i x1), some (am_i x2), some (am_i x3)] [am_i s0, am_r 75] (rm_h L σ) := by
  unfold fb_X7_readsStreet_106 at h
  refine rr_iconst dX7_readsStreet_106 (by decide) ?_
  obtain ⟨r18, σ19, e17, h⟩ := ab_2 h
  refine rr_Vi (as := [am_i s0, am_i 1]) (rest := []) dX7_readsStreet_107 ml_7_129 (sh_75 L) ⟨(by decide), by decide, by decide⟩ rfl rfl rfl (Nat.le_of_ble_eq_true rfl) ⟨rfl, rfl⟩ (Nat.le_of_ble_eq_true rfl) (fun _ k => t_X7_takes (by omega) e17 k) ?_
  refine rr_pop dX7_readsStreet_110 rfl ?_
  refine rr_aload_n dX7_readsStreet_111 rfl ?_
  obtain ⟨r21, σ22, e20, h⟩ := ab_2 h
  refine rr_Vi (as := []) (rest := []) dX7_readsStreet_112 ml_7_119 (sh_75 L) ⟨(by decide), by decide, by decide⟩ rfl rfl rfl (Nat.le_of_ble_eq_true rfl) ⟨rfl, rfl⟩ (Nat.le_of_ble_eq_true rfl) (fun _ k => t_X7_isWell (by omega) e20 k) ?_
  rcases ab_i h with ⟨c23, h⟩ | ⟨c23, h⟩
  · refine rr_if_eq_p (t := 163) dX7_readsStreet_115 (by decide) c23 ?_
    obtain rfl := ab_r1 h
    exact rr_vret dX7_readsStreet_163 rfl hQ
  · refine rr_if_eq_n (t := 163) dX7_readsStreet_115 (by decide) c23 ?_
    refine rr_aload_n dX7_readsStreet_118 rfl ?_
    refine rr_getr (t := 82) dX7_readsStreet_119 fl_7_28 (sh_75 L) ⟨(by decide), by decide⟩ rfl rfl ?_
    refine rr_iload_n dX7_readsStreet_122 rfl ?_
    refine rr_iload_n dX7_readsStreet_123 rfl ?_
    obtain ⟨g24, h⟩ := ab_g h
    refine rr_iast (nz := 42) dX7_readsStreet_124 (sh_82 L) (by decide) rfl g24 ?_
    obtain ⟨σ25, e26, h⟩ := ab_1 h
    refine ab_m e26 ?_
    refine rr_aload_n dX7_readsStreet_125 rfl ?_
    refine rr_getr (t := 82) dX7_readsStreet_126 fl_7_28 (sh_75 L) ⟨(by decide), by decide⟩ rfl rfl ?_
    refine rr_iload_n dX7_readsStreet_129 rfl ?_
    refine rr_iconst dX7_readsStreet_130 (by decide) ?_
    refine rr_iadd dX7_readsStreet_131 ?_
    refine rr_iload_n dX7_readsStreet_132 rfl ?_
    obtain ⟨g27, h⟩ := ab_g h
    refine rr_iast (nz := 42) dX7_readsStreet_133 (sh_82 L) (by decide) rfl g27 ?_
    obtain ⟨σ28, e29, h⟩ := ab_1 h
    refine ab_m e29 ?_
    refine rr_aload_n dX7_readsStreet_134 rfl ?_
    refine rr_getr (t := 82) dX7_readsStreet_135 fl_7_28 (sh_75 L) ⟨(by decide), by decide⟩ rfl rfl ?_
    refine rr_iconst dX7_readsStreet_138 (by decide) ?_
    refine rr_dup2 dX7_readsStreet_139 rfl rfl ?_
    refine rr_iald (nz := 42) dX7_readsStreet_140 (sh_82 L) rfl ⟨by decide, by decide⟩ ?_
    refine rr_iconst dX7_readsStreet_141 (by decide) ?_
    refine rr_aload_n dX7_readsStreet_142 rfl ?_
    refine rr_getr (t := 82) dX7_readsStreet_143 fl_7_28 (sh_75 L) ⟨(by decide), by decide⟩ rfl rfl ?_
    refine rr_bipush dX7_readsStreet_146 (by decide) ?_
    refine rr_iald (nz := 42) dX7_readsStreet_148 (sh_82 L) rfl ⟨by decide, by decide⟩ ?_
    refine rr_ishl dX7_readsStreet_149 ?_
    refine rr_ior dX7_readsStreet_150 ?_
    refine rr_iast (nz := 42) dX7_readsStreet_151 (sh_82 L) (by decide) rfl ⟨by decide, by decide⟩ ?_
    obtain ⟨σ30, e31, h⟩ := ab_1 h
    refine ab_m e31 ?_
    refine rr_aload_n dX7_readsStreet_152 rfl ?_
    refine rr_getr (t := 82) dX7_readsStreet_153 fl_7_28 (sh_75 L) ⟨(by decide), by decide⟩ rfl rfl ?_
    refine rr_bipush dX7_readsStreet_156 (by decide) ?_
    refine rr_dup2 dX7_readsStreet_158 rfl rfl ?_
    refine rr_iald (nz := 42) dX7_readsStreet_159 (sh_82 L) rfl ⟨by decide, by decide⟩ ?_
    refine rr_iconst dX7_readsStreet_160 (by decide) ?_
    refine rr_iadd dX7_readsStreet_161 ?_
    refine rr_iast (nz := 42) dX7_readsStreet_162 (sh_82 L) (by decide) rfl ⟨by decide, by decide⟩ ?_
    obtain ⟨σ32, e33, h⟩ := ab_1 h
    refine ab_m e33 ?_
    obtain rfl := ab_r1 h
    exact rr_vret dX7_readsStreet_163 rfl hQ
theorem tb_X7_readsStreet_81 {L n d : Nat} {Q : am_Post} {x1 : Int} {x2 : Int} {s0 : Int} {o3 : Option am_V} {σ σr : am_Mem} (hd : 4 ≤ d) (hQ : Q none (rm_h L σr)) (h : fb_X7_readsStreet_81 n x1 x2 s0 σ = some σr) : xs_AW (xs_aw d) me_X7_readsStreet Q 81 [some (am_r 75), some (am_i x1), some (am_i x2), o3] [am_i s0, am_r 75] (rm_h L σ) := by
  unfold fb_X7_readsStreet_81 at h
  refine rr_iconst dX7_readsStreet_81 (by decide) ?_
  obtain ⟨r11, σ12, e10, h⟩ := ab_2 h
  refine rr_Vi (as := [am_i s0, am_i 1]) (rest := []) dX7_readsStreet_82 ml_7_129 (sh_75 L) ⟨(by decide), by decide, by decide⟩ rfl rfl rfl (Nat.le_of_ble_eq_true rfl) ⟨rfl, rfl⟩ (Nat.le_of_ble_eq_true rfl) (fun _ k => t_X7_takes (by omega) e10 k) ?_
  refine rr_pop dX7_readsStreet_85 rfl ?_
  refine rr_aload_n dX7_readsStreet_86 rfl ?_
  refine rr_iload_n dX7_readsStreet_87 rfl ?_
  obtain ⟨r14, σ15, e13, h⟩ := ab_2 h
  refine rr_Vi (as := [am_i x2]) (rest := []) dX7_readsStreet_88 ml_7_146 (sh_75 L) ⟨(by decide), by decide, by decide⟩ rfl rfl rfl (Nat.le_of_ble_eq_true rfl) ⟨rfl, rfl⟩ (Nat.le_of_ble_eq_true rfl) (fun _ k => t_X7_toFigure (by omega) e13 k) ?_
  refine rr_istore_n (ls' := [some (am_r 75), some (am_i x1), some (am_i x2), some (am_i r14)]) dX7_readsStreet_91 (Nat.le_of_ble_eq_true rfl) rfl ?_
  refine rr_aload_n dX7_readsStreet_92 rfl ?_
  refine rr_aload_n dX7_readsStreet_93 rfl ?_
  refine rr_geti (kz := 11) dX7_readsStreet_94 fl_7_113 (sh_75 L) ⟨(by decide), by decide⟩ rfl rfl ?_
  refine rr_iconst dX7_readsStreet_97 (by decide) ?_
  rcases ab_i h with ⟨c16, h⟩ | ⟨c16, h⟩
  · refine rr_icmp_ne_p (t := 105) dX7_readsStreet_98 (by decide) c16 ?_
    refine rr_iconst dX7_readsStreet_101 (by decide) ?_
    refine rr_goto (t := 106) dX7_readsStreet_102 (by decide) ?_
    exact tb_X7_readsStreet_106 hd hQ h
  · refine rr_icmp_ne_n (t := 105) dX7_readsStreet_98 (by decide) c16 ?_
    refine rr_iconst dX7_readsStreet_105 (by decide) ?_
    exact tb_X7_readsStreet_106 hd hQ h
theorem tb_X7_readsStreet_49 {L n d : Nat} {Q : am_Post} {s0 : Int} {s1 : Int} {s2 : Int} {o1 : Option am_V} {o2 : Option am_V} {o3 : Option am_V} {σ σr : am_Mem} (hd : 4 ≤ d) (hQ : Q none (rm_h L σr)) (h : fb_X7_readsStreet_49 n s0 s1 s2 σ = some σr) : xs_AW (xs_aw d) me_X7_readsStreet Q 49 [some (am_r 75), o1, o2, o3] [am_i s0, am_i s1, am_i s2] (rm_h L σ) := by
  unfold fb_X7_readsStreet_49 at h
  refine rr_imul dX7_readsStreet_49 ?_
  refine rr_iadd dX7_readsStreet_50 ?_
  refine rr_istore_n (ls' := [some (am_r 75), some (am_i (am_w (s2 + (am_w (s1 * s0))))), o2, o3]) dX7_readsStreet_51 (Nat.le_of_ble_eq_true rfl) rfl ?_
  refine rr_aload_n dX7_readsStreet_52 rfl ?_
  refine rr_iconst dX7_readsStreet_53 (by decide) ?_
  refine rr_aload_n dX7_readsStreet_54 rfl ?_
  refine rr_getr (t := 82) dX7_readsStreet_55 fl_7_28 (sh_75 L) ⟨(by decide), by decide⟩ rfl rfl ?_
  refine rr_bipush dX7_readsStreet_58 (by decide) ?_
  refine rr_iald (nz := 42) dX7_readsStreet_60 (sh_82 L) rfl ⟨by decide, by decide⟩ ?_
  refine rr_iconst dX7_readsStreet_61 (by decide) ?_
  refine rr_isub dX7_readsStreet_62 ?_
  obtain ⟨r7, σ8, e6, h⟩ := ab_2 h
  refine rr_Vi (as := [am_i 0, am_i (am_w ((σ 82 6) - 1))]) (rest := []) dX7_readsStreet_63 ml_7_133 (sh_75 L) ⟨(by decide), by decide, by decide⟩ rfl rfl rfl (Nat.le_of_ble_eq_true rfl) ⟨rfl, rfl⟩ (Nat.le_of_ble_eq_true rfl) (fun _ k => t_X7_figure (by omega) e6 k) ?_
  refine rr_istore_n (ls' := [some (am_r 75), some (am_i (am_w (s2 + (am_w (s1 * s0))))), some (am_i r7), o3]) dX7_readsStreet_66 (Nat.le_of_ble_eq_true rfl) rfl ?_
  refine rr_aload_n dX7_readsStreet_67 rfl ?_
  refine rr_aload_n dX7_readsStreet_68 rfl ?_
  refine rr_geti (kz := 11) dX7_readsStreet_69 fl_7_113 (sh_75 L) ⟨(by decide), by decide⟩ rfl rfl ?_
  refine rr_iconst dX7_readsStreet_72 (by decide) ?_
  rcases ab_i h with ⟨c9, h⟩ | ⟨c9, h⟩
  · refine rr_icmp_ne_p (t := 80) dX7_readsStreet_73 (by decide) c9 ?_
    refine rr_iconst dX7_readsStreet_76 (by decide) ?_
    refine rr_goto (t := 81) dX7_readsStreet_77 (by decide) ?_
    exact tb_X7_readsStreet_81 hd hQ h
  · refine rr_icmp_ne_n (t := 80) dX7_readsStreet_73 (by decide) c9 ?_
    refine rr_iconst dX7_readsStreet_80 (by decide) ?_
    exact tb_X7_readsStreet_81 hd hQ h
theorem tb_X7_readsStreet_18 {L n d : Nat} {Q : am_Post} {s0 : Int} {o1 : Option am_V} {o2 : Option am_V} {o3 : Option am_V} {σ σr : am_Mem} (hd : 4 ≤ d) (hQ : Q none (rm_h L σr)) (h : fb_X7_readsStreet_18 n s0 σ = some σr) : xs_AW (xs_aw d) me_X7_readsStreet Q 18 [some (am_r 75), o1, o2, o3] [am_i s0, am_r 75] (rm_h L σ) := by
  unfold fb_X7_readsStreet_18 at h
  refine rr_iconst dX7_readsStreet_18 (by decide) ?_
  obtain ⟨r3, σ4, e2, h⟩ := ab_2 h
  refine rr_Vi (as := [am_i s0, am_i 3]) (rest := []) dX7_readsStreet_19 ml_7_129 (sh_75 L) ⟨(by decide), by decide, by decide⟩ rfl rfl rfl (Nat.le_of_ble_eq_true rfl) ⟨rfl, rfl⟩ (Nat.le_of_ble_eq_true rfl) (fun _ k => t_X7_takes (by omega) e2 k) ?_
  refine rr_pop dX7_readsStreet_22 rfl ?_
  refine rr_bipush dX7_readsStreet_23 (by decide) ?_
  refine rr_iconst dX7_readsStreet_25 (by decide) ?_
  refine rr_aload_n dX7_readsStreet_26 rfl ?_
  refine rr_getr (t := 82) dX7_readsStreet_27 fl_7_28 (sh_75 L) ⟨(by decide), by decide⟩ rfl rfl ?_
  refine rr_bipush dX7_readsStreet_30 (by decide) ?_
  refine rr_iald (nz := 42) dX7_readsStreet_32 (sh_82 L) rfl ⟨by decide, by decide⟩ ?_
  refine rr_bipush dX7_readsStreet_33 (by decide) ?_
  rcases ab_i h with ⟨c5, h⟩ | ⟨c5, h⟩
  · refine rr_icmp_ge_p (t := 48) dX7_readsStreet_35 (by decide) c5 ?_
    refine rr_aload_n dX7_readsStreet_38 rfl ?_
    refine rr_getr (t := 82) dX7_readsStreet_39 fl_7_28 (sh_75 L) ⟨(by decide), by decide⟩ rfl rfl ?_
    refine rr_bipush dX7_readsStreet_42 (by decide) ?_
    refine rr_iald (nz := 42) dX7_readsStreet_44 (sh_82 L) rfl ⟨by decide, by decide⟩ ?_
    refine rr_goto (t := 49) dX7_readsStreet_45 (by decide) ?_
    exact tb_X7_readsStreet_49 hd hQ h
  · refine rr_icmp_ge_n (t := 48) dX7_readsStreet_35 (by decide) c5 ?_
    refine rr_iconst dX7_readsStreet_48 (by decide) ?_
    exact tb_X7_readsStreet_49 hd hQ h
theorem t_X7_readsStreet {L n d : Nat} {Q : am_Post} {σ σr : am_Mem} (hd : 4 < d) (h : f_X7_readsStreet n σ = some σr) (hQ : Q none (rm_h L σr)) : xs_aw d me_X7_readsStreet [am_r 75] (rm_h L σ) Q := by
  obtain ⟨d, rfl⟩ : ∃ k, d = k + 1 := ⟨d - 1, by omega⟩
  have hd : 4 ≤ d := by omega
  unfold f_X7_readsStreet at h
  show xs_AW (xs_aw d) me_X7_readsStreet Q 0 [some (am_r 75), none, none, none] [] (rm_h L σ)
  refine rr_aload_n dX7_readsStreet_0 rfl ?_
  refine rr_aload_n dX7_readsStreet_1 rfl ?_
  refine rr_getr (t := 82) dX7_readsStreet_2 fl_7_28 (sh_75 L) ⟨(by decide), by decide⟩ rfl rfl ?_
  refine rr_bipush dX7_readsStreet_5 (by decide) ?_
  refine rr_iald (nz := 42) dX7_readsStreet_7 (sh_82 L) rfl ⟨by decide, by decide⟩ ?_
  refine rr_bipush dX7_readsStreet_8 (by decide) ?_
  rcases ab_i h with ⟨c1, h⟩ | ⟨c1, h⟩
  · refine rr_icmp_ge_p (t := 17) dX7_readsStreet_10 (by decide) c1 ?_
    refine rr_iconst dX7_readsStreet_13 (by decide) ?_
    refine rr_goto (t := 18) dX7_readsStreet_14 (by decide) ?_
    exact tb_X7_readsStreet_18 hd hQ h
  · refine rr_icmp_ge_n (t := 17) dX7_readsStreet_10 (by decide) c1 ?_
    refine rr_iconst dX7_readsStreet_17 (by decide) ?_
    exact tb_X7_readsStreet_18 hd hQ h
def nw_X7_readsStreet (a : Nat) : Prop := a ≠ 75 ∧ a ≠ 82
theorem wb_X7_readsStreet_106 {n : Nat} {x1 : Int} {x2 : Int} {x3 : Int} {s0 : Int} {σ σr : am_Mem} (h : fb_X7_readsStreet_106 n x1 x2 x3 s0 σ = some σr) : ∀ a : Nat, nw_X7_readsStreet a → σr a = σ a := by
  unfold fb_X7_readsStreet_106 at h
  have fr : ∀ a : Nat, nw_X7_readsStreet a → σ a = σ a := fun _ _ => rfl
  obtain ⟨r18, σ19, e17, h⟩ := ab_2 h
  have fr := fun (a : Nat) (ha : nw_X7_readsStreet a) => (w_X7_takes e17 a (by unfold nw_X7_readsStreet at ha; unfold nw_X7_takes; omega)).trans (fr a ha)
  obtain ⟨r21, σ22, e20, h⟩ := ab_2 h
  have fr := fun (a : Nat) (ha : nw_X7_readsStreet a) => (congrFun (u_X7_isWell e20) a).trans (fr a ha)
  rcases ab_i h with ⟨c23, h⟩ | ⟨c23, h⟩
  · have q2 := ab_r1 h
    exact fun a ha => (congrFun q2.symm a).trans (fr a ha)
  · obtain ⟨g24, h⟩ := ab_g h
    obtain ⟨σ25, e26, h⟩ := ab_1 h
    have fr := fun (a : Nat) (ha : nw_X7_readsStreet a) => (ab_fu e26 (show a ≠ 82 by unfold nw_X7_readsStreet at ha; omega)).trans (fr a ha)
    obtain ⟨g27, h⟩ := ab_g h
    obtain ⟨σ28, e29, h⟩ := ab_1 h
    have fr := fun (a : Nat) (ha : nw_X7_readsStreet a) => (ab_fu e29 (show a ≠ 82 by unfold nw_X7_readsStreet at ha; omega)).trans (fr a ha)
    obtain ⟨σ30, e31, h⟩ := ab_1 h
    have fr := fun (a : Nat) (ha : nw_X7_readsStreet a) => (ab_fu e31 (show a ≠ 82 by unfold nw_X7_readsStreet at ha; omega)).trans (fr a ha)
    obtain ⟨σ32, e33, h⟩ := ab_1 h
    have fr := fun (a : Nat) (ha : nw_X7_readsStreet a) => (ab_fu e33 (show a ≠ 82 by unfold nw_X7_readsStreet at ha; omega)).trans (fr a ha)
    have q2 := ab_r1 h
    exact fun a ha => (congrFun q2.symm a).trans (fr a ha)
theorem wb_X7_readsStreet_81 {n : Nat} {x1 : Int} {x2 : Int} {s0 : Int} {σ σr : am_Mem} (h : fb_X7_readsStreet_81 n x1 x2 s0 σ = some σr) : ∀ a : Nat, nw_X7_readsStreet a → σr a = σ a := by
  unfold fb_X7_readsStreet_81 at h
  have fr : ∀ a : Nat, nw_X7_readsStreet a → σ a = σ a := fun _ _ => rfl
  obtain ⟨r11, σ12, e10, h⟩ := ab_2 h
  have fr := fun (a : Nat) (ha : nw_X7_readsStreet a) => (w_X7_takes e10 a (by unfold nw_X7_readsStreet at ha; unfold nw_X7_takes; omega)).trans (fr a ha)
  obtain ⟨r14, σ15, e13, h⟩ := ab_2 h
  have fr := fun (a : Nat) (ha : nw_X7_readsStreet a) => (w_X7_toFigure e13 a (by unfold nw_X7_readsStreet at ha; unfold nw_X7_toFigure; omega)).trans (fr a ha)
  rcases ab_i h with ⟨c16, h⟩ | ⟨c16, h⟩
  · exact fun a ha => (wb_X7_readsStreet_106 h a ha).trans (fr a ha)
  · exact fun a ha => (wb_X7_readsStreet_106 h a ha).trans (fr a ha)
theorem wb_X7_readsStreet_49 {n : Nat} {s0 : Int} {s1 : Int} {s2 : Int} {σ σr : am_Mem} (h : fb_X7_readsStreet_49 n s0 s1 s2 σ = some σr) : ∀ a : Nat, nw_X7_readsStreet a → σr a = σ a := by
  unfold fb_X7_readsStreet_49 at h
  have fr : ∀ a : Nat, nw_X7_readsStreet a → σ a = σ a := fun _ _ => rfl
  obtain ⟨r7, σ8, e6, h⟩ := ab_2 h
  have fr := fun (a : Nat) (ha : nw_X7_readsStreet a) => (w_X7_figure e6 a (by unfold nw_X7_readsStreet at ha; unfold nw_X7_figure; omega)).trans (fr a ha)
  rcases ab_i h with ⟨c9, h⟩ | ⟨c9, h⟩
  · exact fun a ha => (wb_X7_readsStreet_81 h a ha).trans (fr a ha)
  · exact fun a ha => (wb_X7_readsStreet_81 h a ha).trans (fr a ha)
theorem wb_X7_readsStreet_18 {n : Nat} {s0 : Int} {σ σr : am_Mem} (h : fb_X7_readsStreet_18 n s0 σ = some σr) : ∀ a : Nat, nw_X7_readsStreet a → σr a = σ a := by
  unfold fb_X7_readsStreet_18 at h
  have fr : ∀ a : Nat, nw_X7_readsStreet a → σ a = σ a := fun _ _ => rfl
  obtain ⟨r3, σ4, e2, h⟩ := ab_2 h
  have fr := fun (a : Nat) (ha : nw_X7_readsStreet a) => (w_X7_takes e2 a (by unfold nw_X7_readsStreet at ha; unfold nw_X7_takes; omega)).trans (fr a ha)
  rcases ab_i h with ⟨c5, h⟩ | ⟨c5, h⟩
  · exact fun a ha => (wb_X7_readsStreet_49 h a ha).trans (fr a ha)
  · exact fun a ha => (wb_X7_readsStreet_49 h a ha).trans (fr a ha)
theorem w_X7_readsStreet {n : Nat} {σ σr : am_Mem} (h : f_X7_readsStreet n σ = some σr) : ∀ a : Nat, nw_X7_readsStreet a → σr a = σ a := by
  unfold f_X7_readsStreet at h
  have fr : ∀ a : Nat, nw_X7_readsStreet a → σ a = σ a := fun _ _ => rfl
  rcases ab_i h with ⟨c1, h⟩ | ⟨c1, h⟩
  · exact fun a ha => (wb_X7_readsStreet_18 h a ha).trans (fr a ha)
  · exact fun a ha => (wb_X7_readsStreet_18 h a ha).trans (fr a ha)
/-! MoodFareModel.town -/
def fb_X7_town_224 (n : Nat) (σ : am_Mem) : Option (Int × am_Mem) :=
  am_b1 (some (am_up σ 75 6 0)) fun σ47 => am_b2 (f_X7_isWell n σ47) fun r50 σ51 => if r50 = 0 then (some (am_w ((-1000100) - (σ51 75 8)), σ51)) else (am_b1 (f_X7_copies n 82 42 81 42 0 0 σ51) fun σ55 => am_b1 (some (am_up σ55 75 17 0)) fun σ56 => some (σ56 81 25, σ56))
def fb_X7_town_172 (n : Nat) (kh172 : am_Mem → Option (Int × am_Mem)) (σ : am_Mem) : Option (Int × am_Mem) :=
  am_b2 (f_X7_isWell n σ) fun r40 σ41 => if r40 = 0 then (am_b2 (f_X7_isWell n σ41) fun r44 σ45 => if r44 = 0 then (fb_X7_town_224 n σ45) else (if σ45 75 11 = 0 then (fb_X7_town_224 n σ45) else (am_b2 (f_X7_takes n 0 1 σ45) fun r60 σ61 => fb_X7_town_224 n σ61))) else (if σ41 75 11 = 1 then (if σ41 75 12 = 120 then (am_b1 (f_X7_readsStreet n σ41) fun σ66 => kh172 σ66) else (am_b2 (f_X7_isWell n σ41) fun r68 σ69 => if r68 = 0 then (fb_X7_town_224 n σ69) else (if σ69 75 11 = 0 then (fb_X7_town_224 n σ69) else (am_b2 (f_X7_takes n 0 1 σ69) fun r73 σ74 => fb_X7_town_224 n σ74)))) else (am_b2 (f_X7_isWell n σ41) fun r76 σ77 => if r76 = 0 then (fb_X7_town_224 n σ77) else (if σ77 75 11 = 0 then (fb_X7_town_224 n σ77) else (am_b2 (f_X7_takes n 0 1 σ77) fun r81 σ82 => fb_X7_town_224 n σ82))))
def fl_X7_town_172 (n : Nat) : Nat → am_Mem → Option (Int × am_Mem)
  | 0, _ => none
  | m + 1, σ => fb_X7_town_172 n (fun σ => fl_X7_town_172 n m σ) σ
def fb_X7_town_140 (n : Nat) (kh140 : am_Mem → Option (Int × am_Mem)) (σ : am_Mem) : Option (Int × am_Mem) :=
  am_b2 (f_X7_isWell n σ) fun r36 σ37 => if r36 = 0 then (fl_X7_town_172 n n σ37) else (if σ37 75 11 = 1 then (am_b2 (f_X7_kindOf n (σ37 75 12) σ37) fun r85 σ86 => if r85 ≤ 0 then (fl_X7_town_172 n n σ86) else (am_b1 (f_X7_readsCorner n σ86) fun σ90 => kh140 σ90)) else (fl_X7_town_172 n n σ37))
def fl_X7_town_140 (n : Nat) : Nat → am_Mem → Option (Int × am_Mem)
  | 0, _ => none
  | m + 1, σ => fb_X7_town_140 n (fun σ => fl_X7_town_140 n m σ) σ
def fb_X7_town_103 (n : Nat) (s0 : Int) (σ : am_Mem) : Option (Int × am_Mem) :=
  am_b2 (f_X7_takes n s0 1 σ) fun r29 σ30 => am_b2 (f_X7_isWell n σ30) fun r32 σ33 => if r32 = 0 then (fl_X7_town_140 n n σ33) else (if σ33 75 11 = 1 then (am_b2 (f_X7_kindOf n (σ33 75 12) σ33) fun r93 σ94 => if r93 ≤ 0 then (am_b2 (f_X7_takes n 0 1 σ94) fun r97 σ98 => fl_X7_town_140 n n σ98) else (fl_X7_town_140 n n σ94)) else (am_b2 (f_X7_takes n 0 1 σ33) fun r100 σ101 => fl_X7_town_140 n n σ101))
def fb_X7_town_58 (n : Nat) (s0 : Int) (σ : am_Mem) : Option (Int × am_Mem) :=
  am_b2 (f_X7_takes n s0 1 σ) fun r15 σ16 => am_b2 (f_X7_figure n 1 9 σ16) fun r18 σ19 => am_b1 (some (am_up σ19 82 0 r18)) fun σ20 => am_b2 (f_X7_follows n 0 9 σ20) fun r23 σ24 => am_b1 (some (am_up σ24 82 1 r23)) fun σ25 => if σ25 75 11 = 4 then (fb_X7_town_103 n 1 σ25) else (fb_X7_town_103 n 0 σ25)
def fb_X7_town_2 (n : Nat) (kh2 : Int → am_Mem → Option (Int × am_Mem)) (x1 : Int) (σ : am_Mem) : Option (Int × am_Mem) :=
  if x1 < 42 then (if (0 : Int) ≤ x1 ∧ x1 < 42 then am_b1 (some (am_up σ 82 x1 0)) fun σ3 => kh2 (am_w (x1 + 1)) σ3 else none) else (am_b1 (some (am_up σ 75 9 0)) fun σ5 => am_b1 (some (am_up σ5 75 8 (-1))) fun σ7 => am_b1 (f_X7_advances n σ7) fun σ11 => if σ11 75 11 = 1 then (if σ11 75 12 = 116 then (fb_X7_town_58 n 1 σ11) else (fb_X7_town_58 n 0 σ11)) else (fb_X7_town_58 n 0 σ11))
def fl_X7_town_2 (n : Nat) : Nat → Int → am_Mem → Option (Int × am_Mem)
  | 0, _, _ => none
  | m + 1, x1, σ => fb_X7_town_2 n (fun yx1 σ => fl_X7_town_2 n m yx1 σ) x1 σ
def f_X7_town (n : Nat) (σ : am_Mem) : Option (Int × am_Mem) :=
  fl_X7_town_2 n n 0 σ
theorem tb_X7_town_224 {L n d : Nat} {Q : am_Post} {o1 : Int} {σ σr : am_Mem} {rr : Int} (hd : 6 ≤ d) (hQ : Q (some (am_i rr)) (rm_h L σr)) (h : fb_X7_town_224 n σ = some (rr, σr)) : xs_AW (xs_aw d) me_X7_town Q 224 [some (am_r 75), some (am_i o1)] [] (rm_h L σ) := by
  unfold fb_X7_town_224 at h
  refine rr_aload_n dX7_town_224 rfl ?_
  refine rr_iconst dX7_town_225 (by decide) ?_
  obtain ⟨σ47, e48, h⟩ := ab_1 h
  refine rr_puti (kz := 6) dX7_town_226 fl_7_97 (sh_75 L) ⟨(by decide), by decide⟩ ⟨rfl, rfl⟩ rfl (ab_m e48 ?_)
  refine rr_aload_n dX7_town_229 rfl ?_
  obtain ⟨r50, σ51, e49, h⟩ := ab_2 h
  refine rr_Vi (as := []) (rest := []) dX7_town_230 ml_7_119 (sh_75 L) ⟨(by decide), by decide, by decide⟩ rfl rfl rfl (Nat.le_of_ble_eq_true rfl) ⟨rfl, rfl⟩ (Nat.le_of_ble_eq_true rfl) (fun _ k => t_X7_isWell (by omega) e49 k) ?_
  rcases ab_i h with ⟨c52, h⟩ | ⟨c52, h⟩
  · refine rr_if_ne_p (t := 244) dX7_town_233 (by decide) c52 ?_
    refine rr_ldc dX7_town_236 cs_7_155 ?_
    refine rr_aload_n dX7_town_238 rfl ?_
    refine rr_geti (kz := 8) dX7_town_239 fl_7_116 (sh_75 L) ⟨(by decide), by decide⟩ rfl rfl ?_
    refine rr_isub dX7_town_242 ?_
    obtain ⟨rfl, rfl⟩ := ab_r2 h
    exact rr_iret dX7_town_243 rfl hQ
  · refine rr_if_ne_n (t := 244) dX7_town_233 (by decide) c52 ?_
    refine rr_aload_n dX7_town_244 rfl ?_
    refine rr_getr (t := 82) dX7_town_245 fl_7_28 (sh_75 L) ⟨(by decide), by decide⟩ rfl rfl ?_
    refine rr_iconst dX7_town_248 (by decide) ?_
    refine rr_aload_n dX7_town_249 rfl ?_
    refine rr_getr (t := 81) dX7_town_250 fl_7_25 (sh_75 L) ⟨(by decide), by decide⟩ rfl rfl ?_
    refine rr_iconst dX7_town_253 (by decide) ?_
    obtain ⟨σ55, e53, h⟩ := ab_1 h
    refine rr_Sv (as := [am_r 82, am_i 0, am_r 81, am_i 0]) (rest := []) dX7_town_254 ml_7_156 (Or.inl rfl) rfl rfl (Nat.le_of_ble_eq_true rfl) ⟨rfl, rfl⟩ (Nat.le_of_ble_eq_true rfl) (fun _ k => t_X7_copies (by omega) (sh_82 L) (by decide) (sh_81 L) (by decide) e53 k) ?_
    refine rr_aload_n dX7_town_257 rfl ?_
    refine rr_iconst dX7_town_258 (by decide) ?_
    obtain ⟨σ56, e57, h⟩ := ab_1 h
    refine rr_puti (kz := 17) dX7_town_259 fl_7_160 (sh_75 L) ⟨(by decide), by decide⟩ ⟨rfl, rfl⟩ rfl (ab_m e57 ?_)
    refine rr_aload_n dX7_town_262 rfl ?_
    refine rr_getr (t := 81) dX7_town_263 fl_7_25 (sh_75 L) ⟨(by decide), by decide⟩ rfl rfl ?_
    refine rr_bipush dX7_town_266 (by decide) ?_
    refine rr_iald (nz := 42) dX7_town_268 (sh_81 L) rfl ⟨by decide, by decide⟩ ?_
    obtain ⟨rfl, rfl⟩ := ab_r2 h
    exact rr_iret dX7_town_269 rfl hQ
theorem tb_X7_town_172 {L n d : Nat} {Q : am_Post} {kh172 : am_Mem → Option (Int × am_Mem)} {o1 : Int} {σ σr : am_Mem} {rr : Int} (hd : 6 ≤ d) (hk172 : ∀ (σ : am_Mem), kh172 σ = some (rr, σr) → ∀ (o1 : Int), xs_AW (xs_aw d) me_X7_town Q 172 [some (am_r 75), some (am_i o1)] [] (rm_h L σ)) (hQ : Q (some (am_i rr)) (rm_h L σr)) (h : fb_X7_town_172 n kh172 σ = some (rr, σr)) : xs_AW (xs_aw d) me_X7_town Q 172 [some (am_r 75), some (am_i o1)] [] (rm_h L σ) := by
  unfold fb_X7_town_172 at h
  refine rr_aload_n dX7_town_172 rfl ?_
  obtain ⟨r40, σ41, e39, h⟩ := ab_2 h
  refine rr_Vi (as := []) (rest := []) dX7_town_173 ml_7_119 (sh_75 L) ⟨(by decide), by decide, by decide⟩ rfl rfl rfl (Nat.le_of_ble_eq_true rfl) ⟨rfl, rfl⟩ (Nat.le_of_ble_eq_true rfl) (fun _ k => t_X7_isWell (by omega) e39 k) ?_
  rcases ab_i h with ⟨c42, h⟩ | ⟨c42, h⟩
  · refine rr_if_eq_p (t := 203) dX7_town_176 (by decide) c42 ?_
    refine rr_aload_n dX7_town_203 rfl ?_
    obtain ⟨r44, σ45, e43, h⟩ := ab_2 h
    refine rr_Vi (as := []) (rest := []) dX7_town_204 ml_7_119 (sh_75 L) ⟨(by decide), by decide, by decide⟩ rfl rfl rfl (Nat.le_of_ble_eq_true rfl) ⟨rfl, rfl⟩ (Nat.le_of_ble_eq_true rfl) (fun _ k => t_X7_isWell (by omega) e43 k) ?_
    rcases ab_i h with ⟨c46, h⟩ | ⟨c46, h⟩
    · refine rr_if_eq_p (t := 224) dX7_town_207 (by decide) c46 ?_
      exact tb_X7_town_224 hd hQ h
    · refine rr_if_eq_n (t := 224) dX7_town_207 (by decide) c46 ?_
      refine rr_aload_n dX7_town_210 rfl ?_
      refine rr_geti (kz := 11) dX7_town_211 fl_7_113 (sh_75 L) ⟨(by decide), by decide⟩ rfl rfl ?_
      rcases ab_i h with ⟨c58, h⟩ | ⟨c58, h⟩
      · refine rr_if_eq_p (t := 224) dX7_town_214 (by decide) c58 ?_
        exact tb_X7_town_224 hd hQ h
      · refine rr_if_eq_n (t := 224) dX7_town_214 (by decide) c58 ?_
        refine rr_aload_n dX7_town_217 rfl ?_
        refine rr_iconst dX7_town_218 (by decide) ?_
        refine rr_iconst dX7_town_219 (by decide) ?_
        obtain ⟨r60, σ61, e59, h⟩ := ab_2 h
        refine rr_Vi (as := [am_i 0, am_i 1]) (rest := []) dX7_town_220 ml_7_129 (sh_75 L) ⟨(by decide), by decide, by decide⟩ rfl rfl rfl (Nat.le_of_ble_eq_true rfl) ⟨rfl, rfl⟩ (Nat.le_of_ble_eq_true rfl) (fun _ k => t_X7_takes (by omega) e59 k) ?_
        refine rr_pop dX7_town_223 rfl ?_
        exact tb_X7_town_224 hd hQ h
  · refine rr_if_eq_n (t := 203) dX7_town_176 (by decide) c42 ?_
    refine rr_aload_n dX7_town_179 rfl ?_
    refine rr_geti (kz := 11) dX7_town_180 fl_7_113 (sh_75 L) ⟨(by decide), by decide⟩ rfl rfl ?_
    refine rr_iconst dX7_town_183 (by decide) ?_
    rcases ab_i h with ⟨c62, h⟩ | ⟨c62, h⟩
    · refine rr_icmp_ne_p (t := 203) dX7_town_184 (by decide) c62 ?_
      refine rr_aload_n dX7_town_187 rfl ?_
      refine rr_geti (kz := 12) dX7_town_188 fl_7_110 (sh_75 L) ⟨(by decide), by decide⟩ rfl rfl ?_
      refine rr_bipush dX7_town_191 (by decide) ?_
      rcases ab_i h with ⟨c63, h⟩ | ⟨c63, h⟩
      · refine rr_icmp_ne_p (t := 203) dX7_town_193 (by decide) c63 ?_
        refine rr_aload_n dX7_town_196 rfl ?_
        obtain ⟨σ66, e64, h⟩ := ab_1 h
        refine rr_Vv (as := []) (rest := []) dX7_town_197 ml_7_152 (sh_75 L) ⟨(by decide), by decide, by decide⟩ rfl rfl rfl (Nat.le_of_ble_eq_true rfl) ⟨rfl, rfl⟩ (Nat.le_of_ble_eq_true rfl) (fun _ k => t_X7_readsStreet (by omega) e64 k) ?_
        refine rr_goto (t := 172) dX7_town_200 (by decide) ?_
        exact hk172 _ h _
      · refine rr_icmp_ne_n (t := 203) dX7_town_193 (by decide) c63 ?_
        refine rr_aload_n dX7_town_203 rfl ?_
        obtain ⟨r68, σ69, e67, h⟩ := ab_2 h
        refine rr_Vi (as := []) (rest := []) dX7_town_204 ml_7_119 (sh_75 L) ⟨(by decide), by decide, by decide⟩ rfl rfl rfl (Nat.le_of_ble_eq_true rfl) ⟨rfl, rfl⟩ (Nat.le_of_ble_eq_true rfl) (fun _ k => t_X7_isWell (by omega) e67 k) ?_
        rcases ab_i h with ⟨c70, h⟩ | ⟨c70, h⟩
        · refine rr_if_eq_p (t := 224) dX7_town_207 (by decide) c70 ?_
          exact tb_X7_town_224 hd hQ h
        · refine rr_if_eq_n (t := 224) dX7_town_207 (by decide) c70 ?_
          refine rr_aload_n dX7_town_210 rfl ?_
          refine rr_geti (kz := 11) dX7_town_211 fl_7_113 (sh_75 L) ⟨(by decide), by decide⟩ rfl rfl ?_
          rcases ab_i h with ⟨c71, h⟩ | ⟨c71, h⟩
          · refine rr_if_eq_p (t := 224) dX7_town_214 (by decide) c71 ?_
            exact tb_X7_town_224 hd hQ h
          · refine rr_if_eq_n (t := 224) dX7_town_214 (by decide) c71 ?_
            refine rr_aload_n dX7_town_217 rfl ?_
            refine rr_iconst dX7_town_218 (by decide) ?_
            refine rr_iconst dX7_town_219 (by decide) ?_
            obtain ⟨r73, σ74, e72, h⟩ := ab_2 h
            refine rr_Vi (as := [am_i 0, am_i 1]) (rest := []) dX7_town_220 ml_7_129 (sh_75 L) ⟨(by decide), by decide, by decide⟩ rfl rfl rfl (Nat.le_of_ble_eq_true rfl) ⟨rfl, rfl⟩ (Nat.le_of_ble_eq_true rfl) (fun _ k => t_X7_takes (by omega) e72 k) ?_
            refine rr_pop dX7_town_223 rfl ?_
            exact tb_X7_town_224 hd hQ h
    · refine rr_icmp_ne_n (t := 203) dX7_town_184 (by decide) c62 ?_
      refine rr_aload_n dX7_town_203 rfl ?_
      obtain ⟨r76, σ77, e75, h⟩ := ab_2 h
      refine rr_Vi (as := []) (rest := []) dX7_town_204 ml_7_119 (sh_75 L) ⟨(by decide), by decide, by decide⟩ rfl rfl rfl (Nat.le_of_ble_eq_true rfl) ⟨rfl, rfl⟩ (Nat.le_of_ble_eq_true rfl) (fun _ k => t_X7_isWell (by omega) e75 k) ?_
      rcases ab_i h with ⟨c78, h⟩ | ⟨c78, h⟩
      · refine rr_if_eq_p (t := 224) dX7_town_207 (by decide) c78 ?_
        exact tb_X7_town_224 hd hQ h
      · refine rr_if_eq_n (t := 224) dX7_town_207 (by decide) c78 ?_
        refine rr_aload_n dX7_town_210 rfl ?_
        refine rr_geti (kz := 11) dX7_town_211 fl_7_113 (sh_75 L) ⟨(by decide), by decide⟩ rfl rfl ?_
        rcases ab_i h with ⟨c79, h⟩ | ⟨c79, h⟩
        · refine rr_if_eq_p (t := 224) dX7_town_214 (by decide) c79 ?_
          exact tb_X7_town_224 hd hQ h
        · refine rr_if_eq_n (t := 224) dX7_town_214 (by decide) c79 ?_
          refine rr_aload_n dX7_town_217 rfl ?_
          refine rr_iconst dX7_town_218 (by decide) ?_
          refine rr_iconst dX7_town_219 (by decide) ?_
          obtain ⟨r81, σ82, e80, h⟩ := ab_2 h
          refine rr_Vi (as := [am_i 0, am_i 1]) (rest := []) dX7_town_220 ml_7_129 (sh_75 L) ⟨(by decide), by decide, by decide⟩ rfl rfl rfl (Nat.le_of_ble_eq_true rfl) ⟨rfl, rfl⟩ (Nat.le_of_ble_eq_true rfl) (fun _ k => t_X7_takes (by omega) e80 k) ?_
          refine rr_pop dX7_town_223 rfl ?_
          exact tb_X7_town_224 hd hQ h
theorem tl_X7_town_172 {L n d : Nat} {Q : am_Post} {σr : am_Mem} {rr : Int} (hd : 6 ≤ d) (hQ : Q (some (am_i rr)) (rm_h L σr)) : ∀ (m : Nat) (σ : am_Mem) (o1 : Int), fl_X7_town_172 n m σ = some (rr, σr) → xs_AW (xs_aw d) me_X7_town Q 172 [some (am_r 75), some (am_i o1)] [] (rm_h L σ) := by
  intro m
  induction m with
  | zero => intro σ o1 h; cases h
  | succ m ih =>
    intro σ o1 h
    exact tb_X7_town_172 hd (fun σ h o1 => ih σ o1 h) hQ h
theorem tb_X7_town_140 {L n d : Nat} {Q : am_Post} {kh140 : am_Mem → Option (Int × am_Mem)} {o1 : Int} {σ σr : am_Mem} {rr : Int} (hd : 6 ≤ d) (hk140 : ∀ (σ : am_Mem), kh140 σ = some (rr, σr) → ∀ (o1 : Int), xs_AW (xs_aw d) me_X7_town Q 140 [some (am_r 75), some (am_i o1)] [] (rm_h L σ)) (hQ : Q (some (am_i rr)) (rm_h L σr)) (h : fb_X7_town_140 n kh140 σ = some (rr, σr)) : xs_AW (xs_aw d) me_X7_town Q 140 [some (am_r 75), some (am_i o1)] [] (rm_h L σ) := by
  unfold fb_X7_town_140 at h
  refine rr_aload_n dX7_town_140 rfl ?_
  obtain ⟨r36, σ37, e35, h⟩ := ab_2 h
  refine rr_Vi (as := []) (rest := []) dX7_town_141 ml_7_119 (sh_75 L) ⟨(by decide), by decide, by decide⟩ rfl rfl rfl (Nat.le_of_ble_eq_true rfl) ⟨rfl, rfl⟩ (Nat.le_of_ble_eq_true rfl) (fun _ k => t_X7_isWell (by omega) e35 k) ?_
  rcases ab_i h with ⟨c38, h⟩ | ⟨c38, h⟩
  · refine rr_if_eq_p (t := 172) dX7_town_144 (by decide) c38 ?_
    exact tl_X7_town_172 hd hQ n _ _ h
  · refine rr_if_eq_n (t := 172) dX7_town_144 (by decide) c38 ?_
    refine rr_aload_n dX7_town_147 rfl ?_
    refine rr_geti (kz := 11) dX7_town_148 fl_7_113 (sh_75 L) ⟨(by decide), by decide⟩ rfl rfl ?_
    refine rr_iconst dX7_town_151 (by decide) ?_
    rcases ab_i h with ⟨c83, h⟩ | ⟨c83, h⟩
    · refine rr_icmp_ne_p (t := 172) dX7_town_152 (by decide) c83 ?_
      refine rr_aload_n dX7_town_155 rfl ?_
      refine rr_geti (kz := 12) dX7_town_156 fl_7_110 (sh_75 L) ⟨(by decide), by decide⟩ rfl rfl ?_
      obtain ⟨r85, σ86, e84, h⟩ := ab_2 h
      refine rr_Si (as := [am_i (σ37 75 12)]) (rest := []) dX7_town_159 ml_7_136 (Or.inl rfl) rfl rfl (Nat.le_of_ble_eq_true rfl) ⟨rfl, rfl⟩ (Nat.le_of_ble_eq_true rfl) (fun _ k => t_X7_kindOf (by omega) e84 k) ?_
      rcases ab_i h with ⟨c87, h⟩ | ⟨c87, h⟩
      · refine rr_if_le_p (t := 172) dX7_town_162 (by decide) c87 ?_
        exact tl_X7_town_172 hd hQ n _ _ h
      · refine rr_if_le_n (t := 172) dX7_town_162 (by decide) c87 ?_
        refine rr_aload_n dX7_town_165 rfl ?_
        obtain ⟨σ90, e88, h⟩ := ab_1 h
        refine rr_Vv (as := []) (rest := []) dX7_town_166 ml_7_149 (sh_75 L) ⟨(by decide), by decide, by decide⟩ rfl rfl rfl (Nat.le_of_ble_eq_true rfl) ⟨rfl, rfl⟩ (Nat.le_of_ble_eq_true rfl) (fun _ k => t_X7_readsCorner (by omega) e88 k) ?_
        refine rr_goto (t := 140) dX7_town_169 (by decide) ?_
        exact hk140 _ h _
    · refine rr_icmp_ne_n (t := 172) dX7_town_152 (by decide) c83 ?_
      exact tl_X7_town_172 hd hQ n _ _ h
theorem tl_X7_town_140 {L n d : Nat} {Q : am_Post} {σr : am_Mem} {rr : Int} (hd : 6 ≤ d) (hQ : Q (some (am_i rr)) (rm_h L σr)) : ∀ (m : Nat) (σ : am_Mem) (o1 : Int), fl_X7_town_140 n m σ = some (rr, σr) → xs_AW (xs_aw d) me_X7_town Q 140 [some (am_r 75), some (am_i o1)] [] (rm_h L σ) := by
  intro m
  induction m with
  | zero => intro σ o1 h; cases h
  | succ m ih =>
    intro σ o1 h
    exact tb_X7_town_140 hd (fun σ h o1 => ih σ o1 h) hQ h
theorem tb_X7_town_103 {L n d : Nat} {Q : am_Post} {s0 : Int} {o1 : Int} {σ σr : am_Mem} {rr : Int} (hd : 6 ≤ d) (hQ : Q (some (am_i rr)) (rm_h L σr)) (h : fb_X7_town_103 n s0 σ = some (rr, σr)) : xs_AW (xs_aw d) me_X7_town Q 103 [some (am_r 75), some (am_i o1)] [am_i s0, am_r 75] (rm_h L σ) := by
  unfold fb_X7_town_103 at h
  refine rr_iconst dX7_town_103 (by decide) ?_
  obtain ⟨r29, σ30, e28, h⟩ := ab_2 h
  refine rr_Vi (as := [am_i s0, am_i 1]) (rest := []) dX7_town_104 ml_7_129 (sh_75 L) ⟨(by decide), by decide, by decide⟩ rfl rfl rfl (Nat.le_of_ble_eq_true rfl) ⟨rfl, rfl⟩ (Nat.le_of_ble_eq_true rfl) (fun _ k => t_X7_takes (by omega) e28 k) ?_
  refine rr_pop dX7_town_107 rfl ?_
  refine rr_aload_n dX7_town_108 rfl ?_
  obtain ⟨r32, σ33, e31, h⟩ := ab_2 h
  refine rr_Vi (as := []) (rest := []) dX7_town_109 ml_7_119 (sh_75 L) ⟨(by decide), by decide, by decide⟩ rfl rfl rfl (Nat.le_of_ble_eq_true rfl) ⟨rfl, rfl⟩ (Nat.le_of_ble_eq_true rfl) (fun _ k => t_X7_isWell (by omega) e31 k) ?_
  rcases ab_i h with ⟨c34, h⟩ | ⟨c34, h⟩
  · refine rr_if_eq_p (t := 140) dX7_town_112 (by decide) c34 ?_
    exact tl_X7_town_140 hd hQ n _ _ h
  · refine rr_if_eq_n (t := 140) dX7_town_112 (by decide) c34 ?_
    refine rr_aload_n dX7_town_115 rfl ?_
    refine rr_geti (kz := 11) dX7_town_116 fl_7_113 (sh_75 L) ⟨(by decide), by decide⟩ rfl rfl ?_
    refine rr_iconst dX7_town_119 (by decide) ?_
    rcases ab_i h with ⟨c91, h⟩ | ⟨c91, h⟩
    · refine rr_icmp_ne_p (t := 133) dX7_town_120 (by decide) c91 ?_
      refine rr_aload_n dX7_town_123 rfl ?_
      refine rr_geti (kz := 12) dX7_town_124 fl_7_110 (sh_75 L) ⟨(by decide), by decide⟩ rfl rfl ?_
      obtain ⟨r93, σ94, e92, h⟩ := ab_2 h
      refine rr_Si (as := [am_i (σ33 75 12)]) (rest := []) dX7_town_127 ml_7_136 (Or.inl rfl) rfl rfl (Nat.le_of_ble_eq_true rfl) ⟨rfl, rfl⟩ (Nat.le_of_ble_eq_true rfl) (fun _ k => t_X7_kindOf (by omega) e92 k) ?_
      rcases ab_i h with ⟨c95, h⟩ | ⟨c95, h⟩
      · refine rr_if_gt_p (t := 140) dX7_town_130 (by decide) c95 ?_
        refine rr_aload_n dX7_town_133 rfl ?_
        refine rr_iconst dX7_town_134 (by decide) ?_
        refine rr_iconst dX7_town_135 (by decide) ?_
        obtain ⟨r97, σ98, e96, h⟩ := ab_2 h
        refine rr_Vi (as := [am_i 0, am_i 1]) (rest := []) dX7_town_136 ml_7_129 (sh_75 L) ⟨(by decide), by decide, by decide⟩ rfl rfl rfl (Nat.le_of_ble_eq_true rfl) ⟨rfl, rfl⟩ (Nat.le_of_ble_eq_true rfl) (fun _ k => t_X7_takes (by omega) e96 k) ?_
        refine rr_pop dX7_town_139 rfl ?_
        exact tl_X7_town_140 hd hQ n _ _ h
      · refine rr_if_gt_n (t := 140) dX7_town_130 (by decide) c95 ?_
        exact tl_X7_town_140 hd hQ n _ _ h
    · refine rr_icmp_ne_n (t := 133) dX7_town_120 (by decide) c91 ?_
      refine rr_aload_n dX7_town_133 rfl ?_
      refine rr_iconst dX7_town_134 (by decide) ?_
      refine rr_iconst dX7_town_135 (by decide) ?_
      obtain ⟨r100, σ101, e99, h⟩ := ab_2 h
      refine rr_Vi (as := [am_i 0, am_i 1]) (rest := []) dX7_town_136 ml_7_129 (sh_75 L) ⟨(by decide), by decide, by decide⟩ rfl rfl rfl (Nat.le_of_ble_eq_true rfl) ⟨rfl, rfl⟩ (Nat.le_of_ble_eq_true rfl) (fun _ k => t_X7_takes (by omega) e99 k) ?_
      refine rr_pop dX7_town_139 rfl ?_
      exact tl_X7_town_140 hd hQ n _ _ h
theorem tb_X7_town_58 {L n d : Nat} {Q : am_Post} {s0 : Int} {o1 : Int} {σ σr : am_Mem} {rr : Int} (hd : 6 ≤ d) (hQ : Q (some (am_i rr)) (rm_h L σr)) (h : fb_X7_town_58 n s0 σ = some (rr, σr)) : xs_AW (xs_aw d) me_X7_town Q 58 [some (am_r 75), some (am_i o1)] [am_i s0, am_r 75] (rm_h L σ) := by
  unfold fb_X7_town_58 at h
  refine rr_iconst dX7_town_58 (by decide) ?_
  obtain ⟨r15, σ16, e14, h⟩ := ab_2 h
  refine rr_Vi (as := [am_i s0, am_i 1]) (rest := []) dX7_town_59 ml_7_129 (sh_75 L) ⟨(by decide), by decide, by decide⟩ rfl rfl rfl (Nat.le_of_ble_eq_true rfl) ⟨rfl, rfl⟩ (Nat.le_of_ble_eq_true rfl) (fun _ k => t_X7_takes (by omega) e14 k) ?_
  refine rr_pop dX7_town_62 rfl ?_
  refine rr_aload_n dX7_town_63 rfl ?_
  refine rr_getr (t := 82) dX7_town_64 fl_7_28 (sh_75 L) ⟨(by decide), by decide⟩ rfl rfl ?_
  refine rr_iconst dX7_town_67 (by decide) ?_
  refine rr_aload_n dX7_town_68 rfl ?_
  refine rr_iconst dX7_town_69 (by decide) ?_
  refine rr_bipush dX7_town_70 (by decide) ?_
  obtain ⟨r18, σ19, e17, h⟩ := ab_2 h
  refine rr_Vi (as := [am_i 1, am_i 9]) (rest := [am_i 0, am_r 82]) dX7_town_72 ml_7_133 (sh_75 L) ⟨(by decide), by decide, by decide⟩ rfl rfl rfl (Nat.le_of_ble_eq_true rfl) ⟨rfl, rfl⟩ (Nat.le_of_ble_eq_true rfl) (fun _ k => t_X7_figure (by omega) e17 k) ?_
  refine rr_iast (nz := 42) dX7_town_75 (sh_82 L) (by decide) rfl ⟨by decide, by decide⟩ ?_
  obtain ⟨σ20, e21, h⟩ := ab_1 h
  refine ab_m e21 ?_
  refine rr_aload_n dX7_town_76 rfl ?_
  refine rr_getr (t := 82) dX7_town_77 fl_7_28 (sh_75 L) ⟨(by decide), by decide⟩ rfl rfl ?_
  refine rr_iconst dX7_town_80 (by decide) ?_
  refine rr_aload_n dX7_town_81 rfl ?_
  refine rr_iconst dX7_town_82 (by decide) ?_
  refine rr_bipush dX7_town_83 (by decide) ?_
  obtain ⟨r23, σ24, e22, h⟩ := ab_2 h
  refine rr_Vi (as := [am_i 0, am_i 9]) (rest := [am_i 1, am_r 82]) dX7_town_85 ml_7_139 (sh_75 L) ⟨(by decide), by decide, by decide⟩ rfl rfl rfl (Nat.le_of_ble_eq_true rfl) ⟨rfl, rfl⟩ (Nat.le_of_ble_eq_true rfl) (fun _ k => t_X7_follows (by omega) e22 k) ?_
  refine rr_iast (nz := 42) dX7_town_88 (sh_82 L) (by decide) rfl ⟨by decide, by decide⟩ ?_
  obtain ⟨σ25, e26, h⟩ := ab_1 h
  refine ab_m e26 ?_
  refine rr_aload_n dX7_town_89 rfl ?_
  refine rr_aload_n dX7_town_90 rfl ?_
  refine rr_geti (kz := 11) dX7_town_91 fl_7_113 (sh_75 L) ⟨(by decide), by decide⟩ rfl rfl ?_
  refine rr_iconst dX7_town_94 (by decide) ?_
  rcases ab_i h with ⟨c27, h⟩ | ⟨c27, h⟩
  · refine rr_icmp_ne_p (t := 102) dX7_town_95 (by decide) c27 ?_
    refine rr_iconst dX7_town_98 (by decide) ?_
    refine rr_goto (t := 103) dX7_town_99 (by decide) ?_
    exact tb_X7_town_103 hd hQ h
  · refine rr_icmp_ne_n (t := 102) dX7_town_95 (by decide) c27 ?_
    refine rr_iconst dX7_town_102 (by decide) ?_
    exact tb_X7_town_103 hd hQ h
theorem tb_X7_town_2 {L n d : Nat} {Q : am_Post} {kh2 : Int → am_Mem → Option (Int × am_Mem)} {x1 : Int} {σ σr : am_Mem} {rr : Int} (hd : 6 ≤ d) (hk2 : ∀ (y1 : Int) (σ : am_Mem), kh2 y1 σ = some (rr, σr) → xs_AW (xs_aw d) me_X7_town Q 2 [some (am_r 75), some (am_i y1)] [] (rm_h L σ)) (hQ : Q (some (am_i rr)) (rm_h L σr)) (h : fb_X7_town_2 n kh2 x1 σ = some (rr, σr)) : xs_AW (xs_aw d) me_X7_town Q 2 [some (am_r 75), some (am_i x1)] [] (rm_h L σ) := by
  unfold fb_X7_town_2 at h
  refine rr_iload_n dX7_town_2 rfl ?_
  refine rr_bipush dX7_town_3 (by decide) ?_
  rcases ab_i h with ⟨c1, h⟩ | ⟨c1, h⟩
  · refine rr_icmp_ge_p (t := 21) dX7_town_5 (by decide) c1 ?_
    refine rr_aload_n dX7_town_8 rfl ?_
    refine rr_getr (t := 82) dX7_town_9 fl_7_28 (sh_75 L) ⟨(by decide), by decide⟩ rfl rfl ?_
    refine rr_iload_n dX7_town_12 rfl ?_
    refine rr_iconst dX7_town_13 (by decide) ?_
    obtain ⟨g2, h⟩ := ab_g h
    refine rr_iast (nz := 42) dX7_town_14 (sh_82 L) (by decide) rfl g2 ?_
    obtain ⟨σ3, e4, h⟩ := ab_1 h
    refine ab_m e4 ?_
    refine rr_iinc (ls' := [some (am_r 75), some (am_i (am_w (x1 + 1)))]) dX7_town_15 rfl (Nat.le_of_ble_eq_true rfl) rfl ?_
    refine rr_goto (t := 2) dX7_town_18 (by decide) ?_
    exact hk2 _ _ h
  · refine rr_icmp_ge_n (t := 21) dX7_town_5 (by decide) c1 ?_
    refine rr_aload_n dX7_town_21 rfl ?_
    refine rr_iconst dX7_town_22 (by decide) ?_
    obtain ⟨σ5, e6, h⟩ := ab_1 h
    refine rr_puti (kz := 9) dX7_town_23 fl_7_101 (sh_75 L) ⟨(by decide), by decide⟩ ⟨rfl, rfl⟩ rfl (ab_m e6 ?_)
    refine rr_aload_n dX7_town_26 rfl ?_
    refine rr_iconst dX7_town_27 (by decide) ?_
    obtain ⟨σ7, e8, h⟩ := ab_1 h
    refine rr_puti (kz := 8) dX7_town_28 fl_7_116 (sh_75 L) ⟨(by decide), by decide⟩ ⟨rfl, rfl⟩ rfl (ab_m e8 ?_)
    refine rr_aload_n dX7_town_31 rfl ?_
    obtain ⟨σ11, e9, h⟩ := ab_1 h
    refine rr_Vv (as := []) (rest := []) dX7_town_32 ml_7_126 (sh_75 L) ⟨(by decide), by decide, by decide⟩ rfl rfl rfl (Nat.le_of_ble_eq_true rfl) ⟨rfl, rfl⟩ (Nat.le_of_ble_eq_true rfl) (fun _ k => t_X7_advances (by omega) e9 k) ?_
    refine rr_aload_n dX7_town_35 rfl ?_
    refine rr_aload_n dX7_town_36 rfl ?_
    refine rr_geti (kz := 11) dX7_town_37 fl_7_113 (sh_75 L) ⟨(by decide), by decide⟩ rfl rfl ?_
    refine rr_iconst dX7_town_40 (by decide) ?_
    rcases ab_i h with ⟨c12, h⟩ | ⟨c12, h⟩
    · refine rr_icmp_ne_p (t := 57) dX7_town_41 (by decide) c12 ?_
      refine rr_aload_n dX7_town_44 rfl ?_
      refine rr_geti (kz := 12) dX7_town_45 fl_7_110 (sh_75 L) ⟨(by decide), by decide⟩ rfl rfl ?_
      refine rr_bipush dX7_town_48 (by decide) ?_
      rcases ab_i h with ⟨c13, h⟩ | ⟨c13, h⟩
      · refine rr_icmp_ne_p (t := 57) dX7_town_50 (by decide) c13 ?_
        refine rr_iconst dX7_town_53 (by decide) ?_
        refine rr_goto (t := 58) dX7_town_54 (by decide) ?_
        exact tb_X7_town_58 hd hQ h
      · refine rr_icmp_ne_n (t := 57) dX7_town_50 (by decide) c13 ?_
        refine rr_iconst dX7_town_57 (by decide) ?_
        exact tb_X7_town_58 hd hQ h
    · refine rr_icmp_ne_n (t := 57) dX7_town_41 (by decide) c12 ?_
      refine rr_iconst dX7_town_57 (by decide) ?_
      exact tb_X7_town_58 hd hQ h
theorem tl_X7_town_2 {L n d : Nat} {Q : am_Post} {σr : am_Mem} {rr : Int} (hd : 6 ≤ d) (hQ : Q (some (am_i rr)) (rm_h L σr)) : ∀ (m : Nat) (x1 : Int) (σ : am_Mem), fl_X7_town_2 n m x1 σ = some (rr, σr) → xs_AW (xs_aw d) me_X7_town Q 2 [some (am_r 75), some (am_i x1)] [] (rm_h L σ) := by
  intro m
  induction m with
  | zero => intro x1 σ h; cases h
  | succ m ih =>
    intro x1 σ h
    exact tb_X7_town_2 hd (fun x1 σ h => ih x1 σ h) hQ h
theorem t_X7_town {L n d : Nat} {Q : am_Post} {σ σr : am_Mem} {rr : Int} (hd : 6 < d) (h : f_X7_town n σ = some (rr, σr)) (hQ : Q (some (am_i rr)) (rm_h L σr)) : xs_aw d me_X7_town [am_r 75] (rm_h L σ) Q := by
  obtain ⟨d, rfl⟩ : ∃ k, d = k + 1 := ⟨d - 1, by omega⟩
  have hd : 6 ≤ d := by omega
  unfold f_X7_town at h
  show xs_AW (xs_aw d) me_X7_town Q 0 [some (am_r 75), none] [] (rm_h L σ)
  refine rr_iconst dX7_town_0 (by decide) ?_
  refine rr_istore_n (ls' := [some (am_r 75), some (am_i 0)]) dX7_town_1 (Nat.le_of_ble_eq_true rfl) rfl ?_
  exact tl_X7_town_2 hd hQ n _ _ h
def nw_X7_town (a : Nat) : Prop := a ≠ 75 ∧ a ≠ 81 ∧ a ≠ 82
theorem wb_X7_town_224 {n : Nat} {σ σr : am_Mem} {rr : Int} (h : fb_X7_town_224 n σ = some (rr, σr)) : ∀ a : Nat, nw_X7_town a → σr a = σ a := by
  unfold fb_X7_town_224 at h
  have fr : ∀ a : Nat, nw_X7_town a → σ a = σ a := fun _ _ => rfl
  obtain ⟨σ47, e48, h⟩ := ab_1 h
  have fr := fun (a : Nat) (ha : nw_X7_town a) => (ab_fu e48 (show a ≠ 75 by unfold nw_X7_town at ha; omega)).trans (fr a ha)
  obtain ⟨r50, σ51, e49, h⟩ := ab_2 h
  have fr := fun (a : Nat) (ha : nw_X7_town a) => (congrFun (u_X7_isWell e49) a).trans (fr a ha)
  rcases ab_i h with ⟨c52, h⟩ | ⟨c52, h⟩
  · obtain ⟨q1, q2⟩ := ab_r2 h
    exact fun a ha => (congrFun q2.symm a).trans (fr a ha)
  · obtain ⟨σ55, e53, h⟩ := ab_1 h
    have fr := fun (a : Nat) (ha : nw_X7_town a) => (w_X7_copies e53 a (by unfold nw_X7_town at ha; unfold nw_X7_copies; omega)).trans (fr a ha)
    obtain ⟨σ56, e57, h⟩ := ab_1 h
    have fr := fun (a : Nat) (ha : nw_X7_town a) => (ab_fu e57 (show a ≠ 75 by unfold nw_X7_town at ha; omega)).trans (fr a ha)
    obtain ⟨q1, q2⟩ := ab_r2 h
    exact fun a ha => (congrFun q2.symm a).trans (fr a ha)
theorem wb_X7_town_172 {n : Nat} {kh172 : am_Mem → Option (Int × am_Mem)} {σ σr : am_Mem} {rr : Int} (hk172 : ∀ (σ : am_Mem), kh172 σ = some (rr, σr) → ∀ a : Nat, nw_X7_town a → σr a = σ a) (h : fb_X7_town_172 n kh172 σ = some (rr, σr)) : ∀ a : Nat, nw_X7_town a → σr a = σ a := by
  unfold fb_X7_town_172 at h
  have fr : ∀ a : Nat, nw_X7_town a → σ a = σ a := fun _ _ => rfl
  obtain ⟨r40, σ41, e39, h⟩ := ab_2 h
  have fr := fun (a : Nat) (ha : nw_X7_town a) => (congrFun (u_X7_isWell e39) a).trans (fr a ha)
  rcases ab_i h with ⟨c42, h⟩ | ⟨c42, h⟩
  · obtain ⟨r44, σ45, e43, h⟩ := ab_2 h
    have fr := fun (a : Nat) (ha : nw_X7_town a) => (congrFun (u_X7_isWell e43) a).trans (fr a ha)
    rcases ab_i h with ⟨c46, h⟩ | ⟨c46, h⟩
    · exact fun a ha => (wb_X7_town_224 h a ha).trans (fr a ha)
    · rcases ab_i h with ⟨c58, h⟩ | ⟨c58, h⟩
      · exact fun a ha => (wb_X7_town_224 h a ha).trans (fr a ha)
      · obtain ⟨r60, σ61, e59, h⟩ := ab_2 h
        have fr := fun (a : Nat) (ha : nw_X7_town a) => (w_X7_takes e59 a (by unfold nw_X7_town at ha; unfold nw_X7_takes; omega)).trans (fr a ha)
        exact fun a ha => (wb_X7_town_224 h a ha).trans (fr a ha)
  · rcases ab_i h with ⟨c62, h⟩ | ⟨c62, h⟩
    · rcases ab_i h with ⟨c63, h⟩ | ⟨c63, h⟩
      · obtain ⟨σ66, e64, h⟩ := ab_1 h
        have fr := fun (a : Nat) (ha : nw_X7_town a) => (w_X7_readsStreet e64 a (by unfold nw_X7_town at ha; unfold nw_X7_readsStreet; omega)).trans (fr a ha)
        exact fun a ha => (hk172 _ h a ha).trans (fr a ha)
      · obtain ⟨r68, σ69, e67, h⟩ := ab_2 h
        have fr := fun (a : Nat) (ha : nw_X7_town a) => (congrFun (u_X7_isWell e67) a).trans (fr a ha)
        rcases ab_i h with ⟨c70, h⟩ | ⟨c70, h⟩
        · exact fun a ha => (wb_X7_town_224 h a ha).trans (fr a ha)
        · rcases ab_i h with ⟨c71, h⟩ | ⟨c71, h⟩
          · exact fun a ha => (wb_X7_town_224 h a ha).trans (fr a ha)
          · obtain ⟨r73, σ74, e72, h⟩ := ab_2 h
            have fr := fun (a : Nat) (ha : nw_X7_town a) => (w_X7_takes e72 a (by unfold nw_X7_town at ha; unfold nw_X7_takes; omega)).trans (fr a ha)
            exact fun a ha => (wb_X7_town_224 h a ha).trans (fr a ha)
    · obtain ⟨r76, σ77, e75, h⟩ := ab_2 h
      have fr := fun (a : Nat) (ha : nw_X7_town a) => (congrFun (u_X7_isWell e75) a).trans (fr a ha)
      rcases ab_i h with ⟨c78, h⟩ | ⟨c78, h⟩
      · exact fun a ha => (wb_X7_town_224 h a ha).trans (fr a ha)
      · rcases ab_i h with ⟨c79, h⟩ | ⟨c79, h⟩
        · exact fun a ha => (wb_X7_town_224 h a ha).trans (fr a ha)
        · obtain ⟨r81, σ82, e80, h⟩ := ab_2 h
          have fr := fun (a : Nat) (ha : nw_X7_town a) => (w_X7_takes e80 a (by unfold nw_X7_town at ha; unfold nw_X7_takes; omega)).trans (fr a ha)
          exact fun a ha => (wb_X7_town_224 h a ha).trans (fr a ha)
theorem wl_X7_town_172 {n : Nat} {σr : am_Mem} {rr : Int} : ∀ (m : Nat) (σ : am_Mem), fl_X7_town_172 n m σ = some (rr, σr) → ∀ a : Nat, nw_X7_town a → σr a = σ a := by
  intro m
  induction m with
  | zero => intro σ h; cases h
  | succ m ih =>
    intro σ h
    exact wb_X7_town_172 (fun σ h => ih σ h) h
theorem wb_X7_town_140 {n : Nat} {kh140 : am_Mem → Option (Int × am_Mem)} {σ σr : am_Mem} {rr : Int} (hk140 : ∀ (σ : am_Mem), kh140 σ = some (rr, σr) → ∀ a : Nat, nw_X7_town a → σr a = σ a) (h : fb_X7_town_140 n kh140 σ = some (rr, σr)) : ∀ a : Nat, nw_X7_town a → σr a = σ a := by
  unfold fb_X7_town_140 at h
  have fr : ∀ a : Nat, nw_X7_town a → σ a = σ a := fun _ _ => rfl
  obtain ⟨r36, σ37, e35, h⟩ := ab_2 h
  have fr := fun (a : Nat) (ha : nw_X7_town a) => (congrFun (u_X7_isWell e35) a).trans (fr a ha)
  rcases ab_i h with ⟨c38, h⟩ | ⟨c38, h⟩
  · exact fun a ha => (wl_X7_town_172 n _ h a ha).trans (fr a ha)
  · rcases ab_i h with ⟨c83, h⟩ | ⟨c83, h⟩
    · obtain ⟨r85, σ86, e84, h⟩ := ab_2 h
      have fr := fun (a : Nat) (ha : nw_X7_town a) => (congrFun (u_X7_kindOf e84) a).trans (fr a ha)
      rcases ab_i h with ⟨c87, h⟩ | ⟨c87, h⟩
      · exact fun a ha => (wl_X7_town_172 n _ h a ha).trans (fr a ha)
      · obtain ⟨σ90, e88, h⟩ := ab_1 h
        have fr := fun (a : Nat) (ha : nw_X7_town a) => (w_X7_readsCorner e88 a (by unfold nw_X7_town at ha; unfold nw_X7_readsCorner; omega)).trans (fr a ha)
        exact fun a ha => (hk140 _ h a ha).trans (fr a ha)
    · exact fun a ha => (wl_X7_town_172 n _ h a ha).trans (fr a ha)
theorem wl_X7_town_140 {n : Nat} {σr : am_Mem} {rr : Int} : ∀ (m : Nat) (σ : am_Mem), fl_X7_town_140 n m σ = some (rr, σr) → ∀ a : Nat, nw_X7_town a → σr a = σ a := by
  intro m
  induction m with
  | zero => intro σ h; cases h
  | succ m ih =>
    intro σ h
    exact wb_X7_town_140 (fun σ h => ih σ h) h
theorem wb_X7_town_103 {n : Nat} {s0 : Int} {σ σr : am_Mem} {rr : Int} (h : fb_X7_town_103 n s0 σ = some (rr, σr)) : ∀ a : Nat, nw_X7_town a → σr a = σ a := by
  unfold fb_X7_town_103 at h
  have fr : ∀ a : Nat, nw_X7_town a → σ a = σ a := fun _ _ => rfl
  obtain ⟨r29, σ30, e28, h⟩ := ab_2 h
  have fr := fun (a : Nat) (ha : nw_X7_town a) => (w_X7_takes e28 a (by unfold nw_X7_town at ha; unfold nw_X7_takes; omega)).trans (fr a ha)
  obtain ⟨r32, σ33, e31, h⟩ := ab_2 h
  have fr := fun (a : Nat) (ha : nw_X7_town a) => (congrFun (u_X7_isWell e31) a).trans (fr a ha)
  rcases ab_i h with ⟨c34, h⟩ | ⟨c34, h⟩
  · exact fun a ha => (wl_X7_town_140 n _ h a ha).trans (fr a ha)
  · rcases ab_i h with ⟨c91, h⟩ | ⟨c91, h⟩
    · obtain ⟨r93, σ94, e92, h⟩ := ab_2 h
      have fr := fun (a : Nat) (ha : nw_X7_town a) => (congrFun (u_X7_kindOf e92) a).trans (fr a ha)
      rcases ab_i h with ⟨c95, h⟩ | ⟨c95, h⟩
      · obtain ⟨r97, σ98, e96, h⟩ := ab_2 h
        have fr := fun (a : Nat) (ha : nw_X7_town a) => (w_X7_takes e96 a (by unfold nw_X7_town at ha; unfold nw_X7_takes; omega)).trans (fr a ha)
        exact fun a ha => (wl_X7_town_140 n _ h a ha).trans (fr a ha)
      · exact fun a ha => (wl_X7_town_140 n _ h a ha).trans (fr a ha)
    · obtain ⟨r100, σ101, e99, h⟩ := ab_2 h
      have fr := fun (a : Nat) (ha : nw_X7_town a) => (w_X7_takes e99 a (by unfold nw_X7_town at ha; unfold nw_X7_takes; omega)).trans (fr a ha)
      exact fun a ha => (wl_X7_town_140 n _ h a ha).trans (fr a ha)
theorem wb_X7_town_58 {n : Nat} {s0 : Int} {σ σr : am_Mem} {rr : Int} (h : fb_X7_town_58 n s0 σ = some (rr, σr)) : ∀ a : Nat, nw_X7_town a → σr a = σ a := by
  unfold fb_X7_town_58 at h
  have fr : ∀ a : Nat, nw_X7_town a → σ a = σ a := fun _ _ => rfl
  obtain ⟨r15, σ16, e14, h⟩ := ab_2 h
  have fr := fun (a : Nat) (ha : nw_X7_town a) => (w_X7_takes e14 a (by unfold nw_X7_town at ha; unfold nw_X7_takes; omega)).trans (fr a ha)
  obtain ⟨r18, σ19, e17, h⟩ := ab_2 h
  have fr := fun (a : Nat) (ha : nw_X7_town a) => (w_X7_figure e17 a (by unfold nw_X7_town at ha; unfold nw_X7_figure; omega)).trans (fr a ha)
  obtain ⟨σ20, e21, h⟩ := ab_1 h
  have fr := fun (a : Nat) (ha : nw_X7_town a) => (ab_fu e21 (show a ≠ 82 by unfold nw_X7_town at ha; omega)).trans (fr a ha)
  obtain ⟨r23, σ24, e22, h⟩ := ab_2 h
  have fr := fun (a : Nat) (ha : nw_X7_town a) => (w_X7_follows e22 a (by unfold nw_X7_town at ha; unfold nw_X7_follows; omega)).trans (fr a ha)
  obtain ⟨σ25, e26, h⟩ := ab_1 h
  have fr := fun (a : Nat) (ha : nw_X7_town a) => (ab_fu e26 (show a ≠ 82 by unfold nw_X7_town at ha; omega)).trans (fr a ha)
  rcases ab_i h with ⟨c27, h⟩ | ⟨c27, h⟩
  · exact fun a ha => (wb_X7_town_103 h a ha).trans (fr a ha)
  · exact fun a ha => (wb_X7_town_103 h a ha).trans (fr a ha)
theorem wb_X7_town_2 {n : Nat} {kh2 : Int → am_Mem → Option (Int × am_Mem)} {x1 : Int} {σ σr : am_Mem} {rr : Int} (hk2 : ∀ (y1 : Int) (σ : am_Mem), kh2 y1 σ = some (rr, σr) → ∀ a : Nat, nw_X7_town a → σr a = σ a) (h : fb_X7_town_2 n kh2 x1 σ = some (rr, σr)) : ∀ a : Nat, nw_X7_town a → σr a = σ a := by
  unfold fb_X7_town_2 at h
  have fr : ∀ a : Nat, nw_X7_town a → σ a = σ a := fun _ _ => rfl
  rcases ab_i h with ⟨c1, h⟩ | ⟨c1, h⟩
  · obtain ⟨g2, h⟩ := ab_g h
    obtain ⟨σ3, e4, h⟩ := ab_1 h
    have fr := fun (a : Nat) (ha : nw_X7_town a) => (ab_fu e4 (show a ≠ 82 by unfold nw_X7_town at ha; omega)).trans (fr a ha)
    exact fun a ha => (hk2 _ _ h a ha).trans (fr a ha)
  · obtain ⟨σ5, e6, h⟩ := ab_1 h
    have fr := fun (a : Nat) (ha : nw_X7_town a) => (ab_fu e6 (show a ≠ 75 by unfold nw_X7_town at ha; omega)).trans (fr a ha)
    obtain ⟨σ7, e8, h⟩ := ab_1 h
    have fr := fun (a : Nat) (ha : nw_X7_town a) => (ab_fu e8 (show a ≠ 75 by unfold nw_X7_town at ha; omega)).trans (fr a ha)
    obtain ⟨σ11, e9, h⟩ := ab_1 h
    have fr := fun (a : Nat) (ha : nw_X7_town a) => (w_X7_advances e9 a (by unfold nw_X7_town at ha; unfold nw_X7_advances; omega)).trans (fr a ha)
    rcases ab_i h with ⟨c12, h⟩ | ⟨c12, h⟩
    · rcases ab_i h with ⟨c13, h⟩ | ⟨c13, h⟩
      · exact fun a ha => (wb_X7_town_58 h a ha).trans (fr a ha)
      · exact fun a ha => (wb_X7_town_58 h a ha).trans (fr a ha)
    · exact fun a ha => (wb_X7_town_58 h a ha).trans (fr a ha)
theorem wl_X7_town_2 {n : Nat} {σr : am_Mem} {rr : Int} : ∀ (m : Nat) (x1 : Int) (σ : am_Mem), fl_X7_town_2 n m x1 σ = some (rr, σr) → ∀ a : Nat, nw_X7_town a → σr a = σ a := by
  intro m
  induction m with
  | zero => intro x1 σ h; cases h
  | succ m ih =>
    intro x1 σ h
    exact wb_X7_town_2 (fun x1 σ h => ih x1 σ h) h
theorem w_X7_town {n : Nat} {σ σr : am_Mem} {rr : Int} (h : f_X7_town n σ = some (rr, σr)) : ∀ a : Nat, nw_X7_town a → σr a = σ a := by
  unfold f_X7_town at h
  have fr : ∀ a : Nat, nw_X7_town a → σ a = σ a := fun _ _ => rfl
  exact fun a ha => (wl_X7_town_2 n _ _ h a ha).trans (fr a ha)
/-! MoodFareModel.fault -/
def f_X7_fault (n : Nat) (σ : am_Mem) : Option (Int × am_Mem) :=
  some (σ 75 7, σ)
theorem t_X7_fault {L n d : Nat} {Q : am_Post} {σ σr : am_Mem} {rr : Int} (hd : 0 < d) (h : f_X7_fault n σ = some (rr, σr)) (hQ : Q (some (am_i rr)) (rm_h L σr)) : xs_aw d me_X7_fault [am_r 75] (rm_h L σ) Q := by
  obtain ⟨d, rfl⟩ : ∃ k, d = k + 1 := ⟨d - 1, by omega⟩
  have hd : 0 ≤ d := by omega
  unfold f_X7_fault at h
  show xs_AW (xs_aw d) me_X7_fault Q 0 [some (am_r 75)] [] (rm_h L σ)
  refine rr_aload_n dX7_fault_0 rfl ?_
  refine rr_geti (kz := 7) dX7_fault_1 fl_7_123 (sh_75 L) ⟨(by decide), by decide⟩ rfl rfl ?_
  obtain ⟨rfl, rfl⟩ := ab_r2 h
  exact rr_iret dX7_fault_4 rfl hQ
theorem u_X7_fault {n : Nat} {σ σr : am_Mem} {rr : Int} (h : f_X7_fault n σ = some (rr, σr)) : σr = σ := by
  unfold f_X7_fault at h
  have fr : σ = σ := rfl
  obtain ⟨q1, q2⟩ := ab_r2 h
  exact q2.symm.trans fr
/-! MoodFareModel.has -/
def f_X7_has (n : Nat) (p0 : Int) (p1 : Int) (σ : am_Mem) : Option (Int × am_Mem) :=
  if am_and (am_shr p0 p1) 1 = 1 then (some (1, σ)) else (some (0, σ))
theorem t_X7_has {L n d : Nat} {Q : am_Post} {p0 : Int} {p1 : Int} {σ σr : am_Mem} {rr : Int} (hd : 0 < d) (h : f_X7_has n p0 p1 σ = some (rr, σr)) (hQ : Q (some (am_i rr)) (rm_h L σr)) : xs_aw d me_X7_has [am_i p0, am_i p1] (rm_h L σ) Q := by
  obtain ⟨d, rfl⟩ : ∃ k, d = k + 1 := ⟨d - 1, by omega⟩
  have hd : 0 ≤ d := by omega
  unfold f_X7_has at h
  show xs_AW (xs_aw d) me_X7_has Q 0 [some (am_i p0), some (am_i p1)] [] (rm_h L σ)
  refine rr_iload_n dX7_has_0 rfl ?_
  refine rr_iload_n dX7_has_1 rfl ?_
  refine rr_ishr dX7_has_2 ?_
  refine rr_iconst dX7_has_3 (by decide) ?_
  refine rr_iand dX7_has_4 ?_
  refine rr_iconst dX7_has_5 (by decide) ?_
  rcases ab_i h with ⟨c1, h⟩ | ⟨c1, h⟩
  · refine rr_icmp_ne_p (t := 13) dX7_has_6 (by decide) c1 ?_
    refine rr_iconst dX7_has_9 (by decide) ?_
    refine rr_goto (t := 14) dX7_has_10 (by decide) ?_
    obtain ⟨rfl, rfl⟩ := ab_r2 h
    exact rr_zret dX7_has_14 rfl (Or.inr rfl) hQ
  · refine rr_icmp_ne_n (t := 13) dX7_has_6 (by decide) c1 ?_
    refine rr_iconst dX7_has_13 (by decide) ?_
    obtain ⟨rfl, rfl⟩ := ab_r2 h
    exact rr_zret dX7_has_14 rfl (Or.inl rfl) hQ
theorem u_X7_has {n : Nat} {p0 : Int} {p1 : Int} {σ σr : am_Mem} {rr : Int} (h : f_X7_has n p0 p1 σ = some (rr, σr)) : σr = σ := by
  unfold f_X7_has at h
  have fr : σ = σ := rfl
  rcases ab_i h with ⟨c1, h⟩ | ⟨c1, h⟩
  · obtain ⟨q1, q2⟩ := ab_r2 h
    exact q2.symm.trans fr
  · obtain ⟨q1, q2⟩ := ab_r2 h
    exact q2.symm.trans fr
/-! MoodFareModel.goes -/
def f_X7_goes (n : Nat) (p0 : Nat) (p0_n : Nat) (p1 : Int) (p2 : Int) (σ : am_Mem) : Option (Int × am_Mem) :=
  if (0 : Int) ≤ 25 ∧ 25 < (p0_n : Int) then am_b2 (f_X7_in n p1 0 (am_w ((σ p0 25) - 1)) σ) fun r3 σ4 => if r3 = 0 then (some (0, σ4)) else (if (0 : Int) ≤ 5 ∧ 5 < (p0_n : Int) then am_b2 (f_X7_has n (σ4 p0 5) p1 σ4) fun r8 σ9 => if r8 = 0 then (some (0, σ9)) else (if (0 : Int) ≤ am_w (26 + (am_w (2 * p1))) ∧ am_w (26 + (am_w (2 * p1))) < (p0_n : Int) then if σ9 p0 (am_w (26 + (am_w (2 * p1)))) = p2 then (some (1, σ9)) else (some (0, σ9)) else none) else none) else none
theorem t_X7_goes {L n d : Nat} {Q : am_Post} {p0 : Nat} {p0_n : Nat} {p1 : Int} {p2 : Int} {σ σr : am_Mem} {rr : Int} (hd : 1 < d) (hs_p0 : (xr_Sh L)[p0]? = some (100, p0_n, [])) (h3_p0 : 3 ≤ p0) (h : f_X7_goes n p0 p0_n p1 p2 σ = some (rr, σr)) (hQ : Q (some (am_i rr)) (rm_h L σr)) : xs_aw d me_X7_goes [am_r p0, am_i p1, am_i p2] (rm_h L σ) Q := by
  obtain ⟨d, rfl⟩ : ∃ k, d = k + 1 := ⟨d - 1, by omega⟩
  have hd : 1 ≤ d := by omega
  unfold f_X7_goes at h
  show xs_AW (xs_aw d) me_X7_goes Q 0 [some (am_r p0), some (am_i p1), some (am_i p2)] [] (rm_h L σ)
  refine rr_iload_n dX7_goes_0 rfl ?_
  refine rr_iconst dX7_goes_1 (by decide) ?_
  refine rr_aload_n dX7_goes_2 rfl ?_
  refine rr_bipush dX7_goes_3 (by decide) ?_
  obtain ⟨g1, h⟩ := ab_g h
  refine rr_iald (nz := (p0_n : Int)) dX7_goes_5 hs_p0 rfl g1 ?_
  refine rr_iconst dX7_goes_6 (by decide) ?_
  refine rr_isub dX7_goes_7 ?_
  obtain ⟨r3, σ4, e2, h⟩ := ab_2 h
  refine rr_Si (as := [am_i p1, am_i 0, am_i (am_w ((σ p0 25) - 1))]) (rest := []) dX7_goes_8 ml_7_71 (Or.inl rfl) rfl rfl (Nat.le_of_ble_eq_true rfl) ⟨rfl, rfl⟩ (Nat.le_of_ble_eq_true rfl) (fun _ k => t_X7_in (by omega) e2 k) ?_
  rcases ab_i h with ⟨c5, h⟩ | ⟨c5, h⟩
  · refine rr_if_eq_p (t := 40) dX7_goes_11 (by decide) c5 ?_
    refine rr_iconst dX7_goes_40 (by decide) ?_
    obtain ⟨rfl, rfl⟩ := ab_r2 h
    exact rr_zret dX7_goes_41 rfl (Or.inl rfl) hQ
  · refine rr_if_eq_n (t := 40) dX7_goes_11 (by decide) c5 ?_
    refine rr_aload_n dX7_goes_14 rfl ?_
    refine rr_iconst dX7_goes_15 (by decide) ?_
    obtain ⟨g6, h⟩ := ab_g h
    refine rr_iald (nz := (p0_n : Int)) dX7_goes_16 hs_p0 rfl g6 ?_
    refine rr_iload_n dX7_goes_17 rfl ?_
    obtain ⟨r8, σ9, e7, h⟩ := ab_2 h
    refine rr_Si (as := [am_i (σ4 p0 5), am_i p1]) (rest := []) dX7_goes_18 ml_7_167 (Or.inl rfl) rfl rfl (Nat.le_of_ble_eq_true rfl) ⟨rfl, rfl⟩ (Nat.le_of_ble_eq_true rfl) (fun _ k => t_X7_has (by omega) e7 k) ?_
    rcases ab_i h with ⟨c10, h⟩ | ⟨c10, h⟩
    · refine rr_if_eq_p (t := 40) dX7_goes_21 (by decide) c10 ?_
      refine rr_iconst dX7_goes_40 (by decide) ?_
      obtain ⟨rfl, rfl⟩ := ab_r2 h
      exact rr_zret dX7_goes_41 rfl (Or.inl rfl) hQ
    · refine rr_if_eq_n (t := 40) dX7_goes_21 (by decide) c10 ?_
      refine rr_aload_n dX7_goes_24 rfl ?_
      refine rr_bipush dX7_goes_25 (by decide) ?_
      refine rr_iconst dX7_goes_27 (by decide) ?_
      refine rr_iload_n dX7_goes_28 rfl ?_
      refine rr_imul dX7_goes_29 ?_
      refine rr_iadd dX7_goes_30 ?_
      obtain ⟨g11, h⟩ := ab_g h
      refine rr_iald (nz := (p0_n : Int)) dX7_goes_31 hs_p0 rfl g11 ?_
      refine rr_iload_n dX7_goes_32 rfl ?_
      rcases ab_i h with ⟨c12, h⟩ | ⟨c12, h⟩
      · refine rr_icmp_ne_p (t := 40) dX7_goes_33 (by decide) c12 ?_
        refine rr_iconst dX7_goes_36 (by decide) ?_
        refine rr_goto (t := 41) dX7_goes_37 (by decide) ?_
        obtain ⟨rfl, rfl⟩ := ab_r2 h
        exact rr_zret dX7_goes_41 rfl (Or.inr rfl) hQ
      · refine rr_icmp_ne_n (t := 40) dX7_goes_33 (by decide) c12 ?_
        refine rr_iconst dX7_goes_40 (by decide) ?_
        obtain ⟨rfl, rfl⟩ := ab_r2 h
        exact rr_zret dX7_goes_41 rfl (Or.inl rfl) hQ
theorem u_X7_goes {n : Nat} {p0 : Nat} {p0_n : Nat} {p1 : Int} {p2 : Int} {σ σr : am_Mem} {rr : Int} (h : f_X7_goes n p0 p0_n p1 p2 σ = some (rr, σr)) : σr = σ := by
  unfold f_X7_goes at h
  have fr : σ = σ := rfl
  obtain ⟨g1, h⟩ := ab_g h
  obtain ⟨r3, σ4, e2, h⟩ := ab_2 h
  have fr := (u_X7_in e2).trans fr
  rcases ab_i h with ⟨c5, h⟩ | ⟨c5, h⟩
  · obtain ⟨q1, q2⟩ := ab_r2 h
    exact q2.symm.trans fr
  · obtain ⟨g6, h⟩ := ab_g h
    obtain ⟨r8, σ9, e7, h⟩ := ab_2 h
    have fr := (u_X7_has e7).trans fr
    rcases ab_i h with ⟨c10, h⟩ | ⟨c10, h⟩
    · obtain ⟨q1, q2⟩ := ab_r2 h
      exact q2.symm.trans fr
    · obtain ⟨g11, h⟩ := ab_g h
      rcases ab_i h with ⟨c12, h⟩ | ⟨c12, h⟩
      · obtain ⟨q1, q2⟩ := ab_r2 h
        exact q2.symm.trans fr
      · obtain ⟨q1, q2⟩ := ab_r2 h
        exact q2.symm.trans fr
/-! MoodFareModel.isStreet -/
def f_X7_isStreet (n : Nat) (p1 : Int) (σ : am_Mem) : Option (Int × am_Mem) :=
  am_b2 (f_X7_in n p1 0 (am_w ((σ 81 25) - 1)) σ) fun r2 σ3 => if r2 = 0 ∨ r2 = 1 then some (r2, σ3) else none
theorem t_X7_isStreet {L n d : Nat} {Q : am_Post} {p1 : Int} {σ σr : am_Mem} {rr : Int} (hd : 1 < d) (h : f_X7_isStreet n p1 σ = some (rr, σr)) (hQ : Q (some (am_i rr)) (rm_h L σr)) : xs_aw d me_X7_isStreet [am_r 75, am_i p1] (rm_h L σ) Q := by
  obtain ⟨d, rfl⟩ : ∃ k, d = k + 1 := ⟨d - 1, by omega⟩
  have hd : 1 ≤ d := by omega
  unfold f_X7_isStreet at h
  show xs_AW (xs_aw d) me_X7_isStreet Q 0 [some (am_r 75), some (am_i p1)] [] (rm_h L σ)
  refine rr_iload_n dX7_isStreet_0 rfl ?_
  refine rr_iconst dX7_isStreet_1 (by decide) ?_
  refine rr_aload_n dX7_isStreet_2 rfl ?_
  refine rr_getr (t := 81) dX7_isStreet_3 fl_7_25 (sh_75 L) ⟨(by decide), by decide⟩ rfl rfl ?_
  refine rr_bipush dX7_isStreet_6 (by decide) ?_
  refine rr_iald (nz := 42) dX7_isStreet_8 (sh_81 L) rfl ⟨by decide, by decide⟩ ?_
  refine rr_iconst dX7_isStreet_9 (by decide) ?_
  refine rr_isub dX7_isStreet_10 ?_
  obtain ⟨r2, σ3, e1, h⟩ := ab_2 h
  refine rr_Si (as := [am_i p1, am_i 0, am_i (am_w ((σ 81 25) - 1))]) (rest := []) dX7_isStreet_11 ml_7_71 (Or.inl rfl) rfl rfl (Nat.le_of_ble_eq_true rfl) ⟨rfl, rfl⟩ (Nat.le_of_ble_eq_true rfl) (fun _ k => t_X7_in (by omega) e1 k) ?_
  obtain ⟨g4, h⟩ := ab_g h
  obtain ⟨rfl, rfl⟩ := ab_r2 h
  exact rr_zret dX7_isStreet_14 rfl g4 hQ
theorem u_X7_isStreet {n : Nat} {p1 : Int} {σ σr : am_Mem} {rr : Int} (h : f_X7_isStreet n p1 σ = some (rr, σr)) : σr = σ := by
  unfold f_X7_isStreet at h
  have fr : σ = σ := rfl
  obtain ⟨r2, σ3, e1, h⟩ := ab_2 h
  have fr := (u_X7_in e1).trans fr
  obtain ⟨g4, h⟩ := ab_g h
  obtain ⟨q1, q2⟩ := ab_r2 h
  exact q2.symm.trans fr
/-! MoodFareModel.notes -/
def fb_X7_notes_49 (n : Nat) (σ : am_Mem) : Option am_Mem :=
  am_b1 (f_X7_copies n 81 42 84 1008 0 (am_w (42 * (σ 75 17))) σ) fun σ11 => am_b1 (some (am_up σ11 75 17 (am_w ((σ11 75 17) + 1)))) fun σ12 => some σ12
def fb_X7_notes_11 (n : Nat) (kh11 : Int → am_Mem → Option am_Mem) (x1 : Int) (σ : am_Mem) : Option am_Mem :=
  if x1 < 966 then (if (0 : Int) ≤ am_w (x1 + 42) ∧ am_w (x1 + 42) < 1008 then if (0 : Int) ≤ x1 ∧ x1 < 1008 then am_b1 (some (am_up σ 84 x1 (σ 84 (am_w (x1 + 42))))) fun σ5 => kh11 (am_w (x1 + 1)) σ5 else none else none) else (am_b1 (some (am_up σ 75 17 (am_w ((σ 75 17) - 1)))) fun σ7 => fb_X7_notes_49 n σ7)
def fl_X7_notes_11 (n : Nat) : Nat → Int → am_Mem → Option am_Mem
  | 0, _, _ => none
  | m + 1, x1, σ => fb_X7_notes_11 n (fun yx1 σ => fl_X7_notes_11 n m yx1 σ) x1 σ
def f_X7_notes (n : Nat) (σ : am_Mem) : Option am_Mem :=
  if σ 75 17 = 24 then (fl_X7_notes_11 n n 0 σ) else (fb_X7_notes_49 n σ)
theorem tb_X7_notes_49 {L n d : Nat} {Q : am_Post} {o1 : Option am_V} {σ σr : am_Mem} (hd : 1 ≤ d) (hQ : Q none (rm_h L σr)) (h : fb_X7_notes_49 n σ = some σr) : xs_AW (xs_aw d) me_X7_notes Q 49 [some (am_r 75), o1] [] (rm_h L σ) := by
  unfold fb_X7_notes_49 at h
  refine rr_aload_n dX7_notes_49 rfl ?_
  refine rr_getr (t := 81) dX7_notes_50 fl_7_25 (sh_75 L) ⟨(by decide), by decide⟩ rfl rfl ?_
  refine rr_iconst dX7_notes_53 (by decide) ?_
  refine rr_aload_n dX7_notes_54 rfl ?_
  refine rr_getr (t := 84) dX7_notes_55 fl_7_34 (sh_75 L) ⟨(by decide), by decide⟩ rfl rfl ?_
  refine rr_bipush dX7_notes_58 (by decide) ?_
  refine rr_aload_n dX7_notes_60 rfl ?_
  refine rr_geti (kz := 17) dX7_notes_61 fl_7_160 (sh_75 L) ⟨(by decide), by decide⟩ rfl rfl ?_
  refine rr_imul dX7_notes_64 ?_
  obtain ⟨σ11, e9, h⟩ := ab_1 h
  refine rr_Sv (as := [am_r 81, am_i 0, am_r 84, am_i (am_w (42 * (σ 75 17)))]) (rest := []) dX7_notes_65 ml_7_156 (Or.inl rfl) rfl rfl (Nat.le_of_ble_eq_true rfl) ⟨rfl, rfl⟩ (Nat.le_of_ble_eq_true rfl) (fun _ k => t_X7_copies (by omega) (sh_81 L) (by decide) (sh_84 L) (by decide) e9 k) ?_
  refine rr_aload_n dX7_notes_68 rfl ?_
  refine rr_dup dX7_notes_69 rfl ?_
  refine rr_geti (kz := 17) dX7_notes_70 fl_7_160 (sh_75 L) ⟨(by decide), by decide⟩ rfl rfl ?_
  refine rr_iconst dX7_notes_73 (by decide) ?_
  refine rr_iadd dX7_notes_74 ?_
  obtain ⟨σ12, e13, h⟩ := ab_1 h
  refine rr_puti (kz := 17) dX7_notes_75 fl_7_160 (sh_75 L) ⟨(by decide), by decide⟩ ⟨rfl, rfl⟩ rfl (ab_m e13 ?_)
  obtain rfl := ab_r1 h
  exact rr_vret dX7_notes_78 rfl hQ
theorem tb_X7_notes_11 {L n d : Nat} {Q : am_Post} {kh11 : Int → am_Mem → Option am_Mem} {x1 : Int} {σ σr : am_Mem} (hd : 1 ≤ d) (hk11 : ∀ (y1 : Int) (σ : am_Mem), kh11 y1 σ = some σr → xs_AW (xs_aw d) me_X7_notes Q 11 [some (am_r 75), some (am_i y1)] [] (rm_h L σ)) (hQ : Q none (rm_h L σr)) (h : fb_X7_notes_11 n kh11 x1 σ = some σr) : xs_AW (xs_aw d) me_X7_notes Q 11 [some (am_r 75), some (am_i x1)] [] (rm_h L σ) := by
  unfold fb_X7_notes_11 at h
  refine rr_iload_n dX7_notes_11 rfl ?_
  refine rr_sipush dX7_notes_12 (by decide) ?_
  rcases ab_i h with ⟨c2, h⟩ | ⟨c2, h⟩
  · refine rr_icmp_ge_p (t := 39) dX7_notes_15 (by decide) c2 ?_
    refine rr_aload_n dX7_notes_18 rfl ?_
    refine rr_getr (t := 84) dX7_notes_19 fl_7_34 (sh_75 L) ⟨(by decide), by decide⟩ rfl rfl ?_
    refine rr_iload_n dX7_notes_22 rfl ?_
    refine rr_aload_n dX7_notes_23 rfl ?_
    refine rr_getr (t := 84) dX7_notes_24 fl_7_34 (sh_75 L) ⟨(by decide), by decide⟩ rfl rfl ?_
    refine rr_iload_n dX7_notes_27 rfl ?_
    refine rr_bipush dX7_notes_28 (by decide) ?_
    refine rr_iadd dX7_notes_30 ?_
    obtain ⟨g3, h⟩ := ab_g h
    refine rr_iald (nz := 1008) dX7_notes_31 (sh_84 L) rfl g3 ?_
    obtain ⟨g4, h⟩ := ab_g h
    refine rr_iast (nz := 1008) dX7_notes_32 (sh_84 L) (by decide) rfl g4 ?_
    obtain ⟨σ5, e6, h⟩ := ab_1 h
    refine ab_m e6 ?_
    refine rr_iinc (ls' := [some (am_r 75), some (am_i (am_w (x1 + 1)))]) dX7_notes_33 rfl (Nat.le_of_ble_eq_true rfl) rfl ?_
    refine rr_goto (t := 11) dX7_notes_36 (by decide) ?_
    exact hk11 _ _ h
  · refine rr_icmp_ge_n (t := 39) dX7_notes_15 (by decide) c2 ?_
    refine rr_aload_n dX7_notes_39 rfl ?_
    refine rr_dup dX7_notes_40 rfl ?_
    refine rr_geti (kz := 17) dX7_notes_41 fl_7_160 (sh_75 L) ⟨(by decide), by decide⟩ rfl rfl ?_
    refine rr_iconst dX7_notes_44 (by decide) ?_
    refine rr_isub dX7_notes_45 ?_
    obtain ⟨σ7, e8, h⟩ := ab_1 h
    refine rr_puti (kz := 17) dX7_notes_46 fl_7_160 (sh_75 L) ⟨(by decide), by decide⟩ ⟨rfl, rfl⟩ rfl (ab_m e8 ?_)
    exact tb_X7_notes_49 hd hQ h
theorem tl_X7_notes_11 {L n d : Nat} {Q : am_Post} {σr : am_Mem} (hd : 1 ≤ d) (hQ : Q none (rm_h L σr)) : ∀ (m : Nat) (x1 : Int) (σ : am_Mem), fl_X7_notes_11 n m x1 σ = some σr → xs_AW (xs_aw d) me_X7_notes Q 11 [some (am_r 75), some (am_i x1)] [] (rm_h L σ) := by
  intro m
  induction m with
  | zero => intro x1 σ h; cases h
  | succ m ih =>
    intro x1 σ h
    exact tb_X7_notes_11 hd (fun x1 σ h => ih x1 σ h) hQ h
theorem t_X7_notes {L n d : Nat} {Q : am_Post} {σ σr : am_Mem} (hd : 1 < d) (h : f_X7_notes n σ = some σr) (hQ : Q none (rm_h L σr)) : xs_aw d me_X7_notes [am_r 75] (rm_h L σ) Q := by
  obtain ⟨d, rfl⟩ : ∃ k, d = k + 1 := ⟨d - 1, by omega⟩
  have hd : 1 ≤ d := by omega
  unfold f_X7_notes at h
  show xs_AW (xs_aw d) me_X7_notes Q 0 [some (am_r 75), none] [] (rm_h L σ)
  refine rr_aload_n dX7_notes_0 rfl ?_
  refine rr_geti (kz := 17) dX7_notes_1 fl_7_160 (sh_75 L) ⟨(by decide), by decide⟩ rfl rfl ?_
  refine rr_bipush dX7_notes_4 (by decide) ?_
  rcases ab_i h with ⟨c1, h⟩ | ⟨c1, h⟩
  · refine rr_icmp_ne_p (t := 49) dX7_notes_6 (by decide) c1 ?_
    refine rr_iconst dX7_notes_9 (by decide) ?_
    refine rr_istore_n (ls' := [some (am_r 75), some (am_i 0)]) dX7_notes_10 (Nat.le_of_ble_eq_true rfl) rfl ?_
    exact tl_X7_notes_11 hd hQ n _ _ h
  · refine rr_icmp_ne_n (t := 49) dX7_notes_6 (by decide) c1 ?_
    exact tb_X7_notes_49 hd hQ h
def nw_X7_notes (a : Nat) : Prop := a ≠ 75 ∧ a ≠ 84
theorem wb_X7_notes_49 {n : Nat} {σ σr : am_Mem} (h : fb_X7_notes_49 n σ = some σr) : ∀ a : Nat, nw_X7_notes a → σr a = σ a := by
  unfold fb_X7_notes_49 at h
  have fr : ∀ a : Nat, nw_X7_notes a → σ a = σ a := fun _ _ => rfl
  obtain ⟨σ11, e9, h⟩ := ab_1 h
  have fr := fun (a : Nat) (ha : nw_X7_notes a) => (w_X7_copies e9 a (by unfold nw_X7_notes at ha; unfold nw_X7_copies; omega)).trans (fr a ha)
  obtain ⟨σ12, e13, h⟩ := ab_1 h
  have fr := fun (a : Nat) (ha : nw_X7_notes a) => (ab_fu e13 (show a ≠ 75 by unfold nw_X7_notes at ha; omega)).trans (fr a ha)
  have q2 := ab_r1 h
  exact fun a ha => (congrFun q2.symm a).trans (fr a ha)
theorem wb_X7_notes_11 {n : Nat} {kh11 : Int → am_Mem → Option am_Mem} {x1 : Int} {σ σr : am_Mem} (hk11 : ∀ (y1 : Int) (σ : am_Mem), kh11 y1 σ = some σr → ∀ a : Nat, nw_X7_notes a → σr a = σ a) (h : fb_X7_notes_11 n kh11 x1 σ = some σr) : ∀ a : Nat, nw_X7_notes a → σr a = σ a := by
  unfold fb_X7_notes_11 at h
  have fr : ∀ a : Nat, nw_X7_notes a → σ a = σ a := fun _ _ => rfl
  rcases ab_i h with ⟨c2, h⟩ | ⟨c2, h⟩
  · obtain ⟨g3, h⟩ := ab_g h
    obtain ⟨g4, h⟩ := ab_g h
    obtain ⟨σ5, e6, h⟩ := ab_1 h
    have fr := fun (a : Nat) (ha : nw_X7_notes a) => (ab_fu e6 (show a ≠ 84 by unfold nw_X7_notes at ha; omega)).trans (fr a ha)
    exact fun a ha => (hk11 _ _ h a ha).trans (fr a ha)
  · obtain ⟨σ7, e8, h⟩ := ab_1 h
    have fr := fun (a : Nat) (ha : nw_X7_notes a) => (ab_fu e8 (show a ≠ 75 by unfold nw_X7_notes at ha; omega)).trans (fr a ha)
    exact fun a ha => (wb_X7_notes_49 h a ha).trans (fr a ha)
theorem wl_X7_notes_11 {n : Nat} {σr : am_Mem} : ∀ (m : Nat) (x1 : Int) (σ : am_Mem), fl_X7_notes_11 n m x1 σ = some σr → ∀ a : Nat, nw_X7_notes a → σr a = σ a := by
  intro m
  induction m with
  | zero => intro x1 σ h; cases h
  | succ m ih =>
    intro x1 σ h
    exact wb_X7_notes_11 (fun x1 σ h => ih x1 σ h) h
theorem w_X7_notes {n : Nat} {σ σr : am_Mem} (h : f_X7_notes n σ = some σr) : ∀ a : Nat, nw_X7_notes a → σr a = σ a := by
  unfold f_X7_notes at h
  have fr : ∀ a : Nat, nw_X7_notes a → σ a = σ a := fun _ _ => rfl
  rcases ab_i h with ⟨c1, h⟩ | ⟨c1, h⟩
  · exact fun a ha => (wl_X7_notes_11 n _ _ h a ha).trans (fr a ha)
  · exact fun a ha => (wb_X7_notes_49 h a ha).trans (fr a ha)
/-! MoodFareModel.passed -/
def fb_X7_passed_126 (n : Nat) (p0 : Nat) (p0_n : Nat) (x1 : Int) (s0 : Int) (σ : am_Mem) : Option (Int × am_Mem) :=
  if (0 : Int) ≤ am_w (7 + (am_w (3 * x1))) ∧ am_w (7 + (am_w (3 * x1))) < (p0_n : Int) then if σ p0 (am_w (7 + (am_w (3 * x1)))) = 5 then (some (am_w (Int.tdiv s0 2), σ)) else (some (s0, σ)) else none
def f_X7_passed (n : Nat) (p0 : Nat) (p0_n : Nat) (p1 : Int) (p2 : Int) (p3 : Int) (σ : am_Mem) : Option (Int × am_Mem) :=
  if (0 : Int) ≤ am_w ((am_w (7 + (am_w (3 * p1)))) + 1) ∧ am_w ((am_w (7 + (am_w (3 * p1)))) + 1) < (p0_n : Int) then if (0 : Int) ≤ am_w (7 + (am_w (3 * p1))) ∧ am_w (7 + (am_w (3 * p1))) < (p0_n : Int) then if σ p0 (am_w (7 + (am_w (3 * p1)))) = 1 then (if am_w (p2 + (σ p0 (am_w ((am_w (7 + (am_w (3 * p1)))) + 1)))) < 0 then (fb_X7_passed_126 n p0 p0_n p1 0 σ) else (if am_w (p2 + (σ p0 (am_w ((am_w (7 + (am_w (3 * p1)))) + 1)))) ≤ 9 then (fb_X7_passed_126 n p0 p0_n p1 (am_w (p2 + (σ p0 (am_w ((am_w (7 + (am_w (3 * p1)))) + 1))))) σ) else (fb_X7_passed_126 n p0 p0_n p1 9 σ))) else (if σ p0 (am_w (7 + (am_w (3 * p1)))) = 2 then (if p2 ≤ 4 then (if am_w (p2 + (σ p0 (am_w ((am_w (7 + (am_w (3 * p1)))) + 1)))) < 0 then (fb_X7_passed_126 n p0 p0_n p1 0 σ) else (if am_w (p2 + (σ p0 (am_w ((am_w (7 + (am_w (3 * p1)))) + 1)))) ≤ 9 then (fb_X7_passed_126 n p0 p0_n p1 (am_w (p2 + (σ p0 (am_w ((am_w (7 + (am_w (3 * p1)))) + 1))))) σ) else (fb_X7_passed_126 n p0 p0_n p1 9 σ))) else (if am_w (p2 + (am_w (2 * (σ p0 (am_w ((am_w (7 + (am_w (3 * p1)))) + 1)))))) < 0 then (fb_X7_passed_126 n p0 p0_n p1 0 σ) else (if am_w (p2 + (am_w (2 * (σ p0 (am_w ((am_w (7 + (am_w (3 * p1)))) + 1)))))) ≤ 9 then (fb_X7_passed_126 n p0 p0_n p1 (am_w (p2 + (am_w (2 * (σ p0 (am_w ((am_w (7 + (am_w (3 * p1)))) + 1))))))) σ) else (fb_X7_passed_126 n p0 p0_n p1 9 σ)))) else (if σ p0 (am_w (7 + (am_w (3 * p1)))) = 3 then (if Int.tmod p3 2 = 1 then (if am_w (p2 + (σ p0 (am_w ((am_w (7 + (am_w (3 * p1)))) + 1)))) < 0 then (fb_X7_passed_126 n p0 p0_n p1 0 σ) else (if am_w (p2 + (σ p0 (am_w ((am_w (7 + (am_w (3 * p1)))) + 1)))) ≤ 9 then (fb_X7_passed_126 n p0 p0_n p1 (am_w (p2 + (σ p0 (am_w ((am_w (7 + (am_w (3 * p1)))) + 1))))) σ) else (fb_X7_passed_126 n p0 p0_n p1 9 σ))) else (if am_w (p2 + 0) < 0 then (fb_X7_passed_126 n p0 p0_n p1 0 σ) else (if am_w (p2 + 0) ≤ 9 then (fb_X7_passed_126 n p0 p0_n p1 (am_w (p2 + 0)) σ) else (fb_X7_passed_126 n p0 p0_n p1 9 σ)))) else (if am_w (p2 + (am_w (-(σ p0 (am_w ((am_w (7 + (am_w (3 * p1)))) + 1)))))) < 0 then (fb_X7_passed_126 n p0 p0_n p1 0 σ) else (if am_w (p2 + (am_w (-(σ p0 (am_w ((am_w (7 + (am_w (3 * p1)))) + 1)))))) ≤ 9 then (fb_X7_passed_126 n p0 p0_n p1 (am_w (p2 + (am_w (-(σ p0 (am_w ((am_w (7 + (am_w (3 * p1)))) + 1))))))) σ) else (fb_X7_passed_126 n p0 p0_n p1 9 σ))))) else none else none
theorem tb_X7_passed_126 {L n d : Nat} {Q : am_Post} {p0 : Nat} {p0_n : Nat} {x1 : Int} {s0 : Int} {o2 : Int} {o3 : Int} {o4 : Int} {o5 : Int} {o6 : Int} {σ σr : am_Mem} {rr : Int} (hd : 0 ≤ d) (hs_p0 : (xr_Sh L)[p0]? = some (100, p0_n, [])) (h3_p0 : 3 ≤ p0) (hQ : Q (some (am_i rr)) (rm_h L σr)) (h : fb_X7_passed_126 n p0 p0_n x1 s0 σ = some (rr, σr)) : xs_AW (xs_aw d) me_X7_passed Q 126 [some (am_r p0), some (am_i x1), some (am_i o2), some (am_i o3), some (am_i o4), some (am_i o5), some (am_i o6)] [am_i s0] (rm_h L σ) := by
  unfold fb_X7_passed_126 at h
  refine rr_istore (ls' := [some (am_r p0), some (am_i x1), some (am_i o2), some (am_i o3), some (am_i o4), some (am_i o5), some (am_i s0)]) dX7_passed_126 (Nat.le_of_ble_eq_true rfl) rfl ?_
  refine rr_aload_n dX7_passed_128 rfl ?_
  refine rr_bipush dX7_passed_129 (by decide) ?_
  refine rr_iconst dX7_passed_131 (by decide) ?_
  refine rr_iload_n dX7_passed_132 rfl ?_
  refine rr_imul dX7_passed_133 ?_
  refine rr_iadd dX7_passed_134 ?_
  obtain ⟨g5, h⟩ := ab_g h
  refine rr_iald (nz := (p0_n : Int)) dX7_passed_135 hs_p0 rfl g5 ?_
  refine rr_iconst dX7_passed_136 (by decide) ?_
  rcases ab_i h with ⟨c6, h⟩ | ⟨c6, h⟩
  · refine rr_icmp_ne_p (t := 147) dX7_passed_137 (by decide) c6 ?_
    refine rr_iload dX7_passed_140 rfl ?_
    refine rr_iconst dX7_passed_142 (by decide) ?_
    refine rr_idiv dX7_passed_143 (by decide) ?_
    refine rr_goto (t := 149) dX7_passed_144 (by decide) ?_
    obtain ⟨rfl, rfl⟩ := ab_r2 h
    exact rr_iret dX7_passed_149 rfl hQ
  · refine rr_icmp_ne_n (t := 147) dX7_passed_137 (by decide) c6 ?_
    refine rr_iload dX7_passed_147 rfl ?_
    obtain ⟨rfl, rfl⟩ := ab_r2 h
    exact rr_iret dX7_passed_149 rfl hQ
theorem t_X7_passed {L n d : Nat} {Q : am_Post} {p0 : Nat} {p0_n : Nat} {p1 : Int} {p2 : Int} {p3 : Int} {σ σr : am_Mem} {rr : Int} (hd : 0 < d) (hs_p0 : (xr_Sh L)[p0]? = some (100, p0_n, [])) (h3_p0 : 3 ≤ p0) (h : f_X7_passed n p0 p0_n p1 p2 p3 σ = some (rr, σr)) (hQ : Q (some (am_i rr)) (rm_h L σr)) : xs_aw d me_X7_passed [am_r p0, am_i p1, am_i p2, am_i p3] (rm_h L σ) Q := by
  obtain ⟨d, rfl⟩ : ∃ k, d = k + 1 := ⟨d - 1, by omega⟩
  have hd : 0 ≤ d := by omega
  unfold f_X7_passed at h
  show xs_AW (xs_aw d) me_X7_passed Q 0 [some (am_r p0), some (am_i p1), some (am_i p2), some (am_i p3), none, none, none] [] (rm_h L σ)
  refine rr_aload_n dX7_passed_0 rfl ?_
  refine rr_bipush dX7_passed_1 (by decide) ?_
  refine rr_iconst dX7_passed_3 (by decide) ?_
  refine rr_iload_n dX7_passed_4 rfl ?_
  refine rr_imul dX7_passed_5 ?_
  refine rr_iadd dX7_passed_6 ?_
  refine rr_iconst dX7_passed_7 (by decide) ?_
  refine rr_iadd dX7_passed_8 ?_
  obtain ⟨g1, h⟩ := ab_g h
  refine rr_iald (nz := (p0_n : Int)) dX7_passed_9 hs_p0 rfl g1 ?_
  refine rr_istore (ls' := [some (am_r p0), some (am_i p1), some (am_i p2), some (am_i p3), some (am_i (σ p0 (am_w ((am_w (7 + (am_w (3 * p1)))) + 1)))), none, none]) dX7_passed_10 (Nat.le_of_ble_eq_true rfl) rfl ?_
  refine rr_iconst dX7_passed_12 (by decide) ?_
  refine rr_istore (ls' := [some (am_r p0), some (am_i p1), some (am_i p2), some (am_i p3), some (am_i (σ p0 (am_w ((am_w (7 + (am_w (3 * p1)))) + 1)))), some (am_i 0), none]) dX7_passed_13 (Nat.le_of_ble_eq_true rfl) rfl ?_
  refine rr_aload_n dX7_passed_15 rfl ?_
  refine rr_bipush dX7_passed_16 (by decide) ?_
  refine rr_iconst dX7_passed_18 (by decide) ?_
  refine rr_iload_n dX7_passed_19 rfl ?_
  refine rr_imul dX7_passed_20 ?_
  refine rr_iadd dX7_passed_21 ?_
  obtain ⟨g2, h⟩ := ab_g h
  refine rr_iald (nz := (p0_n : Int)) dX7_passed_22 hs_p0 rfl g2 ?_
  rcases ab_i h with ⟨c3, h⟩ | ⟨c3, h⟩
  · refine rr_tsw_in (off := 25) (t := 48) dX7_passed_23 (by omega) (by rw [c3]; rfl) (by decide) ?_
    refine rr_iload dX7_passed_48 rfl ?_
    refine rr_istore (ls' := [some (am_r p0), some (am_i p1), some (am_i p2), some (am_i p3), some (am_i (σ p0 (am_w ((am_w (7 + (am_w (3 * p1)))) + 1)))), some (am_i (σ p0 (am_w ((am_w (7 + (am_w (3 * p1)))) + 1)))), none]) dX7_passed_50 (Nat.le_of_ble_eq_true rfl) rfl ?_
    refine rr_goto (t := 97) dX7_passed_52 (by decide) ?_
    refine rr_iload_n dX7_passed_97 rfl ?_
    refine rr_iload dX7_passed_98 rfl ?_
    refine rr_iadd dX7_passed_100 ?_
    refine rr_istore (ls' := [some (am_r p0), some (am_i p1), some (am_i p2), some (am_i p3), some (am_i (σ p0 (am_w ((am_w (7 + (am_w (3 * p1)))) + 1)))), some (am_i (σ p0 (am_w ((am_w (7 + (am_w (3 * p1)))) + 1)))), some (am_i (am_w (p2 + (σ p0 (am_w ((am_w (7 + (am_w (3 * p1)))) + 1))))))]) dX7_passed_101 (Nat.le_of_ble_eq_true rfl) rfl ?_
    refine rr_iload dX7_passed_103 rfl ?_
    rcases ab_i h with ⟨c4, h⟩ | ⟨c4, h⟩
    · refine rr_if_ge_p (t := 112) dX7_passed_105 (by decide) c4 ?_
      refine rr_iconst dX7_passed_108 (by decide) ?_
      refine rr_goto (t := 126) dX7_passed_109 (by decide) ?_
      exact tb_X7_passed_126 hd hs_p0 h3_p0 hQ h
    · refine rr_if_ge_n (t := 112) dX7_passed_105 (by decide) c4 ?_
      refine rr_iload dX7_passed_112 rfl ?_
      refine rr_bipush dX7_passed_114 (by decide) ?_
      rcases ab_i h with ⟨c7, h⟩ | ⟨c7, h⟩
      · refine rr_icmp_le_p (t := 124) dX7_passed_116 (by decide) c7 ?_
        refine rr_iload dX7_passed_124 rfl ?_
        exact tb_X7_passed_126 hd hs_p0 h3_p0 hQ h
      · refine rr_icmp_le_n (t := 124) dX7_passed_116 (by decide) c7 ?_
        refine rr_bipush dX7_passed_119 (by decide) ?_
        refine rr_goto (t := 126) dX7_passed_121 (by decide) ?_
        exact tb_X7_passed_126 hd hs_p0 h3_p0 hQ h
  rcases ab_i h with ⟨c8, h⟩ | ⟨c8, h⟩
  · refine rr_tsw_in (off := 32) (t := 55) dX7_passed_23 (by omega) (by rw [c8]; rfl) (by decide) ?_
    refine rr_iload_n dX7_passed_55 rfl ?_
    refine rr_iconst dX7_passed_56 (by decide) ?_
    rcases ab_i h with ⟨c9, h⟩ | ⟨c9, h⟩
    · refine rr_icmp_le_p (t := 67) dX7_passed_57 (by decide) c9 ?_
      refine rr_iload dX7_passed_67 rfl ?_
      refine rr_istore (ls' := [some (am_r p0), some (am_i p1), some (am_i p2), some (am_i p3), some (am_i (σ p0 (am_w ((am_w (7 + (am_w (3 * p1)))) + 1)))), some (am_i (σ p0 (am_w ((am_w (7 + (am_w (3 * p1)))) + 1)))), none]) dX7_passed_69 (Nat.le_of_ble_eq_true rfl) rfl ?_
      refine rr_goto (t := 97) dX7_passed_71 (by decide) ?_
      refine rr_iload_n dX7_passed_97 rfl ?_
      refine rr_iload dX7_passed_98 rfl ?_
      refine rr_iadd dX7_passed_100 ?_
      refine rr_istore (ls' := [some (am_r p0), some (am_i p1), some (am_i p2), some (am_i p3), some (am_i (σ p0 (am_w ((am_w (7 + (am_w (3 * p1)))) + 1)))), some (am_i (σ p0 (am_w ((am_w (7 + (am_w (3 * p1)))) + 1)))), some (am_i (am_w (p2 + (σ p0 (am_w ((am_w (7 + (am_w (3 * p1)))) + 1))))))]) dX7_passed_101 (Nat.le_of_ble_eq_true rfl) rfl ?_
      refine rr_iload dX7_passed_103 rfl ?_
      rcases ab_i h with ⟨c10, h⟩ | ⟨c10, h⟩
      · refine rr_if_ge_p (t := 112) dX7_passed_105 (by decide) c10 ?_
        refine rr_iconst dX7_passed_108 (by decide) ?_
        refine rr_goto (t := 126) dX7_passed_109 (by decide) ?_
        exact tb_X7_passed_126 hd hs_p0 h3_p0 hQ h
      · refine rr_if_ge_n (t := 112) dX7_passed_105 (by decide) c10 ?_
        refine rr_iload dX7_passed_112 rfl ?_
        refine rr_bipush dX7_passed_114 (by decide) ?_
        rcases ab_i h with ⟨c11, h⟩ | ⟨c11, h⟩
        · refine rr_icmp_le_p (t := 124) dX7_passed_116 (by decide) c11 ?_
          refine rr_iload dX7_passed_124 rfl ?_
          exact tb_X7_passed_126 hd hs_p0 h3_p0 hQ h
        · refine rr_icmp_le_n (t := 124) dX7_passed_116 (by decide) c11 ?_
          refine rr_bipush dX7_passed_119 (by decide) ?_
          refine rr_goto (t := 126) dX7_passed_121 (by decide) ?_
          exact tb_X7_passed_126 hd hs_p0 h3_p0 hQ h
    · refine rr_icmp_le_n (t := 67) dX7_passed_57 (by decide) c9 ?_
      refine rr_iconst dX7_passed_60 (by decide) ?_
      refine rr_iload dX7_passed_61 rfl ?_
      refine rr_imul dX7_passed_63 ?_
      refine rr_goto (t := 69) dX7_passed_64 (by decide) ?_
      refine rr_istore (ls' := [some (am_r p0), some (am_i p1), some (am_i p2), some (am_i p3), some (am_i (σ p0 (am_w ((am_w (7 + (am_w (3 * p1)))) + 1)))), some (am_i (am_w (2 * (σ p0 (am_w ((am_w (7 + (am_w (3 * p1)))) + 1)))))), none]) dX7_passed_69 (Nat.le_of_ble_eq_true rfl) rfl ?_
      refine rr_goto (t := 97) dX7_passed_71 (by decide) ?_
      refine rr_iload_n dX7_passed_97 rfl ?_
      refine rr_iload dX7_passed_98 rfl ?_
      refine rr_iadd dX7_passed_100 ?_
      refine rr_istore (ls' := [some (am_r p0), some (am_i p1), some (am_i p2), some (am_i p3), some (am_i (σ p0 (am_w ((am_w (7 + (am_w (3 * p1)))) + 1)))), some (am_i (am_w (2 * (σ p0 (am_w ((am_w (7 + (am_w (3 * p1)))) + 1)))))), some (am_i (am_w (p2 + (am_w (2 * (σ p0 (am_w ((am_w (7 + (am_w (3 * p1)))) + 1))))))))]) dX7_passed_101 (Nat.le_of_ble_eq_true rfl) rfl ?_
      refine rr_iload dX7_passed_103 rfl ?_
      rcases ab_i h with ⟨c12, h⟩ | ⟨c12, h⟩
      · refine rr_if_ge_p (t := 112) dX7_passed_105 (by decide) c12 ?_
        refine rr_iconst dX7_passed_108 (by decide) ?_
        refine rr_goto (t := 126) dX7_passed_109 (by decide) ?_
        exact tb_X7_passed_126 hd hs_p0 h3_p0 hQ h
      · refine rr_if_ge_n (t := 112) dX7_passed_105 (by decide) c12 ?_
        refine rr_iload dX7_passed_112 rfl ?_
        refine rr_bipush dX7_passed_114 (by decide) ?_
        rcases ab_i h with ⟨c13, h⟩ | ⟨c13, h⟩
        · refine rr_icmp_le_p (t := 124) dX7_passed_116 (by decide) c13 ?_
          refine rr_iload dX7_passed_124 rfl ?_
          exact tb_X7_passed_126 hd hs_p0 h3_p0 hQ h
        · refine rr_icmp_le_n (t := 124) dX7_passed_116 (by decide) c13 ?_
          refine rr_bipush dX7_passed_119 (by decide) ?_
          refine rr_goto (t := 126) dX7_passed_121 (by decide) ?_
          exact tb_X7_passed_126 hd hs_p0 h3_p0 hQ h
  rcases ab_i h with ⟨c14, h⟩ | ⟨c14, h⟩
  · refine rr_tsw_in (off := 51) (t := 74) dX7_passed_23 (by omega) (by rw [c14]; rfl) (by decide) ?_
    refine rr_iload_n dX7_passed_74 rfl ?_
    refine rr_iconst dX7_passed_75 (by decide) ?_
    refine rr_irem dX7_passed_76 (by decide) ?_
    refine rr_iconst dX7_passed_77 (by decide) ?_
    rcases ab_i h with ⟨c15, h⟩ | ⟨c15, h⟩
    · refine rr_icmp_ne_p (t := 86) dX7_passed_78 (by decide) c15 ?_
      refine rr_iload dX7_passed_81 rfl ?_
      refine rr_goto (t := 87) dX7_passed_83 (by decide) ?_
      refine rr_istore (ls' := [some (am_r p0), some (am_i p1), some (am_i p2), some (am_i p3), some (am_i (σ p0 (am_w ((am_w (7 + (am_w (3 * p1)))) + 1)))), some (am_i (σ p0 (am_w ((am_w (7 + (am_w (3 * p1)))) + 1)))), none]) dX7_passed_87 (Nat.le_of_ble_eq_true rfl) rfl ?_
      refine rr_goto (t := 97) dX7_passed_89 (by decide) ?_
      refine rr_iload_n dX7_passed_97 rfl ?_
      refine rr_iload dX7_passed_98 rfl ?_
      refine rr_iadd dX7_passed_100 ?_
      refine rr_istore (ls' := [some (am_r p0), some (am_i p1), some (am_i p2), some (am_i p3), some (am_i (σ p0 (am_w ((am_w (7 + (am_w (3 * p1)))) + 1)))), some (am_i (σ p0 (am_w ((am_w (7 + (am_w (3 * p1)))) + 1)))), some (am_i (am_w (p2 + (σ p0 (am_w ((am_w (7 + (am_w (3 * p1)))) + 1))))))]) dX7_passed_101 (Nat.le_of_ble_eq_true rfl) rfl ?_
      refine rr_iload dX7_passed_103 rfl ?_
      rcases ab_i h with ⟨c16, h⟩ | ⟨c16, h⟩
      · refine rr_if_ge_p (t := 112) dX7_passed_105 (by decide) c16 ?_
        refine rr_iconst dX7_passed_108 (by decide) ?_
        refine rr_goto (t := 126) dX7_passed_109 (by decide) ?_
        exact tb_X7_passed_126 hd hs_p0 h3_p0 hQ h
      · refine rr_if_ge_n (t := 112) dX7_passed_105 (by decide) c16 ?_
        refine rr_iload dX7_passed_112 rfl ?_
        refine rr_bipush dX7_passed_114 (by decide) ?_
        rcases ab_i h with ⟨c17, h⟩ | ⟨c17, h⟩
        · refine rr_icmp_le_p (t := 124) dX7_passed_116 (by decide) c17 ?_
          refine rr_iload dX7_passed_124 rfl ?_
          exact tb_X7_passed_126 hd hs_p0 h3_p0 hQ h
        · refine rr_icmp_le_n (t := 124) dX7_passed_116 (by decide) c17 ?_
          refine rr_bipush dX7_passed_119 (by decide) ?_
          refine rr_goto (t := 126) dX7_passed_121 (by decide) ?_
          exact tb_X7_passed_126 hd hs_p0 h3_p0 hQ h
    · refine rr_icmp_ne_n (t := 86) dX7_passed_78 (by decide) c15 ?_
      refine rr_iconst dX7_passed_86 (by decide) ?_
      refine rr_istore (ls' := [some (am_r p0), some (am_i p1), some (am_i p2), some (am_i p3), some (am_i (σ p0 (am_w ((am_w (7 + (am_w (3 * p1)))) + 1)))), some (am_i 0), none]) dX7_passed_87 (Nat.le_of_ble_eq_true rfl) rfl ?_
      refine rr_goto (t := 97) dX7_passed_89 (by decide) ?_
      refine rr_iload_n dX7_passed_97 rfl ?_
      refine rr_iload dX7_passed_98 rfl ?_
      refine rr_iadd dX7_passed_100 ?_
      refine rr_istore (ls' := [some (am_r p0), some (am_i p1), some (am_i p2), some (am_i p3), some (am_i (σ p0 (am_w ((am_w (7 + (am_w (3 * p1)))) + 1)))), some (am_i 0), some (am_i (am_w (p2 + 0)))]) dX7_passed_101 (Nat.le_of_ble_eq_true rfl) rfl ?_
      refine rr_iload dX7_passed_103 rfl ?_
      rcases ab_i h with ⟨c18, h⟩ | ⟨c18, h⟩
      · refine rr_if_ge_p (t := 112) dX7_passed_105 (by decide) c18 ?_
        refine rr_iconst dX7_passed_108 (by decide) ?_
        refine rr_goto (t := 126) dX7_passed_109 (by decide) ?_
        exact tb_X7_passed_126 hd hs_p0 h3_p0 hQ h
      · refine rr_if_ge_n (t := 112) dX7_passed_105 (by decide) c18 ?_
        refine rr_iload dX7_passed_112 rfl ?_
        refine rr_bipush dX7_passed_114 (by decide) ?_
        rcases ab_i h with ⟨c19, h⟩ | ⟨c19, h⟩
        · refine rr_icmp_le_p (t := 124) dX7_passed_116 (by decide) c19 ?_
          refine rr_iload dX7_passed_124 rfl ?_
          exact tb_X7_passed_126 hd hs_p0 h3_p0 hQ h
        · refine rr_icmp_le_n (t := 124) dX7_passed_116 (by decide) c19 ?_
          refine rr_bipush dX7_passed_119 (by decide) ?_
          refine rr_goto (t := 126) dX7_passed_121 (by decide) ?_
          exact tb_X7_passed_126 hd hs_p0 h3_p0 hQ h
  refine rr_tsw_out (t := 92) dX7_passed_23 (by omega) (by decide) ?_
  refine rr_iload dX7_passed_92 rfl ?_
  refine rr_ineg dX7_passed_94 ?_
  refine rr_istore (ls' := [some (am_r p0), some (am_i p1), some (am_i p2), some (am_i p3), some (am_i (σ p0 (am_w ((am_w (7 + (am_w (3 * p1)))) + 1)))), some (am_i (am_w (-(σ p0 (am_w ((am_w (7 + (am_w (3 * p1)))) + 1)))))), none]) dX7_passed_95 (Nat.le_of_ble_eq_true rfl) rfl ?_
  refine rr_iload_n dX7_passed_97 rfl ?_
  refine rr_iload dX7_passed_98 rfl ?_
  refine rr_iadd dX7_passed_100 ?_
  refine rr_istore (ls' := [some (am_r p0), some (am_i p1), some (am_i p2), some (am_i p3), some (am_i (σ p0 (am_w ((am_w (7 + (am_w (3 * p1)))) + 1)))), some (am_i (am_w (-(σ p0 (am_w ((am_w (7 + (am_w (3 * p1)))) + 1)))))), some (am_i (am_w (p2 + (am_w (-(σ p0 (am_w ((am_w (7 + (am_w (3 * p1)))) + 1))))))))]) dX7_passed_101 (Nat.le_of_ble_eq_true rfl) rfl ?_
  refine rr_iload dX7_passed_103 rfl ?_
  rcases ab_i h with ⟨c20, h⟩ | ⟨c20, h⟩
  · refine rr_if_ge_p (t := 112) dX7_passed_105 (by decide) c20 ?_
    refine rr_iconst dX7_passed_108 (by decide) ?_
    refine rr_goto (t := 126) dX7_passed_109 (by decide) ?_
    exact tb_X7_passed_126 hd hs_p0 h3_p0 hQ h
  · refine rr_if_ge_n (t := 112) dX7_passed_105 (by decide) c20 ?_
    refine rr_iload dX7_passed_112 rfl ?_
    refine rr_bipush dX7_passed_114 (by decide) ?_
    rcases ab_i h with ⟨c21, h⟩ | ⟨c21, h⟩
    · refine rr_icmp_le_p (t := 124) dX7_passed_116 (by decide) c21 ?_
      refine rr_iload dX7_passed_124 rfl ?_
      exact tb_X7_passed_126 hd hs_p0 h3_p0 hQ h
    · refine rr_icmp_le_n (t := 124) dX7_passed_116 (by decide) c21 ?_
      refine rr_bipush dX7_passed_119 (by decide) ?_
      refine rr_goto (t := 126) dX7_passed_121 (by decide) ?_
      exact tb_X7_passed_126 hd hs_p0 h3_p0 hQ h
theorem ub_X7_passed_126 {n : Nat} {p0 : Nat} {p0_n : Nat} {x1 : Int} {s0 : Int} {σ σr : am_Mem} {rr : Int} (h : fb_X7_passed_126 n p0 p0_n x1 s0 σ = some (rr, σr)) : σr = σ := by
  unfold fb_X7_passed_126 at h
  have fr : σ = σ := rfl
  obtain ⟨g5, h⟩ := ab_g h
  rcases ab_i h with ⟨c6, h⟩ | ⟨c6, h⟩
  · obtain ⟨q1, q2⟩ := ab_r2 h
    exact q2.symm.trans fr
  · obtain ⟨q1, q2⟩ := ab_r2 h
    exact q2.symm.trans fr
theorem u_X7_passed {n : Nat} {p0 : Nat} {p0_n : Nat} {p1 : Int} {p2 : Int} {p3 : Int} {σ σr : am_Mem} {rr : Int} (h : f_X7_passed n p0 p0_n p1 p2 p3 σ = some (rr, σr)) : σr = σ := by
  unfold f_X7_passed at h
  have fr : σ = σ := rfl
  obtain ⟨g1, h⟩ := ab_g h
  obtain ⟨g2, h⟩ := ab_g h
  rcases ab_i h with ⟨c3, h⟩ | ⟨c3, h⟩
  · rcases ab_i h with ⟨c4, h⟩ | ⟨c4, h⟩
    · exact (ub_X7_passed_126 h).trans fr
    · rcases ab_i h with ⟨c7, h⟩ | ⟨c7, h⟩
      · exact (ub_X7_passed_126 h).trans fr
      · exact (ub_X7_passed_126 h).trans fr
  rcases ab_i h with ⟨c8, h⟩ | ⟨c8, h⟩
  · rcases ab_i h with ⟨c9, h⟩ | ⟨c9, h⟩
    · rcases ab_i h with ⟨c10, h⟩ | ⟨c10, h⟩
      · exact (ub_X7_passed_126 h).trans fr
      · rcases ab_i h with ⟨c11, h⟩ | ⟨c11, h⟩
        · exact (ub_X7_passed_126 h).trans fr
        · exact (ub_X7_passed_126 h).trans fr
    · rcases ab_i h with ⟨c12, h⟩ | ⟨c12, h⟩
      · exact (ub_X7_passed_126 h).trans fr
      · rcases ab_i h with ⟨c13, h⟩ | ⟨c13, h⟩
        · exact (ub_X7_passed_126 h).trans fr
        · exact (ub_X7_passed_126 h).trans fr
  rcases ab_i h with ⟨c14, h⟩ | ⟨c14, h⟩
  · rcases ab_i h with ⟨c15, h⟩ | ⟨c15, h⟩
    · rcases ab_i h with ⟨c16, h⟩ | ⟨c16, h⟩
      · exact (ub_X7_passed_126 h).trans fr
      · rcases ab_i h with ⟨c17, h⟩ | ⟨c17, h⟩
        · exact (ub_X7_passed_126 h).trans fr
        · exact (ub_X7_passed_126 h).trans fr
    · rcases ab_i h with ⟨c18, h⟩ | ⟨c18, h⟩
      · exact (ub_X7_passed_126 h).trans fr
      · rcases ab_i h with ⟨c19, h⟩ | ⟨c19, h⟩
        · exact (ub_X7_passed_126 h).trans fr
        · exact (ub_X7_passed_126 h).trans fr
  rcases ab_i h with ⟨c20, h⟩ | ⟨c20, h⟩
  · exact (ub_X7_passed_126 h).trans fr
  · rcases ab_i h with ⟨c21, h⟩ | ⟨c21, h⟩
    · exact (ub_X7_passed_126 h).trans fr
    · exact (ub_X7_passed_126 h).trans fr
/-! MoodFareModel.cost -/
def f_X7_cost (n : Nat) (p0 : Nat) (p0_n : Nat) (p1 : Int) (p2 : Int) (p3 : Int) (σ : am_Mem) : Option (Int × am_Mem) :=
  am_b2 (f_X7_passed n p0 p0_n p1 p2 p3 σ) fun r2 σ3 => if r2 ≤ p2 then (if (0 : Int) ≤ 0 ∧ 0 < (p0_n : Int) then if (0 : Int) ≤ am_w ((am_w (7 + (am_w (3 * p1)))) + 2) ∧ am_w ((am_w (7 + (am_w (3 * p1)))) + 2) < (p0_n : Int) then some (am_w ((am_w ((am_w (p2 - r2)) * (σ3 p0 0))) + (σ3 p0 (am_w ((am_w (7 + (am_w (3 * p1)))) + 2)))), σ3) else none else none) else (if (0 : Int) ≤ 0 ∧ 0 < (p0_n : Int) then if (0 : Int) ≤ am_w ((am_w (7 + (am_w (3 * p1)))) + 2) ∧ am_w ((am_w (7 + (am_w (3 * p1)))) + 2) < (p0_n : Int) then some (am_w ((am_w ((am_w (r2 - p2)) * (σ3 p0 0))) + (σ3 p0 (am_w ((am_w (7 + (am_w (3 * p1)))) + 2)))), σ3) else none else none)
theorem t_X7_cost {L n d : Nat} {Q : am_Post} {p0 : Nat} {p0_n : Nat} {p1 : Int} {p2 : Int} {p3 : Int} {σ σr : am_Mem} {rr : Int} (hd : 1 < d) (hs_p0 : (xr_Sh L)[p0]? = some (100, p0_n, [])) (h3_p0 : 3 ≤ p0) (h : f_X7_cost n p0 p0_n p1 p2 p3 σ = some (rr, σr)) (hQ : Q (some (am_i rr)) (rm_h L σr)) : xs_aw d me_X7_cost [am_r p0, am_i p1, am_i p2, am_i p3] (rm_h L σ) Q := by
  obtain ⟨d, rfl⟩ : ∃ k, d = k + 1 := ⟨d - 1, by omega⟩
  have hd : 1 ≤ d := by omega
  unfold f_X7_cost at h
  show xs_AW (xs_aw d) me_X7_cost Q 0 [some (am_r p0), some (am_i p1), some (am_i p2), some (am_i p3), none] [] (rm_h L σ)
  refine rr_aload_n dX7_cost_0 rfl ?_
  refine rr_iload_n dX7_cost_1 rfl ?_
  refine rr_iload_n dX7_cost_2 rfl ?_
  refine rr_iload_n dX7_cost_3 rfl ?_
  obtain ⟨r2, σ3, e1, h⟩ := ab_2 h
  refine rr_Si (as := [am_r p0, am_i p1, am_i p2, am_i p3]) (rest := []) dX7_cost_4 ml_7_163 (Or.inl rfl) rfl rfl (Nat.le_of_ble_eq_true rfl) ⟨rfl, rfl⟩ (Nat.le_of_ble_eq_true rfl) (fun _ k => t_X7_passed (by omega) hs_p0 h3_p0 e1 k) ?_
  refine rr_istore (ls' := [some (am_r p0), some (am_i p1), some (am_i p2), some (am_i p3), some (am_i r2)]) dX7_cost_7 (Nat.le_of_ble_eq_true rfl) rfl ?_
  refine rr_iload dX7_cost_9 rfl ?_
  refine rr_iload_n dX7_cost_11 rfl ?_
  rcases ab_i h with ⟨c4, h⟩ | ⟨c4, h⟩
  · refine rr_icmp_le_p (t := 22) dX7_cost_12 (by decide) c4 ?_
    refine rr_iload_n dX7_cost_22 rfl ?_
    refine rr_iload dX7_cost_23 rfl ?_
    refine rr_isub dX7_cost_25 ?_
    refine rr_aload_n dX7_cost_26 rfl ?_
    refine rr_iconst dX7_cost_27 (by decide) ?_
    obtain ⟨g5, h⟩ := ab_g h
    refine rr_iald (nz := (p0_n : Int)) dX7_cost_28 hs_p0 rfl g5 ?_
    refine rr_imul dX7_cost_29 ?_
    refine rr_aload_n dX7_cost_30 rfl ?_
    refine rr_bipush dX7_cost_31 (by decide) ?_
    refine rr_iconst dX7_cost_33 (by decide) ?_
    refine rr_iload_n dX7_cost_34 rfl ?_
    refine rr_imul dX7_cost_35 ?_
    refine rr_iadd dX7_cost_36 ?_
    refine rr_iconst dX7_cost_37 (by decide) ?_
    refine rr_iadd dX7_cost_38 ?_
    obtain ⟨g6, h⟩ := ab_g h
    refine rr_iald (nz := (p0_n : Int)) dX7_cost_39 hs_p0 rfl g6 ?_
    refine rr_iadd dX7_cost_40 ?_
    obtain ⟨rfl, rfl⟩ := ab_r2 h
    exact rr_iret dX7_cost_41 rfl hQ
  · refine rr_icmp_le_n (t := 22) dX7_cost_12 (by decide) c4 ?_
    refine rr_iload dX7_cost_15 rfl ?_
    refine rr_iload_n dX7_cost_17 rfl ?_
    refine rr_isub dX7_cost_18 ?_
    refine rr_goto (t := 26) dX7_cost_19 (by decide) ?_
    refine rr_aload_n dX7_cost_26 rfl ?_
    refine rr_iconst dX7_cost_27 (by decide) ?_
    obtain ⟨g7, h⟩ := ab_g h
    refine rr_iald (nz := (p0_n : Int)) dX7_cost_28 hs_p0 rfl g7 ?_
    refine rr_imul dX7_cost_29 ?_
    refine rr_aload_n dX7_cost_30 rfl ?_
    refine rr_bipush dX7_cost_31 (by decide) ?_
    refine rr_iconst dX7_cost_33 (by decide) ?_
    refine rr_iload_n dX7_cost_34 rfl ?_
    refine rr_imul dX7_cost_35 ?_
    refine rr_iadd dX7_cost_36 ?_
    refine rr_iconst dX7_cost_37 (by decide) ?_
    refine rr_iadd dX7_cost_38 ?_
    obtain ⟨g8, h⟩ := ab_g h
    refine rr_iald (nz := (p0_n : Int)) dX7_cost_39 hs_p0 rfl g8 ?_
    refine rr_iadd dX7_cost_40 ?_
    obtain ⟨rfl, rfl⟩ := ab_r2 h
    exact rr_iret dX7_cost_41 rfl hQ
theorem u_X7_cost {n : Nat} {p0 : Nat} {p0_n : Nat} {p1 : Int} {p2 : Int} {p3 : Int} {σ σr : am_Mem} {rr : Int} (h : f_X7_cost n p0 p0_n p1 p2 p3 σ = some (rr, σr)) : σr = σ := by
  unfold f_X7_cost at h
  have fr : σ = σ := rfl
  obtain ⟨r2, σ3, e1, h⟩ := ab_2 h
  have fr := (u_X7_passed e1).trans fr
  rcases ab_i h with ⟨c4, h⟩ | ⟨c4, h⟩
  · obtain ⟨g5, h⟩ := ab_g h
    obtain ⟨g6, h⟩ := ab_g h
    obtain ⟨q1, q2⟩ := ab_r2 h
    exact q2.symm.trans fr
  · obtain ⟨g7, h⟩ := ab_g h
    obtain ⟨g8, h⟩ := ab_g h
    obtain ⟨q1, q2⟩ := ab_r2 h
    exact q2.symm.trans fr
/-! MoodFareModel.rides -/
def fb_X7_rides_43 (n : Nat) (p0 : Nat) (p0_n : Nat) (x2 : Int) (s0 : Int) (s1 : Int) (σ : am_Mem) : Option am_Mem :=
  if (0 : Int) ≤ s1 ∧ s1 < (p0_n : Int) then am_b1 (some (am_up σ p0 s1 s0)) fun σ10 => if (0 : Int) ≤ 1 ∧ 1 < (p0_n : Int) then if (0 : Int) ≤ 3 ∧ 3 < (p0_n : Int) then am_b2 (f_X7_passed n p0 p0_n x2 (σ10 p0 1) (σ10 p0 3) σ10) fun r15 σ16 => am_b1 (some (am_up σ16 p0 1 r15)) fun σ17 => if (0 : Int) ≤ 4 ∧ 4 < (p0_n : Int) then am_b1 (some (am_up σ17 p0 4 x2)) fun σ20 => am_b1 (some (am_up σ20 p0 3 (am_w ((σ20 p0 3) + 1)))) fun σ22 => some σ22 else none else none else none else none
def f_X7_rides (n : Nat) (p0 : Nat) (p0_n : Nat) (p1 : Int) (σ : am_Mem) : Option am_Mem :=
  if (0 : Int) ≤ am_w ((am_w (26 + (am_w (2 * p1)))) + 1) ∧ am_w ((am_w (26 + (am_w (2 * p1)))) + 1) < (p0_n : Int) then if (0 : Int) ≤ 2 ∧ 2 < (p0_n : Int) then if (0 : Int) ≤ 1 ∧ 1 < (p0_n : Int) then if (0 : Int) ≤ 3 ∧ 3 < (p0_n : Int) then am_b2 (f_X7_cost n p0 p0_n (σ p0 (am_w ((am_w (26 + (am_w (2 * p1)))) + 1))) (σ p0 1) (σ p0 3) σ) fun r6 σ7 => if am_w ((σ p0 2) + r6) ≤ 9999 then (fb_X7_rides_43 n p0 p0_n (σ p0 (am_w ((am_w (26 + (am_w (2 * p1)))) + 1))) (am_w ((σ p0 2) + r6)) 2 σ7) else (fb_X7_rides_43 n p0 p0_n (σ p0 (am_w ((am_w (26 + (am_w (2 * p1)))) + 1))) 9999 2 σ7) else none else none else none else none
theorem tb_X7_rides_43 {L n d : Nat} {Q : am_Post} {p0 : Nat} {p0_n : Nat} {x2 : Int} {s0 : Int} {s1 : Int} {o1 : Int} {o3 : Int} {σ σr : am_Mem} (hd : 2 ≤ d) (hs_p0 : (xr_Sh L)[p0]? = some (100, p0_n, [])) (h3_p0 : 3 ≤ p0) (hQ : Q none (rm_h L σr)) (h : fb_X7_rides_43 n p0 p0_n x2 s0 s1 σ = some σr) : xs_AW (xs_aw d) me_X7_rides Q 43 [some (am_r p0), some (am_i o1), some (am_i x2), some (am_i o3)] [am_i s0, am_i s1, am_r p0] (rm_h L σ) := by
  unfold fb_X7_rides_43 at h
  obtain ⟨g9, h⟩ := ab_g h
  refine rr_iast (nz := (p0_n : Int)) dX7_rides_43 hs_p0 h3_p0 rfl g9 ?_
  obtain ⟨σ10, e11, h⟩ := ab_1 h
  refine ab_m e11 ?_
  refine rr_aload_n dX7_rides_44 rfl ?_
  refine rr_iconst dX7_rides_45 (by decide) ?_
  refine rr_aload_n dX7_rides_46 rfl ?_
  refine rr_iload_n dX7_rides_47 rfl ?_
  refine rr_aload_n dX7_rides_48 rfl ?_
  refine rr_iconst dX7_rides_49 (by decide) ?_
  obtain ⟨g12, h⟩ := ab_g h
  refine rr_iald (nz := (p0_n : Int)) dX7_rides_50 hs_p0 rfl g12 ?_
  refine rr_aload_n dX7_rides_51 rfl ?_
  refine rr_iconst dX7_rides_52 (by decide) ?_
  obtain ⟨g13, h⟩ := ab_g h
  refine rr_iald (nz := (p0_n : Int)) dX7_rides_53 hs_p0 rfl g13 ?_
  obtain ⟨r15, σ16, e14, h⟩ := ab_2 h
  refine rr_Si (as := [am_r p0, am_i x2, am_i (σ10 p0 1), am_i (σ10 p0 3)]) (rest := [am_i 1, am_r p0]) dX7_rides_54 ml_7_163 (Or.inl rfl) rfl rfl (Nat.le_of_ble_eq_true rfl) ⟨rfl, rfl⟩ (Nat.le_of_ble_eq_true rfl) (fun _ k => t_X7_passed (by omega) hs_p0 h3_p0 e14 k) ?_
  refine rr_iast (nz := (p0_n : Int)) dX7_rides_57 hs_p0 h3_p0 rfl g12 ?_
  obtain ⟨σ17, e18, h⟩ := ab_1 h
  refine ab_m e18 ?_
  refine rr_aload_n dX7_rides_58 rfl ?_
  refine rr_iconst dX7_rides_59 (by decide) ?_
  refine rr_iload_n dX7_rides_60 rfl ?_
  obtain ⟨g19, h⟩ := ab_g h
  refine rr_iast (nz := (p0_n : Int)) dX7_rides_61 hs_p0 h3_p0 rfl g19 ?_
  obtain ⟨σ20, e21, h⟩ := ab_1 h
  refine ab_m e21 ?_
  refine rr_aload_n dX7_rides_62 rfl ?_
  refine rr_iconst dX7_rides_63 (by decide) ?_
  refine rr_dup2 dX7_rides_64 rfl rfl ?_
  refine rr_iald (nz := (p0_n : Int)) dX7_rides_65 hs_p0 rfl g13 ?_
  refine rr_iconst dX7_rides_66 (by decide) ?_
  refine rr_iadd dX7_rides_67 ?_
  refine rr_iast (nz := (p0_n : Int)) dX7_rides_68 hs_p0 h3_p0 rfl g13 ?_
  obtain ⟨σ22, e23, h⟩ := ab_1 h
  refine ab_m e23 ?_
  obtain rfl := ab_r1 h
  exact rr_vret dX7_rides_69 rfl hQ
theorem t_X7_rides {L n d : Nat} {Q : am_Post} {p0 : Nat} {p0_n : Nat} {p1 : Int} {σ σr : am_Mem} (hd : 2 < d) (hs_p0 : (xr_Sh L)[p0]? = some (100, p0_n, [])) (h3_p0 : 3 ≤ p0) (h : f_X7_rides n p0 p0_n p1 σ = some σr) (hQ : Q none (rm_h L σr)) : xs_aw d me_X7_rides [am_r p0, am_i p1] (rm_h L σ) Q := by
  obtain ⟨d, rfl⟩ : ∃ k, d = k + 1 := ⟨d - 1, by omega⟩
  have hd : 2 ≤ d := by omega
  unfold f_X7_rides at h
  show xs_AW (xs_aw d) me_X7_rides Q 0 [some (am_r p0), some (am_i p1), none, none] [] (rm_h L σ)
  refine rr_aload_n dX7_rides_0 rfl ?_
  refine rr_bipush dX7_rides_1 (by decide) ?_
  refine rr_iconst dX7_rides_3 (by decide) ?_
  refine rr_iload_n dX7_rides_4 rfl ?_
  refine rr_imul dX7_rides_5 ?_
  refine rr_iadd dX7_rides_6 ?_
  refine rr_iconst dX7_rides_7 (by decide) ?_
  refine rr_iadd dX7_rides_8 ?_
  obtain ⟨g1, h⟩ := ab_g h
  refine rr_iald (nz := (p0_n : Int)) dX7_rides_9 hs_p0 rfl g1 ?_
  refine rr_istore_n (ls' := [some (am_r p0), some (am_i p1), some (am_i (σ p0 (am_w ((am_w (26 + (am_w (2 * p1)))) + 1)))), none]) dX7_rides_10 (Nat.le_of_ble_eq_true rfl) rfl ?_
  refine rr_aload_n dX7_rides_11 rfl ?_
  refine rr_iconst dX7_rides_12 (by decide) ?_
  obtain ⟨g2, h⟩ := ab_g h
  refine rr_iald (nz := (p0_n : Int)) dX7_rides_13 hs_p0 rfl g2 ?_
  refine rr_aload_n dX7_rides_14 rfl ?_
  refine rr_iload_n dX7_rides_15 rfl ?_
  refine rr_aload_n dX7_rides_16 rfl ?_
  refine rr_iconst dX7_rides_17 (by decide) ?_
  obtain ⟨g3, h⟩ := ab_g h
  refine rr_iald (nz := (p0_n : Int)) dX7_rides_18 hs_p0 rfl g3 ?_
  refine rr_aload_n dX7_rides_19 rfl ?_
  refine rr_iconst dX7_rides_20 (by decide) ?_
  obtain ⟨g4, h⟩ := ab_g h
  refine rr_iald (nz := (p0_n : Int)) dX7_rides_21 hs_p0 rfl g4 ?_
  obtain ⟨r6, σ7, e5, h⟩ := ab_2 h
  refine rr_Si (as := [am_r p0, am_i (σ p0 (am_w ((am_w (26 + (am_w (2 * p1)))) + 1))), am_i (σ p0 1), am_i (σ p0 3)]) (rest := [am_i (σ p0 2)]) dX7_rides_22 ml_7_170 (Or.inl rfl) rfl rfl (Nat.le_of_ble_eq_true rfl) ⟨rfl, rfl⟩ (Nat.le_of_ble_eq_true rfl) (fun _ k => t_X7_cost (by omega) hs_p0 h3_p0 e5 k) ?_
  refine rr_iadd dX7_rides_25 ?_
  refine rr_istore_n (ls' := [some (am_r p0), some (am_i p1), some (am_i (σ p0 (am_w ((am_w (26 + (am_w (2 * p1)))) + 1)))), some (am_i (am_w ((σ p0 2) + r6)))]) dX7_rides_26 (Nat.le_of_ble_eq_true rfl) rfl ?_
  refine rr_aload_n dX7_rides_27 rfl ?_
  refine rr_iconst dX7_rides_28 (by decide) ?_
  refine rr_iload_n dX7_rides_29 rfl ?_
  refine rr_sipush dX7_rides_30 (by decide) ?_
  rcases ab_i h with ⟨c8, h⟩ | ⟨c8, h⟩
  · refine rr_icmp_le_p (t := 42) dX7_rides_33 (by decide) c8 ?_
    refine rr_iload_n dX7_rides_42 rfl ?_
    exact tb_X7_rides_43 hd hs_p0 h3_p0 hQ h
  · refine rr_icmp_le_n (t := 42) dX7_rides_33 (by decide) c8 ?_
    refine rr_sipush dX7_rides_36 (by decide) ?_
    refine rr_goto (t := 43) dX7_rides_39 (by decide) ?_
    exact tb_X7_rides_43 hd hs_p0 h3_p0 hQ h
def nw_X7_rides (p0 : Nat) (p0_n : Nat) (a : Nat) : Prop := a ≠ p0
theorem wb_X7_rides_43 {n : Nat} {p0 : Nat} {p0_n : Nat} {x2 : Int} {s0 : Int} {s1 : Int} {σ σr : am_Mem} (h : fb_X7_rides_43 n p0 p0_n x2 s0 s1 σ = some σr) : ∀ a : Nat, nw_X7_rides p0 p0_n a → σr a = σ a := by
  unfold fb_X7_rides_43 at h
  have fr : ∀ a : Nat, nw_X7_rides p0 p0_n a → σ a = σ a := fun _ _ => rfl
  obtain ⟨g9, h⟩ := ab_g h
  obtain ⟨σ10, e11, h⟩ := ab_1 h
  have fr := fun (a : Nat) (ha : nw_X7_rides p0 p0_n a) => (ab_fu e11 (show a ≠ p0 by unfold nw_X7_rides at ha; omega)).trans (fr a ha)
  obtain ⟨g12, h⟩ := ab_g h
  obtain ⟨g13, h⟩ := ab_g h
  obtain ⟨r15, σ16, e14, h⟩ := ab_2 h
  have fr := fun (a : Nat) (ha : nw_X7_rides p0 p0_n a) => (congrFun (u_X7_passed e14) a).trans (fr a ha)
  obtain ⟨σ17, e18, h⟩ := ab_1 h
  have fr := fun (a : Nat) (ha : nw_X7_rides p0 p0_n a) => (ab_fu e18 (show a ≠ p0 by unfold nw_X7_rides at ha; omega)).trans (fr a ha)
  obtain ⟨g19, h⟩ := ab_g h
  obtain ⟨σ20, e21, h⟩ := ab_1 h
  have fr := fun (a : Nat) (ha : nw_X7_rides p0 p0_n a) => (ab_fu e21 (show a ≠ p0 by unfold nw_X7_rides at ha; omega)).trans (fr a ha)
  obtain ⟨σ22, e23, h⟩ := ab_1 h
  have fr := fun (a : Nat) (ha : nw_X7_rides p0 p0_n a) => (ab_fu e23 (show a ≠ p0 by unfold nw_X7_rides at ha; omega)).trans (fr a ha)
  have q2 := ab_r1 h
  exact fun a ha => (congrFun q2.symm a).trans (fr a ha)
theorem w_X7_rides {n : Nat} {p0 : Nat} {p0_n : Nat} {p1 : Int} {σ σr : am_Mem} (h : f_X7_rides n p0 p0_n p1 σ = some σr) : ∀ a : Nat, nw_X7_rides p0 p0_n a → σr a = σ a := by
  unfold f_X7_rides at h
  have fr : ∀ a : Nat, nw_X7_rides p0 p0_n a → σ a = σ a := fun _ _ => rfl
  obtain ⟨g1, h⟩ := ab_g h
  obtain ⟨g2, h⟩ := ab_g h
  obtain ⟨g3, h⟩ := ab_g h
  obtain ⟨g4, h⟩ := ab_g h
  obtain ⟨r6, σ7, e5, h⟩ := ab_2 h
  have fr := fun (a : Nat) (ha : nw_X7_rides p0 p0_n a) => (congrFun (u_X7_cost e5) a).trans (fr a ha)
  rcases ab_i h with ⟨c8, h⟩ | ⟨c8, h⟩
  · exact fun a ha => (wb_X7_rides_43 h a ha).trans (fr a ha)
  · exact fun a ha => (wb_X7_rides_43 h a ha).trans (fr a ha)
/-! MoodFareModel.ride -/
def f_X7_ride (n : Nat) (p1 : Int) (σ : am_Mem) : Option (Int × am_Mem) :=
  am_b2 (f_X7_isStreet n p1 σ) fun r2 σ3 => if r2 = 0 then (some ((-1000001), σ3)) else (am_b2 (f_X7_goes n 81 42 p1 (σ3 81 4) σ3) fun r6 σ7 => if r6 = 0 then (some ((-1000002), σ7)) else (if σ7 81 3 < 999 then (am_b1 (f_X7_notes n σ7) fun σ12 => am_b1 (f_X7_rides n 81 42 p1 σ12) fun σ15 => some (σ15 81 1, σ15)) else (some ((-1000003), σ7))))
theorem t_X7_ride {L n d : Nat} {Q : am_Post} {p1 : Int} {σ σr : am_Mem} {rr : Int} (hd : 3 < d) (h : f_X7_ride n p1 σ = some (rr, σr)) (hQ : Q (some (am_i rr)) (rm_h L σr)) : xs_aw d me_X7_ride [am_r 75, am_i p1] (rm_h L σ) Q := by
  obtain ⟨d, rfl⟩ : ∃ k, d = k + 1 := ⟨d - 1, by omega⟩
  have hd : 3 ≤ d := by omega
  unfold f_X7_ride at h
  show xs_AW (xs_aw d) me_X7_ride Q 0 [some (am_r 75), some (am_i p1)] [] (rm_h L σ)
  refine rr_aload_n dX7_ride_0 rfl ?_
  refine rr_iload_n dX7_ride_1 rfl ?_
  obtain ⟨r2, σ3, e1, h⟩ := ab_2 h
  refine rr_Vi (as := [am_i p1]) (rest := []) dX7_ride_2 ml_7_173 (sh_75 L) ⟨(by decide), by decide, by decide⟩ rfl rfl rfl (Nat.le_of_ble_eq_true rfl) ⟨rfl, rfl⟩ (Nat.le_of_ble_eq_true rfl) (fun _ k => t_X7_isStreet (by omega) e1 k) ?_
  rcases ab_i h with ⟨c4, h⟩ | ⟨c4, h⟩
  · refine rr_if_ne_p (t := 11) dX7_ride_5 (by decide) c4 ?_
    refine rr_ldc dX7_ride_8 cs_7_79 ?_
    obtain ⟨rfl, rfl⟩ := ab_r2 h
    exact rr_iret dX7_ride_10 rfl hQ
  · refine rr_if_ne_n (t := 11) dX7_ride_5 (by decide) c4 ?_
    refine rr_aload_n dX7_ride_11 rfl ?_
    refine rr_getr (t := 81) dX7_ride_12 fl_7_25 (sh_75 L) ⟨(by decide), by decide⟩ rfl rfl ?_
    refine rr_iload_n dX7_ride_15 rfl ?_
    refine rr_aload_n dX7_ride_16 rfl ?_
    refine rr_getr (t := 81) dX7_ride_17 fl_7_25 (sh_75 L) ⟨(by decide), by decide⟩ rfl rfl ?_
    refine rr_iconst dX7_ride_20 (by decide) ?_
    refine rr_iald (nz := 42) dX7_ride_21 (sh_81 L) rfl ⟨by decide, by decide⟩ ?_
    obtain ⟨r6, σ7, e5, h⟩ := ab_2 h
    refine rr_Si (as := [am_r 81, am_i p1, am_i (σ3 81 4)]) (rest := []) dX7_ride_22 ml_7_176 (Or.inl rfl) rfl rfl (Nat.le_of_ble_eq_true rfl) ⟨rfl, rfl⟩ (Nat.le_of_ble_eq_true rfl) (fun _ k => t_X7_goes (by omega) (sh_81 L) (by decide) e5 k) ?_
    rcases ab_i h with ⟨c8, h⟩ | ⟨c8, h⟩
    · refine rr_if_ne_p (t := 31) dX7_ride_25 (by decide) c8 ?_
      refine rr_ldc dX7_ride_28 cs_7_180 ?_
      obtain ⟨rfl, rfl⟩ := ab_r2 h
      exact rr_iret dX7_ride_30 rfl hQ
    · refine rr_if_ne_n (t := 31) dX7_ride_25 (by decide) c8 ?_
      refine rr_aload_n dX7_ride_31 rfl ?_
      refine rr_getr (t := 81) dX7_ride_32 fl_7_25 (sh_75 L) ⟨(by decide), by decide⟩ rfl rfl ?_
      refine rr_iconst dX7_ride_35 (by decide) ?_
      refine rr_iald (nz := 42) dX7_ride_36 (sh_81 L) rfl ⟨by decide, by decide⟩ ?_
      refine rr_sipush dX7_ride_37 (by decide) ?_
      rcases ab_i h with ⟨c9, h⟩ | ⟨c9, h⟩
      · refine rr_icmp_lt_p (t := 46) dX7_ride_40 (by decide) c9 ?_
        refine rr_aload_n dX7_ride_46 rfl ?_
        obtain ⟨σ12, e10, h⟩ := ab_1 h
        refine rr_Vv (as := []) (rest := []) dX7_ride_47 ml_7_181 (sh_75 L) ⟨(by decide), by decide, by decide⟩ rfl rfl rfl (Nat.le_of_ble_eq_true rfl) ⟨rfl, rfl⟩ (Nat.le_of_ble_eq_true rfl) (fun _ k => t_X7_notes (by omega) e10 k) ?_
        refine rr_aload_n dX7_ride_50 rfl ?_
        refine rr_getr (t := 81) dX7_ride_51 fl_7_25 (sh_75 L) ⟨(by decide), by decide⟩ rfl rfl ?_
        refine rr_iload_n dX7_ride_54 rfl ?_
        obtain ⟨σ15, e13, h⟩ := ab_1 h
        refine rr_Sv (as := [am_r 81, am_i p1]) (rest := []) dX7_ride_55 ml_7_184 (Or.inl rfl) rfl rfl (Nat.le_of_ble_eq_true rfl) ⟨rfl, rfl⟩ (Nat.le_of_ble_eq_true rfl) (fun _ k => t_X7_rides (by omega) (sh_81 L) (by decide) e13 k) ?_
        refine rr_aload_n dX7_ride_58 rfl ?_
        refine rr_getr (t := 81) dX7_ride_59 fl_7_25 (sh_75 L) ⟨(by decide), by decide⟩ rfl rfl ?_
        refine rr_iconst dX7_ride_62 (by decide) ?_
        refine rr_iald (nz := 42) dX7_ride_63 (sh_81 L) rfl ⟨by decide, by decide⟩ ?_
        obtain ⟨rfl, rfl⟩ := ab_r2 h
        exact rr_iret dX7_ride_64 rfl hQ
      · refine rr_icmp_lt_n (t := 46) dX7_ride_40 (by decide) c9 ?_
        refine rr_ldc dX7_ride_43 cs_7_100 ?_
        obtain ⟨rfl, rfl⟩ := ab_r2 h
        exact rr_iret dX7_ride_45 rfl hQ
def nw_X7_ride (a : Nat) : Prop := a ≠ 75 ∧ a ≠ 81 ∧ a ≠ 84
theorem w_X7_ride {n : Nat} {p1 : Int} {σ σr : am_Mem} {rr : Int} (h : f_X7_ride n p1 σ = some (rr, σr)) : ∀ a : Nat, nw_X7_ride a → σr a = σ a := by
  unfold f_X7_ride at h
  have fr : ∀ a : Nat, nw_X7_ride a → σ a = σ a := fun _ _ => rfl
  obtain ⟨r2, σ3, e1, h⟩ := ab_2 h
  have fr := fun (a : Nat) (ha : nw_X7_ride a) => (congrFun (u_X7_isStreet e1) a).trans (fr a ha)
  rcases ab_i h with ⟨c4, h⟩ | ⟨c4, h⟩
  · obtain ⟨q1, q2⟩ := ab_r2 h
    exact fun a ha => (congrFun q2.symm a).trans (fr a ha)
  · obtain ⟨r6, σ7, e5, h⟩ := ab_2 h
    have fr := fun (a : Nat) (ha : nw_X7_ride a) => (congrFun (u_X7_goes e5) a).trans (fr a ha)
    rcases ab_i h with ⟨c8, h⟩ | ⟨c8, h⟩
    · obtain ⟨q1, q2⟩ := ab_r2 h
      exact fun a ha => (congrFun q2.symm a).trans (fr a ha)
    · rcases ab_i h with ⟨c9, h⟩ | ⟨c9, h⟩
      · obtain ⟨σ12, e10, h⟩ := ab_1 h
        have fr := fun (a : Nat) (ha : nw_X7_ride a) => (w_X7_notes e10 a (by unfold nw_X7_ride at ha; unfold nw_X7_notes; omega)).trans (fr a ha)
        obtain ⟨σ15, e13, h⟩ := ab_1 h
        have fr := fun (a : Nat) (ha : nw_X7_ride a) => (w_X7_rides e13 a (by unfold nw_X7_ride at ha; unfold nw_X7_rides; omega)).trans (fr a ha)
        obtain ⟨q1, q2⟩ := ab_r2 h
        exact fun a ha => (congrFun q2.symm a).trans (fr a ha)
      · obtain ⟨q1, q2⟩ := ab_r2 h
        exact fun a ha => (congrFun q2.symm a).trans (fr a ha)
/-! MoodFareModel.isCorner -/
def f_X7_isCorner (n : Nat) (p1 : Int) (σ : am_Mem) : Option (Int × am_Mem) :=
  am_b2 (f_X7_in n p1 0 (am_w ((σ 81 6) - 1)) σ) fun r2 σ3 => if r2 = 0 ∨ r2 = 1 then some (r2, σ3) else none
theorem t_X7_isCorner {L n d : Nat} {Q : am_Post} {p1 : Int} {σ σr : am_Mem} {rr : Int} (hd : 1 < d) (h : f_X7_isCorner n p1 σ = some (rr, σr)) (hQ : Q (some (am_i rr)) (rm_h L σr)) : xs_aw d me_X7_isCorner [am_r 75, am_i p1] (rm_h L σ) Q := by
  obtain ⟨d, rfl⟩ : ∃ k, d = k + 1 := ⟨d - 1, by omega⟩
  have hd : 1 ≤ d := by omega
  unfold f_X7_isCorner at h
  show xs_AW (xs_aw d) me_X7_isCorner Q 0 [some (am_r 75), some (am_i p1)] [] (rm_h L σ)
  refine rr_iload_n dX7_isCorner_0 rfl ?_
  refine rr_iconst dX7_isCorner_1 (by decide) ?_
  refine rr_aload_n dX7_isCorner_2 rfl ?_
  refine rr_getr (t := 81) dX7_isCorner_3 fl_7_25 (sh_75 L) ⟨(by decide), by decide⟩ rfl rfl ?_
  refine rr_bipush dX7_isCorner_6 (by decide) ?_
  refine rr_iald (nz := 42) dX7_isCorner_8 (sh_81 L) rfl ⟨by decide, by decide⟩ ?_
  refine rr_iconst dX7_isCorner_9 (by decide) ?_
  refine rr_isub dX7_isCorner_10 ?_
  obtain ⟨r2, σ3, e1, h⟩ := ab_2 h
  refine rr_Si (as := [am_i p1, am_i 0, am_i (am_w ((σ 81 6) - 1))]) (rest := []) dX7_isCorner_11 ml_7_71 (Or.inl rfl) rfl rfl (Nat.le_of_ble_eq_true rfl) ⟨rfl, rfl⟩ (Nat.le_of_ble_eq_true rfl) (fun _ k => t_X7_in (by omega) e1 k) ?_
  obtain ⟨g4, h⟩ := ab_g h
  obtain ⟨rfl, rfl⟩ := ab_r2 h
  exact rr_zret dX7_isCorner_14 rfl g4 hQ
theorem u_X7_isCorner {n : Nat} {p1 : Int} {σ σr : am_Mem} {rr : Int} (h : f_X7_isCorner n p1 σ = some (rr, σr)) : σr = σ := by
  unfold f_X7_isCorner at h
  have fr : σ = σ := rfl
  obtain ⟨r2, σ3, e1, h⟩ := ab_2 h
  have fr := (u_X7_in e1).trans fr
  obtain ⟨g4, h⟩ := ab_g h
  obtain ⟨q1, q2⟩ := ab_r2 h
  exact q2.symm.trans fr
/-! MoodFareModel.lesson -/
def f_X7_lesson (n : Nat) (p1 : Int) (p2 : Int) (σ : am_Mem) : Option (Int × am_Mem) :=
  am_b2 (f_X7_isCorner n p1 σ) fun r2 σ3 => if r2 = 0 then (some ((-1000001), σ3)) else (am_b2 (f_X7_in n p2 0 9 σ3) fun r6 σ7 => if r6 = 0 then (some ((-1000001), σ7)) else (am_b1 (f_X7_notes n σ7) fun σ11 => if (0 : Int) ≤ am_w ((am_w (7 + (am_w (3 * p1)))) + 1) ∧ am_w ((am_w (7 + (am_w (3 * p1)))) + 1) < 42 then am_b1 (some (am_up σ11 81 (am_w ((am_w (7 + (am_w (3 * p1)))) + 1)) p2)) fun σ13 => some (σ11 81 (am_w ((am_w (7 + (am_w (3 * p1)))) + 1)), σ13) else none))
theorem t_X7_lesson {L n d : Nat} {Q : am_Post} {p1 : Int} {p2 : Int} {σ σr : am_Mem} {rr : Int} (hd : 2 < d) (h : f_X7_lesson n p1 p2 σ = some (rr, σr)) (hQ : Q (some (am_i rr)) (rm_h L σr)) : xs_aw d me_X7_lesson [am_r 75, am_i p1, am_i p2] (rm_h L σ) Q := by
  obtain ⟨d, rfl⟩ : ∃ k, d = k + 1 := ⟨d - 1, by omega⟩
  have hd : 2 ≤ d := by omega
  unfold f_X7_lesson at h
  show xs_AW (xs_aw d) me_X7_lesson Q 0 [some (am_r 75), some (am_i p1), some (am_i p2), none] [] (rm_h L σ)
  refine rr_aload_n dX7_lesson_0 rfl ?_
  refine rr_iload_n dX7_lesson_1 rfl ?_
  obtain ⟨r2, σ3, e1, h⟩ := ab_2 h
  refine rr_Vi (as := [am_i p1]) (rest := []) dX7_lesson_2 ml_7_188 (sh_75 L) ⟨(by decide), by decide, by decide⟩ rfl rfl rfl (Nat.le_of_ble_eq_true rfl) ⟨rfl, rfl⟩ (Nat.le_of_ble_eq_true rfl) (fun _ k => t_X7_isCorner (by omega) e1 k) ?_
  rcases ab_i h with ⟨c4, h⟩ | ⟨c4, h⟩
  · refine rr_if_eq_p (t := 18) dX7_lesson_5 (by decide) c4 ?_
    refine rr_ldc dX7_lesson_18 cs_7_79 ?_
    obtain ⟨rfl, rfl⟩ := ab_r2 h
    exact rr_iret dX7_lesson_20 rfl hQ
  · refine rr_if_eq_n (t := 18) dX7_lesson_5 (by decide) c4 ?_
    refine rr_iload_n dX7_lesson_8 rfl ?_
    refine rr_iconst dX7_lesson_9 (by decide) ?_
    refine rr_bipush dX7_lesson_10 (by decide) ?_
    obtain ⟨r6, σ7, e5, h⟩ := ab_2 h
    refine rr_Si (as := [am_i p2, am_i 0, am_i 9]) (rest := []) dX7_lesson_12 ml_7_71 (Or.inl rfl) rfl rfl (Nat.le_of_ble_eq_true rfl) ⟨rfl, rfl⟩ (Nat.le_of_ble_eq_true rfl) (fun _ k => t_X7_in (by omega) e5 k) ?_
    rcases ab_i h with ⟨c8, h⟩ | ⟨c8, h⟩
    · refine rr_if_ne_p (t := 21) dX7_lesson_15 (by decide) c8 ?_
      refine rr_ldc dX7_lesson_18 cs_7_79 ?_
      obtain ⟨rfl, rfl⟩ := ab_r2 h
      exact rr_iret dX7_lesson_20 rfl hQ
    · refine rr_if_ne_n (t := 21) dX7_lesson_15 (by decide) c8 ?_
      refine rr_aload_n dX7_lesson_21 rfl ?_
      obtain ⟨σ11, e9, h⟩ := ab_1 h
      refine rr_Vv (as := []) (rest := []) dX7_lesson_22 ml_7_181 (sh_75 L) ⟨(by decide), by decide, by decide⟩ rfl rfl rfl (Nat.le_of_ble_eq_true rfl) ⟨rfl, rfl⟩ (Nat.le_of_ble_eq_true rfl) (fun _ k => t_X7_notes (by omega) e9 k) ?_
      refine rr_aload_n dX7_lesson_25 rfl ?_
      refine rr_getr (t := 81) dX7_lesson_26 fl_7_25 (sh_75 L) ⟨(by decide), by decide⟩ rfl rfl ?_
      refine rr_bipush dX7_lesson_29 (by decide) ?_
      refine rr_iconst dX7_lesson_31 (by decide) ?_
      refine rr_iload_n dX7_lesson_32 rfl ?_
      refine rr_imul dX7_lesson_33 ?_
      refine rr_iadd dX7_lesson_34 ?_
      refine rr_iconst dX7_lesson_35 (by decide) ?_
      refine rr_iadd dX7_lesson_36 ?_
      obtain ⟨g12, h⟩ := ab_g h
      refine rr_iald (nz := 42) dX7_lesson_37 (sh_81 L) rfl g12 ?_
      refine rr_istore_n (ls' := [some (am_r 75), some (am_i p1), some (am_i p2), some (am_i (σ11 81 (am_w ((am_w (7 + (am_w (3 * p1)))) + 1))))]) dX7_lesson_38 (Nat.le_of_ble_eq_true rfl) rfl ?_
      refine rr_aload_n dX7_lesson_39 rfl ?_
      refine rr_getr (t := 81) dX7_lesson_40 fl_7_25 (sh_75 L) ⟨(by decide), by decide⟩ rfl rfl ?_
      refine rr_bipush dX7_lesson_43 (by decide) ?_
      refine rr_iconst dX7_lesson_45 (by decide) ?_
      refine rr_iload_n dX7_lesson_46 rfl ?_
      refine rr_imul dX7_lesson_47 ?_
      refine rr_iadd dX7_lesson_48 ?_
      refine rr_iconst dX7_lesson_49 (by decide) ?_
      refine rr_iadd dX7_lesson_50 ?_
      refine rr_iload_n dX7_lesson_51 rfl ?_
      refine rr_iast (nz := 42) dX7_lesson_52 (sh_81 L) (by decide) rfl g12 ?_
      obtain ⟨σ13, e14, h⟩ := ab_1 h
      refine ab_m e14 ?_
      refine rr_iload_n dX7_lesson_53 rfl ?_
      obtain ⟨rfl, rfl⟩ := ab_r2 h
      exact rr_iret dX7_lesson_54 rfl hQ
def nw_X7_lesson (a : Nat) : Prop := a ≠ 75 ∧ a ≠ 81 ∧ a ≠ 84
theorem w_X7_lesson {n : Nat} {p1 : Int} {p2 : Int} {σ σr : am_Mem} {rr : Int} (h : f_X7_lesson n p1 p2 σ = some (rr, σr)) : ∀ a : Nat, nw_X7_lesson a → σr a = σ a := by
  unfold f_X7_lesson at h
  have fr : ∀ a : Nat, nw_X7_lesson a → σ a = σ a := fun _ _ => rfl
  obtain ⟨r2, σ3, e1, h⟩ := ab_2 h
  have fr := fun (a : Nat) (ha : nw_X7_lesson a) => (congrFun (u_X7_isCorner e1) a).trans (fr a ha)
  rcases ab_i h with ⟨c4, h⟩ | ⟨c4, h⟩
  · obtain ⟨q1, q2⟩ := ab_r2 h
    exact fun a ha => (congrFun q2.symm a).trans (fr a ha)
  · obtain ⟨r6, σ7, e5, h⟩ := ab_2 h
    have fr := fun (a : Nat) (ha : nw_X7_lesson a) => (congrFun (u_X7_in e5) a).trans (fr a ha)
    rcases ab_i h with ⟨c8, h⟩ | ⟨c8, h⟩
    · obtain ⟨q1, q2⟩ := ab_r2 h
      exact fun a ha => (congrFun q2.symm a).trans (fr a ha)
    · obtain ⟨σ11, e9, h⟩ := ab_1 h
      have fr := fun (a : Nat) (ha : nw_X7_lesson a) => (w_X7_notes e9 a (by unfold nw_X7_lesson at ha; unfold nw_X7_notes; omega)).trans (fr a ha)
      obtain ⟨g12, h⟩ := ab_g h
      obtain ⟨σ13, e14, h⟩ := ab_1 h
      have fr := fun (a : Nat) (ha : nw_X7_lesson a) => (ab_fu e14 (show a ≠ 81 by unfold nw_X7_lesson at ha; omega)).trans (fr a ha)
      obtain ⟨q1, q2⟩ := ab_r2 h
      exact fun a ha => (congrFun q2.symm a).trans (fr a ha)
/-! MoodFareModel.isTown -/
def f_X7_isTown (n : Nat) (σ : am_Mem) : Option (Int × am_Mem) :=
  if σ 81 0 ≤ 0 then (some (0, σ)) else (some (1, σ))
theorem t_X7_isTown {L n d : Nat} {Q : am_Post} {σ σr : am_Mem} {rr : Int} (hd : 0 < d) (h : f_X7_isTown n σ = some (rr, σr)) (hQ : Q (some (am_i rr)) (rm_h L σr)) : xs_aw d me_X7_isTown [am_r 75] (rm_h L σ) Q := by
  obtain ⟨d, rfl⟩ : ∃ k, d = k + 1 := ⟨d - 1, by omega⟩
  have hd : 0 ≤ d := by omega
  unfold f_X7_isTown at h
  show xs_AW (xs_aw d) me_X7_isTown Q 0 [some (am_r 75)] [] (rm_h L σ)
  refine rr_aload_n dX7_isTown_0 rfl ?_
  refine rr_getr (t := 81) dX7_isTown_1 fl_7_25 (sh_75 L) ⟨(by decide), by decide⟩ rfl rfl ?_
  refine rr_iconst dX7_isTown_4 (by decide) ?_
  refine rr_iald (nz := 42) dX7_isTown_5 (sh_81 L) rfl ⟨by decide, by decide⟩ ?_
  rcases ab_i h with ⟨c1, h⟩ | ⟨c1, h⟩
  · refine rr_if_le_p (t := 13) dX7_isTown_6 (by decide) c1 ?_
    refine rr_iconst dX7_isTown_13 (by decide) ?_
    obtain ⟨rfl, rfl⟩ := ab_r2 h
    exact rr_zret dX7_isTown_14 rfl (Or.inl rfl) hQ
  · refine rr_if_le_n (t := 13) dX7_isTown_6 (by decide) c1 ?_
    refine rr_iconst dX7_isTown_9 (by decide) ?_
    refine rr_goto (t := 14) dX7_isTown_10 (by decide) ?_
    obtain ⟨rfl, rfl⟩ := ab_r2 h
    exact rr_zret dX7_isTown_14 rfl (Or.inr rfl) hQ
theorem u_X7_isTown {n : Nat} {σ σr : am_Mem} {rr : Int} (h : f_X7_isTown n σ = some (rr, σr)) : σr = σ := by
  unfold f_X7_isTown at h
  have fr : σ = σ := rfl
  rcases ab_i h with ⟨c1, h⟩ | ⟨c1, h⟩
  · obtain ⟨q1, q2⟩ := ab_r2 h
    exact q2.symm.trans fr
  · obtain ⟨q1, q2⟩ := ab_r2 h
    exact q2.symm.trans fr
/-! MoodFareModel.reset -/
def f_X7_reset (n : Nat) (σ : am_Mem) : Option (Int × am_Mem) :=
  am_b2 (f_X7_isTown n σ) fun r2 σ3 => if r2 = 0 then (some ((-1000002), σ3)) else (am_b1 (f_X7_notes n σ3) fun σ7 => am_b1 (some (am_up σ7 81 2 0)) fun σ8 => some (σ7 81 2, σ8))
theorem t_X7_reset {L n d : Nat} {Q : am_Post} {σ σr : am_Mem} {rr : Int} (hd : 2 < d) (h : f_X7_reset n σ = some (rr, σr)) (hQ : Q (some (am_i rr)) (rm_h L σr)) : xs_aw d me_X7_reset [am_r 75] (rm_h L σ) Q := by
  obtain ⟨d, rfl⟩ : ∃ k, d = k + 1 := ⟨d - 1, by omega⟩
  have hd : 2 ≤ d := by omega
  unfold f_X7_reset at h
  show xs_AW (xs_aw d) me_X7_reset Q 0 [some (am_r 75), none] [] (rm_h L σ)
  refine rr_aload_n dX7_reset_0 rfl ?_
  obtain ⟨r2, σ3, e1, h⟩ := ab_2 h
  refine rr_Vi (as := []) (rest := []) dX7_reset_1 ml_7_191 (sh_75 L) ⟨(by decide), by decide, by decide⟩ rfl rfl rfl (Nat.le_of_ble_eq_true rfl) ⟨rfl, rfl⟩ (Nat.le_of_ble_eq_true rfl) (fun _ k => t_X7_isTown (by omega) e1 k) ?_
  rcases ab_i h with ⟨c4, h⟩ | ⟨c4, h⟩
  · refine rr_if_ne_p (t := 10) dX7_reset_4 (by decide) c4 ?_
    refine rr_ldc dX7_reset_7 cs_7_180 ?_
    obtain ⟨rfl, rfl⟩ := ab_r2 h
    exact rr_iret dX7_reset_9 rfl hQ
  · refine rr_if_ne_n (t := 10) dX7_reset_4 (by decide) c4 ?_
    refine rr_aload_n dX7_reset_10 rfl ?_
    obtain ⟨σ7, e5, h⟩ := ab_1 h
    refine rr_Vv (as := []) (rest := []) dX7_reset_11 ml_7_181 (sh_75 L) ⟨(by decide), by decide, by decide⟩ rfl rfl rfl (Nat.le_of_ble_eq_true rfl) ⟨rfl, rfl⟩ (Nat.le_of_ble_eq_true rfl) (fun _ k => t_X7_notes (by omega) e5 k) ?_
    refine rr_aload_n dX7_reset_14 rfl ?_
    refine rr_getr (t := 81) dX7_reset_15 fl_7_25 (sh_75 L) ⟨(by decide), by decide⟩ rfl rfl ?_
    refine rr_iconst dX7_reset_18 (by decide) ?_
    refine rr_iald (nz := 42) dX7_reset_19 (sh_81 L) rfl ⟨by decide, by decide⟩ ?_
    refine rr_istore_n (ls' := [some (am_r 75), some (am_i (σ7 81 2))]) dX7_reset_20 (Nat.le_of_ble_eq_true rfl) rfl ?_
    refine rr_aload_n dX7_reset_21 rfl ?_
    refine rr_getr (t := 81) dX7_reset_22 fl_7_25 (sh_75 L) ⟨(by decide), by decide⟩ rfl rfl ?_
    refine rr_iconst dX7_reset_25 (by decide) ?_
    refine rr_iconst dX7_reset_26 (by decide) ?_
    refine rr_iast (nz := 42) dX7_reset_27 (sh_81 L) (by decide) rfl ⟨by decide, by decide⟩ ?_
    obtain ⟨σ8, e9, h⟩ := ab_1 h
    refine ab_m e9 ?_
    refine rr_iload_n dX7_reset_28 rfl ?_
    obtain ⟨rfl, rfl⟩ := ab_r2 h
    exact rr_iret dX7_reset_29 rfl hQ
def nw_X7_reset (a : Nat) : Prop := a ≠ 75 ∧ a ≠ 81 ∧ a ≠ 84
theorem w_X7_reset {n : Nat} {σ σr : am_Mem} {rr : Int} (h : f_X7_reset n σ = some (rr, σr)) : ∀ a : Nat, nw_X7_reset a → σr a = σ a := by
  unfold f_X7_reset at h
  have fr : ∀ a : Nat, nw_X7_reset a → σ a = σ a := fun _ _ => rfl
  obtain ⟨r2, σ3, e1, h⟩ := ab_2 h
  have fr := fun (a : Nat) (ha : nw_X7_reset a) => (congrFun (u_X7_isTown e1) a).trans (fr a ha)
  rcases ab_i h with ⟨c4, h⟩ | ⟨c4, h⟩
  · obtain ⟨q1, q2⟩ := ab_r2 h
    exact fun a ha => (congrFun q2.symm a).trans (fr a ha)
  · obtain ⟨σ7, e5, h⟩ := ab_1 h
    have fr := fun (a : Nat) (ha : nw_X7_reset a) => (w_X7_notes e5 a (by unfold nw_X7_reset at ha; unfold nw_X7_notes; omega)).trans (fr a ha)
    obtain ⟨σ8, e9, h⟩ := ab_1 h
    have fr := fun (a : Nat) (ha : nw_X7_reset a) => (ab_fu e9 (show a ≠ 81 by unfold nw_X7_reset at ha; omega)).trans (fr a ha)
    obtain ⟨q1, q2⟩ := ab_r2 h
    exact fun a ha => (congrFun q2.symm a).trans (fr a ha)
/-! MoodFareModel.street -/
def f_X7_street (n : Nat) (p1 : Int) (p2 : Int) (σ : am_Mem) : Option (Int × am_Mem) :=
  am_b2 (f_X7_isStreet n p1 σ) fun r2 σ3 => if r2 = 0 then (some ((-1000001), σ3)) else (am_b2 (f_X7_in n p2 0 1 σ3) fun r6 σ7 => if r6 = 0 then (some ((-1000001), σ7)) else (if am_and (am_shr (σ7 81 5) p1) 1 = p2 then (some ((-1000002), σ7)) else (am_b1 (f_X7_notes n σ7) fun σ12 => am_b1 (some (am_up σ12 81 5 (am_xor (σ12 81 5) (am_shl 1 p1)))) fun σ13 => some (σ13 81 5, σ13))))
theorem t_X7_street {L n d : Nat} {Q : am_Post} {p1 : Int} {p2 : Int} {σ σr : am_Mem} {rr : Int} (hd : 2 < d) (h : f_X7_street n p1 p2 σ = some (rr, σr)) (hQ : Q (some (am_i rr)) (rm_h L σr)) : xs_aw d me_X7_street [am_r 75, am_i p1, am_i p2] (rm_h L σ) Q := by
  obtain ⟨d, rfl⟩ : ∃ k, d = k + 1 := ⟨d - 1, by omega⟩
  have hd : 2 ≤ d := by omega
  unfold f_X7_street at h
  show xs_AW (xs_aw d) me_X7_street Q 0 [some (am_r 75), some (am_i p1), some (am_i p2)] [] (rm_h L σ)
  refine rr_aload_n dX7_street_0 rfl ?_
  refine rr_iload_n dX7_street_1 rfl ?_
  obtain ⟨r2, σ3, e1, h⟩ := ab_2 h
  refine rr_Vi (as := [am_i p1]) (rest := []) dX7_street_2 ml_7_173 (sh_75 L) ⟨(by decide), by decide, by decide⟩ rfl rfl rfl (Nat.le_of_ble_eq_true rfl) ⟨rfl, rfl⟩ (Nat.le_of_ble_eq_true rfl) (fun _ k => t_X7_isStreet (by omega) e1 k) ?_
  rcases ab_i h with ⟨c4, h⟩ | ⟨c4, h⟩
  · refine rr_if_eq_p (t := 17) dX7_street_5 (by decide) c4 ?_
    refine rr_ldc dX7_street_17 cs_7_79 ?_
    obtain ⟨rfl, rfl⟩ := ab_r2 h
    exact rr_iret dX7_street_19 rfl hQ
  · refine rr_if_eq_n (t := 17) dX7_street_5 (by decide) c4 ?_
    refine rr_iload_n dX7_street_8 rfl ?_
    refine rr_iconst dX7_street_9 (by decide) ?_
    refine rr_iconst dX7_street_10 (by decide) ?_
    obtain ⟨r6, σ7, e5, h⟩ := ab_2 h
    refine rr_Si (as := [am_i p2, am_i 0, am_i 1]) (rest := []) dX7_street_11 ml_7_71 (Or.inl rfl) rfl rfl (Nat.le_of_ble_eq_true rfl) ⟨rfl, rfl⟩ (Nat.le_of_ble_eq_true rfl) (fun _ k => t_X7_in (by omega) e5 k) ?_
    rcases ab_i h with ⟨c8, h⟩ | ⟨c8, h⟩
    · refine rr_if_ne_p (t := 20) dX7_street_14 (by decide) c8 ?_
      refine rr_ldc dX7_street_17 cs_7_79 ?_
      obtain ⟨rfl, rfl⟩ := ab_r2 h
      exact rr_iret dX7_street_19 rfl hQ
    · refine rr_if_ne_n (t := 20) dX7_street_14 (by decide) c8 ?_
      refine rr_aload_n dX7_street_20 rfl ?_
      refine rr_getr (t := 81) dX7_street_21 fl_7_25 (sh_75 L) ⟨(by decide), by decide⟩ rfl rfl ?_
      refine rr_iconst dX7_street_24 (by decide) ?_
      refine rr_iald (nz := 42) dX7_street_25 (sh_81 L) rfl ⟨by decide, by decide⟩ ?_
      refine rr_iload_n dX7_street_26 rfl ?_
      refine rr_ishr dX7_street_27 ?_
      refine rr_iconst dX7_street_28 (by decide) ?_
      refine rr_iand dX7_street_29 ?_
      refine rr_iload_n dX7_street_30 rfl ?_
      rcases ab_i h with ⟨c9, h⟩ | ⟨c9, h⟩
      · refine rr_icmp_ne_p (t := 37) dX7_street_31 (by decide) c9 ?_
        refine rr_ldc dX7_street_34 cs_7_180 ?_
        obtain ⟨rfl, rfl⟩ := ab_r2 h
        exact rr_iret dX7_street_36 rfl hQ
      · refine rr_icmp_ne_n (t := 37) dX7_street_31 (by decide) c9 ?_
        refine rr_aload_n dX7_street_37 rfl ?_
        obtain ⟨σ12, e10, h⟩ := ab_1 h
        refine rr_Vv (as := []) (rest := []) dX7_street_38 ml_7_181 (sh_75 L) ⟨(by decide), by decide, by decide⟩ rfl rfl rfl (Nat.le_of_ble_eq_true rfl) ⟨rfl, rfl⟩ (Nat.le_of_ble_eq_true rfl) (fun _ k => t_X7_notes (by omega) e10 k) ?_
        refine rr_aload_n dX7_street_41 rfl ?_
        refine rr_getr (t := 81) dX7_street_42 fl_7_25 (sh_75 L) ⟨(by decide), by decide⟩ rfl rfl ?_
        refine rr_iconst dX7_street_45 (by decide) ?_
        refine rr_dup2 dX7_street_46 rfl rfl ?_
        refine rr_iald (nz := 42) dX7_street_47 (sh_81 L) rfl ⟨by decide, by decide⟩ ?_
        refine rr_iconst dX7_street_48 (by decide) ?_
        refine rr_iload_n dX7_street_49 rfl ?_
        refine rr_ishl dX7_street_50 ?_
        refine rr_ixor dX7_street_51 ?_
        refine rr_iast (nz := 42) dX7_street_52 (sh_81 L) (by decide) rfl ⟨by decide, by decide⟩ ?_
        obtain ⟨σ13, e14, h⟩ := ab_1 h
        refine ab_m e14 ?_
        refine rr_aload_n dX7_street_53 rfl ?_
        refine rr_getr (t := 81) dX7_street_54 fl_7_25 (sh_75 L) ⟨(by decide), by decide⟩ rfl rfl ?_
        refine rr_iconst dX7_street_57 (by decide) ?_
        refine rr_iald (nz := 42) dX7_street_58 (sh_81 L) rfl ⟨by decide, by decide⟩ ?_
        obtain ⟨rfl, rfl⟩ := ab_r2 h
        exact rr_iret dX7_street_59 rfl hQ
def nw_X7_street (a : Nat) : Prop := a ≠ 75 ∧ a ≠ 81 ∧ a ≠ 84
theorem w_X7_street {n : Nat} {p1 : Int} {p2 : Int} {σ σr : am_Mem} {rr : Int} (h : f_X7_street n p1 p2 σ = some (rr, σr)) : ∀ a : Nat, nw_X7_street a → σr a = σ a := by
  unfold f_X7_street at h
  have fr : ∀ a : Nat, nw_X7_street a → σ a = σ a := fun _ _ => rfl
  obtain ⟨r2, σ3, e1, h⟩ := ab_2 h
  have fr := fun (a : Nat) (ha : nw_X7_street a) => (congrFun (u_X7_isStreet e1) a).trans (fr a ha)
  rcases ab_i h with ⟨c4, h⟩ | ⟨c4, h⟩
  · obtain ⟨q1, q2⟩ := ab_r2 h
    exact fun a ha => (congrFun q2.symm a).trans (fr a ha)
  · obtain ⟨r6, σ7, e5, h⟩ := ab_2 h
    have fr := fun (a : Nat) (ha : nw_X7_street a) => (congrFun (u_X7_in e5) a).trans (fr a ha)
    rcases ab_i h with ⟨c8, h⟩ | ⟨c8, h⟩
    · obtain ⟨q1, q2⟩ := ab_r2 h
      exact fun a ha => (congrFun q2.symm a).trans (fr a ha)
    · rcases ab_i h with ⟨c9, h⟩ | ⟨c9, h⟩
      · obtain ⟨q1, q2⟩ := ab_r2 h
        exact fun a ha => (congrFun q2.symm a).trans (fr a ha)
      · obtain ⟨σ12, e10, h⟩ := ab_1 h
        have fr := fun (a : Nat) (ha : nw_X7_street a) => (w_X7_notes e10 a (by unfold nw_X7_street at ha; unfold nw_X7_notes; omega)).trans (fr a ha)
        obtain ⟨σ13, e14, h⟩ := ab_1 h
        have fr := fun (a : Nat) (ha : nw_X7_street a) => (ab_fu e14 (show a ≠ 81 by unfold nw_X7_street at ha; omega)).trans (fr a ha)
        obtain ⟨q1, q2⟩ := ab_r2 h
        exact fun a ha => (congrFun q2.symm a).trans (fr a ha)
