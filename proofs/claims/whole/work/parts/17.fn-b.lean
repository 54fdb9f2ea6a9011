/-! MoodFare.found -/
def f_X6_found (n : Nat) (p1 : Int) (σ : am_Mem) : Option (Int × am_Mem) :=
  am_b1 (some (am_up σ 3 8 p1)) fun σ1 => some (am_w ((-1000010) - p1), σ1)
theorem t_X6_found {L n d : Nat} {Q : am_Post} {p1 : Int} {σ σr : am_Mem} {rr : Int} (hd : 0 < d) (h : f_X6_found n p1 σ = some (rr, σr)) (hQ : Q (some (am_i rr)) (rm_h L σr)) : xs_aw d me_X6_found [am_r 3, am_i p1] (rm_h L σ) Q := by
  obtain ⟨d, rfl⟩ : ∃ k, d = k + 1 := ⟨d - 1, by omega⟩
  have hd : 0 ≤ d := by omega
  unfold f_X6_found at h
  show xs_AW (xs_aw d) me_X6_found Q 0 [some (am_r 3), some (am_i p1)] [] (rm_h L σ)
  refine rr_aload_n dX6_found_0 rfl ?_
  refine rr_iload_n dX6_found_1 rfl ?_
  obtain ⟨σ1, e2, h⟩ := ab_1 h
  refine rr_puti (kz := 8) dX6_found_2 fl_6_58 (sh_3 L) ⟨(by decide), by decide⟩ ⟨rfl, rfl⟩ rfl (ab_m e2 ?_)
  refine rr_ldc_w dX6_found_5 cs_6_300 ?_
  refine rr_iload_n dX6_found_8 rfl ?_
  refine rr_isub dX6_found_9 ?_
  obtain ⟨rfl, rfl⟩ := ab_r2 h
  exact rr_iret dX6_found_10 rfl hQ
def nw_X6_found (a : Nat) : Prop := a ≠ 3
theorem w_X6_found {n : Nat} {p1 : Int} {σ σr : am_Mem} {rr : Int} (h : f_X6_found n p1 σ = some (rr, σr)) : ∀ a : Nat, nw_X6_found a → σr a = σ a := by
  unfold f_X6_found at h
  have fr : ∀ a : Nat, nw_X6_found a → σ a = σ a := fun _ _ => rfl
  obtain ⟨σ1, e2, h⟩ := ab_1 h
  have fr := fun (a : Nat) (ha : nw_X6_found a) => (ab_fu e2 (show a ≠ 3 by unfold nw_X6_found at ha; omega)).trans (fr a ha)
  obtain ⟨q1, q2⟩ := ab_r2 h
  exact fun a ha => (congrFun q2.symm a).trans (fr a ha)
/-! MoodFare.unfound -/
def f_X6_unfound (n : Nat) (p1 : Int) (σ : am_Mem) : Option (Int × am_Mem) :=
  am_b1 (some (am_up σ 3 8 0)) fun σ1 => some (p1, σ1)
theorem t_X6_unfound {L n d : Nat} {Q : am_Post} {p1 : Int} {σ σr : am_Mem} {rr : Int} (hd : 0 < d) (h : f_X6_unfound n p1 σ = some (rr, σr)) (hQ : Q (some (am_i rr)) (rm_h L σr)) : xs_aw d me_X6_unfound [am_r 3, am_i p1] (rm_h L σ) Q := by
  obtain ⟨d, rfl⟩ : ∃ k, d = k + 1 := ⟨d - 1, by omega⟩
  have hd : 0 ≤ d := by omega
  unfold f_X6_unfound at h
  show xs_AW (xs_aw d) me_X6_unfound Q 0 [some (am_r 3), some (am_i p1)] [] (rm_h L σ)
  refine rr_aload_n dX6_unfound_0 rfl ?_
  refine rr_iconst dX6_unfound_1 (by decide) ?_
  obtain ⟨σ1, e2, h⟩ := ab_1 h
  refine rr_puti (kz := 8) dX6_unfound_2 fl_6_58 (sh_3 L) ⟨(by decide), by decide⟩ ⟨rfl, rfl⟩ rfl (ab_m e2 ?_)
  refine rr_iload_n dX6_unfound_5 rfl ?_
  obtain ⟨rfl, rfl⟩ := ab_r2 h
  exact rr_iret dX6_unfound_6 rfl hQ
def nw_X6_unfound (a : Nat) : Prop := a ≠ 3
theorem w_X6_unfound {n : Nat} {p1 : Int} {σ σr : am_Mem} {rr : Int} (h : f_X6_unfound n p1 σ = some (rr, σr)) : ∀ a : Nat, nw_X6_unfound a → σr a = σ a := by
  unfold f_X6_unfound at h
  have fr : ∀ a : Nat, nw_X6_unfound a → σ a = σ a := fun _ _ => rfl
  obtain ⟨σ1, e2, h⟩ := ab_1 h
  have fr := fun (a : Nat) (ha : nw_X6_unfound a) => (ab_fu e2 (show a ≠ 3 by unfold nw_X6_unfound at ha; omega)).trans (fr a ha)
  obtain ⟨q1, q2⟩ := ab_r2 h
  exact fun a ha => (congrFun q2.symm a).trans (fr a ha)
/-! MoodFare.row -/
def f_X6_row (n : Nat) (p1 : Int) (p2 : Int) (p3 : Int) (σ : am_Mem) : Option (Int × am_Mem) :=
  am_b2 (f_X2_isRow n p1 σ) fun r2 σ3 => if r2 = 0 then (some ((-1000001), σ3)) else (if p2 < 0 then (some ((-1000001), σ3)) else (if p2 ≤ 2 then (if p3 ≤ 40 then (if p3 < 0 then (am_b2 (f_X6_found n 4 σ3) fun r10 σ11 => some (r10, σ11)) else (am_b1 (f_X2_lay n p1 p2 p3 σ3) fun σ14 => am_b2 (f_X6_unfound n p3 σ14) fun r16 σ17 => some (r16, σ17))) else (some ((-1000001), σ3))) else (some ((-1000001), σ3))))
theorem t_X6_row {L n d : Nat} {Q : am_Post} {p1 : Int} {p2 : Int} {p3 : Int} {σ σr : am_Mem} {rr : Int} (hd : 1 < d) (h : f_X6_row n p1 p2 p3 σ = some (rr, σr)) (hQ : Q (some (am_i rr)) (rm_h L σr)) : xs_aw d me_X6_row [am_r 3, am_i p1, am_i p2, am_i p3] (rm_h L σ) Q := by
  obtain ⟨d, rfl⟩ : ∃ k, d = k + 1 := ⟨d - 1, by omega⟩
  have hd : 1 ≤ d := by omega
  unfold f_X6_row at h
  show xs_AW (xs_aw d) me_X6_row Q 0 [some (am_r 3), some (am_i p1), some (am_i p2), some (am_i p3)] [] (rm_h L σ)
  refine rr_iload_n dX6_row_0 rfl ?_
  obtain ⟨r2, σ3, e1, h⟩ := ab_2 h
  refine rr_Si (as := [am_i p1]) (rest := []) dX6_row_1 ml_6_65 (Or.inl rfl) rfl rfl (Nat.le_of_ble_eq_true rfl) ⟨rfl, rfl⟩ (Nat.le_of_ble_eq_true rfl) (fun _ k => t_X2_isRow (by omega) e1 k) ?_
  rcases ab_i h with ⟨c4, h⟩ | ⟨c4, h⟩
  · refine rr_if_eq_p (t := 22) dX6_row_4 (by decide) c4 ?_
    refine rr_ldc dX6_row_22 cs_6_69 ?_
    obtain ⟨rfl, rfl⟩ := ab_r2 h
    exact rr_iret dX6_row_24 rfl hQ
  · refine rr_if_eq_n (t := 22) dX6_row_4 (by decide) c4 ?_
    refine rr_iload_n dX6_row_7 rfl ?_
    rcases ab_i h with ⟨c5, h⟩ | ⟨c5, h⟩
    · refine rr_if_lt_p (t := 22) dX6_row_8 (by decide) c5 ?_
      refine rr_ldc dX6_row_22 cs_6_69 ?_
      obtain ⟨rfl, rfl⟩ := ab_r2 h
      exact rr_iret dX6_row_24 rfl hQ
    · refine rr_if_lt_n (t := 22) dX6_row_8 (by decide) c5 ?_
      refine rr_iload_n dX6_row_11 rfl ?_
      refine rr_iconst dX6_row_12 (by decide) ?_
      rcases ab_i h with ⟨c6, h⟩ | ⟨c6, h⟩
      · refine rr_icmp_gt_p (t := 22) dX6_row_13 (by decide) c6 ?_
        refine rr_iload_n dX6_row_16 rfl ?_
        refine rr_bipush dX6_row_17 (by decide) ?_
        rcases ab_i h with ⟨c7, h⟩ | ⟨c7, h⟩
        · refine rr_icmp_le_p (t := 25) dX6_row_19 (by decide) c7 ?_
          refine rr_iload_n dX6_row_25 rfl ?_
          rcases ab_i h with ⟨c8, h⟩ | ⟨c8, h⟩
          · refine rr_if_ge_p (t := 35) dX6_row_26 (by decide) c8 ?_
            refine rr_aload_n dX6_row_29 rfl ?_
            refine rr_iconst dX6_row_30 (by decide) ?_
            obtain ⟨r10, σ11, e9, h⟩ := ab_2 h
            refine rr_Vi (as := [am_i 4]) (rest := []) dX6_row_31 ml_6_70 (sh_3 L) ⟨(by decide), by decide, by decide⟩ rfl rfl rfl (Nat.le_of_ble_eq_true rfl) ⟨rfl, rfl⟩ (Nat.le_of_ble_eq_true rfl) (fun _ k => t_X6_found (by omega) e9 k) ?_
            obtain ⟨rfl, rfl⟩ := ab_r2 h
            exact rr_iret dX6_row_34 rfl hQ
          · refine rr_if_ge_n (t := 35) dX6_row_26 (by decide) c8 ?_
            refine rr_aload_n dX6_row_35 rfl ?_
            refine rr_getr (t := 4) dX6_row_36 fl_6_10 (sh_3 L) ⟨(by decide), by decide⟩ rfl rfl ?_
            refine rr_iload_n dX6_row_39 rfl ?_
            refine rr_iload_n dX6_row_40 rfl ?_
            refine rr_iload_n dX6_row_41 rfl ?_
            obtain ⟨σ14, e12, h⟩ := ab_1 h
            refine rr_Vv (as := [am_i p1, am_i p2, am_i p3]) (rest := []) dX6_row_42 ml_6_74 (sh_4 L) ⟨(by decide), by decide, by decide⟩ rfl rfl rfl (Nat.le_of_ble_eq_true rfl) ⟨rfl, rfl⟩ (Nat.le_of_ble_eq_true rfl) (fun _ k => t_X2_lay (by omega) e12 k) ?_
            refine rr_aload_n dX6_row_45 rfl ?_
            refine rr_iload_n dX6_row_46 rfl ?_
            obtain ⟨r16, σ17, e15, h⟩ := ab_2 h
            refine rr_Vi (as := [am_i p3]) (rest := []) dX6_row_47 ml_6_78 (sh_3 L) ⟨(by decide), by decide, by decide⟩ rfl rfl rfl (Nat.le_of_ble_eq_true rfl) ⟨rfl, rfl⟩ (Nat.le_of_ble_eq_true rfl) (fun _ k => t_X6_unfound (by omega) e15 k) ?_
            obtain ⟨rfl, rfl⟩ := ab_r2 h
            exact rr_iret dX6_row_50 rfl hQ
        · refine rr_icmp_le_n (t := 25) dX6_row_19 (by decide) c7 ?_
          refine rr_ldc dX6_row_22 cs_6_69 ?_
          obtain ⟨rfl, rfl⟩ := ab_r2 h
          exact rr_iret dX6_row_24 rfl hQ
      · refine rr_icmp_gt_n (t := 22) dX6_row_13 (by decide) c6 ?_
        refine rr_ldc dX6_row_22 cs_6_69 ?_
        obtain ⟨rfl, rfl⟩ := ab_r2 h
        exact rr_iret dX6_row_24 rfl hQ
def nw_X6_row (a : Nat) : Prop := a ≠ 3 ∧ a ≠ 5 ∧ a ≠ 6 ∧ (a < 8 ∨ 16 ≤ a)
theorem w_X6_row {n : Nat} {p1 : Int} {p2 : Int} {p3 : Int} {σ σr : am_Mem} {rr : Int} (h : f_X6_row n p1 p2 p3 σ = some (rr, σr)) : ∀ a : Nat, nw_X6_row a → σr a = σ a := by
  unfold f_X6_row at h
  have fr : ∀ a : Nat, nw_X6_row a → σ a = σ a := fun _ _ => rfl
  obtain ⟨r2, σ3, e1, h⟩ := ab_2 h
  have fr := fun (a : Nat) (ha : nw_X6_row a) => (congrFun (u_X2_isRow e1) a).trans (fr a ha)
  rcases ab_i h with ⟨c4, h⟩ | ⟨c4, h⟩
  · obtain ⟨q1, q2⟩ := ab_r2 h
    exact fun a ha => (congrFun q2.symm a).trans (fr a ha)
  · rcases ab_i h with ⟨c5, h⟩ | ⟨c5, h⟩
    · obtain ⟨q1, q2⟩ := ab_r2 h
      exact fun a ha => (congrFun q2.symm a).trans (fr a ha)
    · rcases ab_i h with ⟨c6, h⟩ | ⟨c6, h⟩
      · rcases ab_i h with ⟨c7, h⟩ | ⟨c7, h⟩
        · rcases ab_i h with ⟨c8, h⟩ | ⟨c8, h⟩
          · obtain ⟨r10, σ11, e9, h⟩ := ab_2 h
            have fr := fun (a : Nat) (ha : nw_X6_row a) => (w_X6_found e9 a (by unfold nw_X6_row at ha; unfold nw_X6_found; omega)).trans (fr a ha)
            obtain ⟨q1, q2⟩ := ab_r2 h
            exact fun a ha => (congrFun q2.symm a).trans (fr a ha)
          · obtain ⟨σ14, e12, h⟩ := ab_1 h
            have fr := fun (a : Nat) (ha : nw_X6_row a) => (w_X2_lay e12 a (by unfold nw_X6_row at ha; unfold nw_X2_lay; omega)).trans (fr a ha)
            obtain ⟨r16, σ17, e15, h⟩ := ab_2 h
            have fr := fun (a : Nat) (ha : nw_X6_row a) => (w_X6_unfound e15 a (by unfold nw_X6_row at ha; unfold nw_X6_unfound; omega)).trans (fr a ha)
            obtain ⟨q1, q2⟩ := ab_r2 h
            exact fun a ha => (congrFun q2.symm a).trans (fr a ha)
        · obtain ⟨q1, q2⟩ := ab_r2 h
          exact fun a ha => (congrFun q2.symm a).trans (fr a ha)
      · obtain ⟨q1, q2⟩ := ab_r2 h
        exact fun a ha => (congrFun q2.symm a).trans (fr a ha)
/-! MoodFare.set -/
def f_X6_set (n : Nat) (p1 : Int) (p2 : Int) (p3 : Int) (σ : am_Mem) : Option (Int × am_Mem) :=
  am_b2 (f_X2_isRow n p1 σ) fun r2 σ3 => if r2 = 0 then (some ((-1000001), σ3)) else (am_b2 (f_X2_findingOf n p1 p2 1 σ3) fun r6 σ7 => if r6 = 0 then (am_b2 (f_X2_put n p1 p2 p3 σ7) fun r10 σ11 => am_b2 (f_X6_unfound n r10 σ11) fun r13 σ14 => some (r13, σ14)) else (am_b2 (f_X6_found n r6 σ7) fun r16 σ17 => some (r16, σ17)))
theorem t_X6_set {L n d : Nat} {Q : am_Post} {p1 : Int} {p2 : Int} {p3 : Int} {σ σr : am_Mem} {rr : Int} (hd : 2 < d) (h : f_X6_set n p1 p2 p3 σ = some (rr, σr)) (hQ : Q (some (am_i rr)) (rm_h L σr)) : xs_aw d me_X6_set [am_r 3, am_i p1, am_i p2, am_i p3] (rm_h L σ) Q := by
  obtain ⟨d, rfl⟩ : ∃ k, d = k + 1 := ⟨d - 1, by omega⟩
  have hd : 2 ≤ d := by omega
  unfold f_X6_set at h
  show xs_AW (xs_aw d) me_X6_set Q 0 [some (am_r 3), some (am_i p1), some (am_i p2), some (am_i p3), none] [] (rm_h L σ)
  refine rr_iload_n dX6_set_0 rfl ?_
  obtain ⟨r2, σ3, e1, h⟩ := ab_2 h
  refine rr_Si (as := [am_i p1]) (rest := []) dX6_set_1 ml_6_65 (Or.inl rfl) rfl rfl (Nat.le_of_ble_eq_true rfl) ⟨rfl, rfl⟩ (Nat.le_of_ble_eq_true rfl) (fun _ k => t_X2_isRow (by omega) e1 k) ?_
  rcases ab_i h with ⟨c4, h⟩ | ⟨c4, h⟩
  · refine rr_if_ne_p (t := 10) dX6_set_4 (by decide) c4 ?_
    refine rr_ldc dX6_set_7 cs_6_69 ?_
    obtain ⟨rfl, rfl⟩ := ab_r2 h
    exact rr_iret dX6_set_9 rfl hQ
  · refine rr_if_ne_n (t := 10) dX6_set_4 (by decide) c4 ?_
    refine rr_aload_n dX6_set_10 rfl ?_
    refine rr_getr (t := 4) dX6_set_11 fl_6_10 (sh_3 L) ⟨(by decide), by decide⟩ rfl rfl ?_
    refine rr_iload_n dX6_set_14 rfl ?_
    refine rr_iload_n dX6_set_15 rfl ?_
    refine rr_iconst dX6_set_16 (by decide) ?_
    obtain ⟨r6, σ7, e5, h⟩ := ab_2 h
    refine rr_Vi (as := [am_i p1, am_i p2, am_i 1]) (rest := []) dX6_set_17 ml_6_81 (sh_4 L) ⟨(by decide), by decide, by decide⟩ rfl rfl rfl (Nat.le_of_ble_eq_true rfl) ⟨rfl, rfl⟩ (Nat.le_of_ble_eq_true rfl) (fun _ k => t_X2_findingOf (by omega) e5 k) ?_
    refine rr_istore (ls' := [some (am_r 3), some (am_i p1), some (am_i p2), some (am_i p3), some (am_i r6)]) dX6_set_20 (Nat.le_of_ble_eq_true rfl) rfl ?_
    refine rr_iload dX6_set_22 rfl ?_
    rcases ab_i h with ⟨c8, h⟩ | ⟨c8, h⟩
    · refine rr_if_eq_p (t := 34) dX6_set_24 (by decide) c8 ?_
      refine rr_aload_n dX6_set_34 rfl ?_
      refine rr_aload_n dX6_set_35 rfl ?_
      refine rr_getr (t := 4) dX6_set_36 fl_6_10 (sh_3 L) ⟨(by decide), by decide⟩ rfl rfl ?_
      refine rr_iload_n dX6_set_39 rfl ?_
      refine rr_iload_n dX6_set_40 rfl ?_
      refine rr_iload_n dX6_set_41 rfl ?_
      obtain ⟨r10, σ11, e9, h⟩ := ab_2 h
      refine rr_Vi (as := [am_i p1, am_i p2, am_i p3]) (rest := [am_r 3]) dX6_set_42 ml_6_85 (sh_4 L) ⟨(by decide), by decide, by decide⟩ rfl rfl rfl (Nat.le_of_ble_eq_true rfl) ⟨rfl, rfl⟩ (Nat.le_of_ble_eq_true rfl) (fun _ k => t_X2_put (by omega) e9 k) ?_
      obtain ⟨r13, σ14, e12, h⟩ := ab_2 h
      refine rr_Vi (as := [am_i r10]) (rest := []) dX6_set_45 ml_6_78 (sh_3 L) ⟨(by decide), by decide, by decide⟩ rfl rfl rfl (Nat.le_of_ble_eq_true rfl) ⟨rfl, rfl⟩ (Nat.le_of_ble_eq_true rfl) (fun _ k => t_X6_unfound (by omega) e12 k) ?_
      obtain ⟨rfl, rfl⟩ := ab_r2 h
      exact rr_iret dX6_set_48 rfl hQ
    · refine rr_if_eq_n (t := 34) dX6_set_24 (by decide) c8 ?_
      refine rr_aload_n dX6_set_27 rfl ?_
      refine rr_iload dX6_set_28 rfl ?_
      obtain ⟨r16, σ17, e15, h⟩ := ab_2 h
      refine rr_Vi (as := [am_i r6]) (rest := []) dX6_set_30 ml_6_70 (sh_3 L) ⟨(by decide), by decide, by decide⟩ rfl rfl rfl (Nat.le_of_ble_eq_true rfl) ⟨rfl, rfl⟩ (Nat.le_of_ble_eq_true rfl) (fun _ k => t_X6_found (by omega) e15 k) ?_
      obtain ⟨rfl, rfl⟩ := ab_r2 h
      exact rr_iret dX6_set_33 rfl hQ
def nw_X6_set (a : Nat) : Prop := a ≠ 3 ∧ (a < 8 ∨ 16 ≤ a)
theorem w_X6_set {n : Nat} {p1 : Int} {p2 : Int} {p3 : Int} {σ σr : am_Mem} {rr : Int} (h : f_X6_set n p1 p2 p3 σ = some (rr, σr)) : ∀ a : Nat, nw_X6_set a → σr a = σ a := by
  unfold f_X6_set at h
  have fr : ∀ a : Nat, nw_X6_set a → σ a = σ a := fun _ _ => rfl
  obtain ⟨r2, σ3, e1, h⟩ := ab_2 h
  have fr := fun (a : Nat) (ha : nw_X6_set a) => (congrFun (u_X2_isRow e1) a).trans (fr a ha)
  rcases ab_i h with ⟨c4, h⟩ | ⟨c4, h⟩
  · obtain ⟨q1, q2⟩ := ab_r2 h
    exact fun a ha => (congrFun q2.symm a).trans (fr a ha)
  · obtain ⟨r6, σ7, e5, h⟩ := ab_2 h
    have fr := fun (a : Nat) (ha : nw_X6_set a) => (congrFun (u_X2_findingOf e5) a).trans (fr a ha)
    rcases ab_i h with ⟨c8, h⟩ | ⟨c8, h⟩
    · obtain ⟨r10, σ11, e9, h⟩ := ab_2 h
      have fr := fun (a : Nat) (ha : nw_X6_set a) => (w_X2_put e9 a (by unfold nw_X6_set at ha; unfold nw_X2_put; omega)).trans (fr a ha)
      obtain ⟨r13, σ14, e12, h⟩ := ab_2 h
      have fr := fun (a : Nat) (ha : nw_X6_set a) => (w_X6_unfound e12 a (by unfold nw_X6_set at ha; unfold nw_X6_unfound; omega)).trans (fr a ha)
      obtain ⟨q1, q2⟩ := ab_r2 h
      exact fun a ha => (congrFun q2.symm a).trans (fr a ha)
    · obtain ⟨r16, σ17, e15, h⟩ := ab_2 h
      have fr := fun (a : Nat) (ha : nw_X6_set a) => (w_X6_found e15 a (by unfold nw_X6_set at ha; unfold nw_X6_found; omega)).trans (fr a ha)
      obtain ⟨q1, q2⟩ := ab_r2 h
      exact fun a ha => (congrFun q2.symm a).trans (fr a ha)
/-! MoodFare.copy -/
def f_X6_copy (n : Nat) (p1 : Int) (p2 : Int) (p3 : Int) (p4 : Int) (p5 : Int) (σ : am_Mem) : Option (Int × am_Mem) :=
  am_b2 (f_X2_isRow n p1 σ) fun r2 σ3 => if r2 = 0 then (some ((-1000001), σ3)) else (am_b2 (f_X2_isRow n p3 σ3) fun r6 σ7 => if r6 = 0 then (some ((-1000001), σ7)) else (am_b2 (f_X2_findingOfMove n p1 p2 p3 p4 p5 σ7) fun r10 σ11 => if r10 = 0 then (am_b1 (f_X2_move n p1 p2 p3 p4 p5 σ11) fun σ15 => am_b2 (f_X6_unfound n p5 σ15) fun r17 σ18 => some (r17, σ18)) else (am_b2 (f_X6_found n r10 σ11) fun r20 σ21 => some (r20, σ21))))
theorem t_X6_copy {L n d : Nat} {Q : am_Post} {p1 : Int} {p2 : Int} {p3 : Int} {p4 : Int} {p5 : Int} {σ σr : am_Mem} {rr : Int} (hd : 2 < d) (h : f_X6_copy n p1 p2 p3 p4 p5 σ = some (rr, σr)) (hQ : Q (some (am_i rr)) (rm_h L σr)) : xs_aw d me_X6_copy [am_r 3, am_i p1, am_i p2, am_i p3, am_i p4, am_i p5] (rm_h L σ) Q := by
  obtain ⟨d, rfl⟩ : ∃ k, d = k + 1 := ⟨d - 1, by omega⟩
  have hd : 2 ≤ d := by omega
  unfold f_X6_copy at h
  show xs_AW (xs_aw d) me_X6_copy Q 0 [some (am_r 3), some (am_i p1), some (am_i p2), some (am_i p3), some (am_i p4), some (am_i p5), none] [] (rm_h L σ)
  refine rr_iload_n dX6_copy_0 rfl ?_
  obtain ⟨r2, σ3, e1, h⟩ := ab_2 h
  refine rr_Si (as := [am_i p1]) (rest := []) dX6_copy_1 ml_6_65 (Or.inl rfl) rfl rfl (Nat.le_of_ble_eq_true rfl) ⟨rfl, rfl⟩ (Nat.le_of_ble_eq_true rfl) (fun _ k => t_X2_isRow (by omega) e1 k) ?_
  rcases ab_i h with ⟨c4, h⟩ | ⟨c4, h⟩
  · refine rr_if_eq_p (t := 14) dX6_copy_4 (by decide) c4 ?_
    refine rr_ldc dX6_copy_14 cs_6_69 ?_
    obtain ⟨rfl, rfl⟩ := ab_r2 h
    exact rr_iret dX6_copy_16 rfl hQ
  · refine rr_if_eq_n (t := 14) dX6_copy_4 (by decide) c4 ?_
    refine rr_iload_n dX6_copy_7 rfl ?_
    obtain ⟨r6, σ7, e5, h⟩ := ab_2 h
    refine rr_Si (as := [am_i p3]) (rest := []) dX6_copy_8 ml_6_65 (Or.inl rfl) rfl rfl (Nat.le_of_ble_eq_true rfl) ⟨rfl, rfl⟩ (Nat.le_of_ble_eq_true rfl) (fun _ k => t_X2_isRow (by omega) e5 k) ?_
    rcases ab_i h with ⟨c8, h⟩ | ⟨c8, h⟩
    · refine rr_if_ne_p (t := 17) dX6_copy_11 (by decide) c8 ?_
      refine rr_ldc dX6_copy_14 cs_6_69 ?_
      obtain ⟨rfl, rfl⟩ := ab_r2 h
      exact rr_iret dX6_copy_16 rfl hQ
    · refine rr_if_ne_n (t := 17) dX6_copy_11 (by decide) c8 ?_
      refine rr_aload_n dX6_copy_17 rfl ?_
      refine rr_getr (t := 4) dX6_copy_18 fl_6_10 (sh_3 L) ⟨(by decide), by decide⟩ rfl rfl ?_
      refine rr_iload_n dX6_copy_21 rfl ?_
      refine rr_iload_n dX6_copy_22 rfl ?_
      refine rr_iload_n dX6_copy_23 rfl ?_
      refine rr_iload dX6_copy_24 rfl ?_
      refine rr_iload dX6_copy_26 rfl ?_
      obtain ⟨r10, σ11, e9, h⟩ := ab_2 h
      refine rr_Vi (as := [am_i p1, am_i p2, am_i p3, am_i p4, am_i p5]) (rest := []) dX6_copy_28 ml_6_88 (sh_4 L) ⟨(by decide), by decide, by decide⟩ rfl rfl rfl (Nat.le_of_ble_eq_true rfl) ⟨rfl, rfl⟩ (Nat.le_of_ble_eq_true rfl) (fun _ k => t_X2_findingOfMove (by omega) e9 k) ?_
      refine rr_istore (ls' := [some (am_r 3), some (am_i p1), some (am_i p2), some (am_i p3), some (am_i p4), some (am_i p5), some (am_i r10)]) dX6_copy_31 (Nat.le_of_ble_eq_true rfl) rfl ?_
      refine rr_iload dX6_copy_33 rfl ?_
      rcases ab_i h with ⟨c12, h⟩ | ⟨c12, h⟩
      · refine rr_if_eq_p (t := 45) dX6_copy_35 (by decide) c12 ?_
        refine rr_aload_n dX6_copy_45 rfl ?_
        refine rr_getr (t := 4) dX6_copy_46 fl_6_10 (sh_3 L) ⟨(by decide), by decide⟩ rfl rfl ?_
        refine rr_iload_n dX6_copy_49 rfl ?_
        refine rr_iload_n dX6_copy_50 rfl ?_
        refine rr_iload_n dX6_copy_51 rfl ?_
        refine rr_iload dX6_copy_52 rfl ?_
        refine rr_iload dX6_copy_54 rfl ?_
        obtain ⟨σ15, e13, h⟩ := ab_1 h
        refine rr_Vv (as := [am_i p1, am_i p2, am_i p3, am_i p4, am_i p5]) (rest := []) dX6_copy_56 ml_6_92 (sh_4 L) ⟨(by decide), by decide, by decide⟩ rfl rfl rfl (Nat.le_of_ble_eq_true rfl) ⟨rfl, rfl⟩ (Nat.le_of_ble_eq_true rfl) (fun _ k => t_X2_move (by omega) e13 k) ?_
        refine rr_aload_n dX6_copy_59 rfl ?_
        refine rr_iload dX6_copy_60 rfl ?_
        obtain ⟨r17, σ18, e16, h⟩ := ab_2 h
        refine rr_Vi (as := [am_i p5]) (rest := []) dX6_copy_62 ml_6_78 (sh_3 L) ⟨(by decide), by decide, by decide⟩ rfl rfl rfl (Nat.le_of_ble_eq_true rfl) ⟨rfl, rfl⟩ (Nat.le_of_ble_eq_true rfl) (fun _ k => t_X6_unfound (by omega) e16 k) ?_
        obtain ⟨rfl, rfl⟩ := ab_r2 h
        exact rr_iret dX6_copy_65 rfl hQ
      · refine rr_if_eq_n (t := 45) dX6_copy_35 (by decide) c12 ?_
        refine rr_aload_n dX6_copy_38 rfl ?_
        refine rr_iload dX6_copy_39 rfl ?_
        obtain ⟨r20, σ21, e19, h⟩ := ab_2 h
        refine rr_Vi (as := [am_i r10]) (rest := []) dX6_copy_41 ml_6_70 (sh_3 L) ⟨(by decide), by decide, by decide⟩ rfl rfl rfl (Nat.le_of_ble_eq_true rfl) ⟨rfl, rfl⟩ (Nat.le_of_ble_eq_true rfl) (fun _ k => t_X6_found (by omega) e19 k) ?_
        obtain ⟨rfl, rfl⟩ := ab_r2 h
        exact rr_iret dX6_copy_44 rfl hQ
def nw_X6_copy (a : Nat) : Prop := a ≠ 3 ∧ (a < 8 ∨ 16 ≤ a)
theorem w_X6_copy {n : Nat} {p1 : Int} {p2 : Int} {p3 : Int} {p4 : Int} {p5 : Int} {σ σr : am_Mem} {rr : Int} (h : f_X6_copy n p1 p2 p3 p4 p5 σ = some (rr, σr)) : ∀ a : Nat, nw_X6_copy a → σr a = σ a := by
  unfold f_X6_copy at h
  have fr : ∀ a : Nat, nw_X6_copy a → σ a = σ a := fun _ _ => rfl
  obtain ⟨r2, σ3, e1, h⟩ := ab_2 h
  have fr := fun (a : Nat) (ha : nw_X6_copy a) => (congrFun (u_X2_isRow e1) a).trans (fr a ha)
  rcases ab_i h with ⟨c4, h⟩ | ⟨c4, h⟩
  · obtain ⟨q1, q2⟩ := ab_r2 h
    exact fun a ha => (congrFun q2.symm a).trans (fr a ha)
  · obtain ⟨r6, σ7, e5, h⟩ := ab_2 h
    have fr := fun (a : Nat) (ha : nw_X6_copy a) => (congrFun (u_X2_isRow e5) a).trans (fr a ha)
    rcases ab_i h with ⟨c8, h⟩ | ⟨c8, h⟩
    · obtain ⟨q1, q2⟩ := ab_r2 h
      exact fun a ha => (congrFun q2.symm a).trans (fr a ha)
    · obtain ⟨r10, σ11, e9, h⟩ := ab_2 h
      have fr := fun (a : Nat) (ha : nw_X6_copy a) => (congrFun (u_X2_findingOfMove e9) a).trans (fr a ha)
      rcases ab_i h with ⟨c12, h⟩ | ⟨c12, h⟩
      · obtain ⟨σ15, e13, h⟩ := ab_1 h
        have fr := fun (a : Nat) (ha : nw_X6_copy a) => (w_X2_move e13 a (by unfold nw_X6_copy at ha; unfold nw_X2_move; omega)).trans (fr a ha)
        obtain ⟨r17, σ18, e16, h⟩ := ab_2 h
        have fr := fun (a : Nat) (ha : nw_X6_copy a) => (w_X6_unfound e16 a (by unfold nw_X6_copy at ha; unfold nw_X6_unfound; omega)).trans (fr a ha)
        obtain ⟨q1, q2⟩ := ab_r2 h
        exact fun a ha => (congrFun q2.symm a).trans (fr a ha)
      · obtain ⟨r20, σ21, e19, h⟩ := ab_2 h
        have fr := fun (a : Nat) (ha : nw_X6_copy a) => (w_X6_found e19 a (by unfold nw_X6_copy at ha; unfold nw_X6_found; omega)).trans (fr a ha)
        obtain ⟨q1, q2⟩ := ab_r2 h
        exact fun a ha => (congrFun q2.symm a).trans (fr a ha)
/-! MoodFare.drop -/
def f_X6_drop (n : Nat) (p1 : Int) (σ : am_Mem) : Option (Int × am_Mem) :=
  am_b2 (f_X2_isRow n p1 σ) fun r2 σ3 => if r2 = 0 then (some ((-1000001), σ3)) else (am_b2 (f_X2_isMissing n p1 σ3) fun r6 σ7 => if r6 = 0 then (am_b2 (f_X2_lose n p1 σ7) fun r10 σ11 => am_b2 (f_X6_unfound n r10 σ11) fun r13 σ14 => some (r13, σ14)) else (am_b2 (f_X6_found n 1 σ7) fun r16 σ17 => some (r16, σ17)))
theorem t_X6_drop {L n d : Nat} {Q : am_Post} {p1 : Int} {σ σr : am_Mem} {rr : Int} (hd : 1 < d) (h : f_X6_drop n p1 σ = some (rr, σr)) (hQ : Q (some (am_i rr)) (rm_h L σr)) : xs_aw d me_X6_drop [am_r 3, am_i p1] (rm_h L σ) Q := by
  obtain ⟨d, rfl⟩ : ∃ k, d = k + 1 := ⟨d - 1, by omega⟩
  have hd : 1 ≤ d := by omega
  unfold f_X6_drop at h
  show xs_AW (xs_aw d) me_X6_drop Q 0 [some (am_r 3), some (am_i p1)] [] (rm_h L σ)
  refine rr_iload_n dX6_drop_0 rfl ?_
  obtain ⟨r2, σ3, e1, h⟩ := ab_2 h
  refine rr_Si (as := [am_i p1]) (rest := []) dX6_drop_1 ml_6_65 (Or.inl rfl) rfl rfl (Nat.le_of_ble_eq_true rfl) ⟨rfl, rfl⟩ (Nat.le_of_ble_eq_true rfl) (fun _ k => t_X2_isRow (by omega) e1 k) ?_
  rcases ab_i h with ⟨c4, h⟩ | ⟨c4, h⟩
  · refine rr_if_ne_p (t := 10) dX6_drop_4 (by decide) c4 ?_
    refine rr_ldc dX6_drop_7 cs_6_69 ?_
    obtain ⟨rfl, rfl⟩ := ab_r2 h
    exact rr_iret dX6_drop_9 rfl hQ
  · refine rr_if_ne_n (t := 10) dX6_drop_4 (by decide) c4 ?_
    refine rr_aload_n dX6_drop_10 rfl ?_
    refine rr_getr (t := 4) dX6_drop_11 fl_6_10 (sh_3 L) ⟨(by decide), by decide⟩ rfl rfl ?_
    refine rr_iload_n dX6_drop_14 rfl ?_
    obtain ⟨r6, σ7, e5, h⟩ := ab_2 h
    refine rr_Vi (as := [am_i p1]) (rest := []) dX6_drop_15 ml_6_96 (sh_4 L) ⟨(by decide), by decide, by decide⟩ rfl rfl rfl (Nat.le_of_ble_eq_true rfl) ⟨rfl, rfl⟩ (Nat.le_of_ble_eq_true rfl) (fun _ k => t_X2_isMissing (by omega) e5 k) ?_
    rcases ab_i h with ⟨c8, h⟩ | ⟨c8, h⟩
    · refine rr_if_eq_p (t := 27) dX6_drop_18 (by decide) c8 ?_
      refine rr_aload_n dX6_drop_27 rfl ?_
      refine rr_aload_n dX6_drop_28 rfl ?_
      refine rr_getr (t := 4) dX6_drop_29 fl_6_10 (sh_3 L) ⟨(by decide), by decide⟩ rfl rfl ?_
      refine rr_iload_n dX6_drop_32 rfl ?_
      obtain ⟨r10, σ11, e9, h⟩ := ab_2 h
      refine rr_Vi (as := [am_i p1]) (rest := [am_r 3]) dX6_drop_33 ml_6_99 (sh_4 L) ⟨(by decide), by decide, by decide⟩ rfl rfl rfl (Nat.le_of_ble_eq_true rfl) ⟨rfl, rfl⟩ (Nat.le_of_ble_eq_true rfl) (fun _ k => t_X2_lose (by omega) e9 k) ?_
      obtain ⟨r13, σ14, e12, h⟩ := ab_2 h
      refine rr_Vi (as := [am_i r10]) (rest := []) dX6_drop_36 ml_6_78 (sh_3 L) ⟨(by decide), by decide, by decide⟩ rfl rfl rfl (Nat.le_of_ble_eq_true rfl) ⟨rfl, rfl⟩ (Nat.le_of_ble_eq_true rfl) (fun _ k => t_X6_unfound (by omega) e12 k) ?_
      obtain ⟨rfl, rfl⟩ := ab_r2 h
      exact rr_iret dX6_drop_39 rfl hQ
    · refine rr_if_eq_n (t := 27) dX6_drop_18 (by decide) c8 ?_
      refine rr_aload_n dX6_drop_21 rfl ?_
      refine rr_iconst dX6_drop_22 (by decide) ?_
      obtain ⟨r16, σ17, e15, h⟩ := ab_2 h
      refine rr_Vi (as := [am_i 1]) (rest := []) dX6_drop_23 ml_6_70 (sh_3 L) ⟨(by decide), by decide, by decide⟩ rfl rfl rfl (Nat.le_of_ble_eq_true rfl) ⟨rfl, rfl⟩ (Nat.le_of_ble_eq_true rfl) (fun _ k => t_X6_found (by omega) e15 k) ?_
      obtain ⟨rfl, rfl⟩ := ab_r2 h
      exact rr_iret dX6_drop_26 rfl hQ
def nw_X6_drop (a : Nat) : Prop := a ≠ 3 ∧ a ≠ 6
theorem w_X6_drop {n : Nat} {p1 : Int} {σ σr : am_Mem} {rr : Int} (h : f_X6_drop n p1 σ = some (rr, σr)) : ∀ a : Nat, nw_X6_drop a → σr a = σ a := by
  unfold f_X6_drop at h
  have fr : ∀ a : Nat, nw_X6_drop a → σ a = σ a := fun _ _ => rfl
  obtain ⟨r2, σ3, e1, h⟩ := ab_2 h
  have fr := fun (a : Nat) (ha : nw_X6_drop a) => (congrFun (u_X2_isRow e1) a).trans (fr a ha)
  rcases ab_i h with ⟨c4, h⟩ | ⟨c4, h⟩
  · obtain ⟨q1, q2⟩ := ab_r2 h
    exact fun a ha => (congrFun q2.symm a).trans (fr a ha)
  · obtain ⟨r6, σ7, e5, h⟩ := ab_2 h
    have fr := fun (a : Nat) (ha : nw_X6_drop a) => (congrFun (u_X2_isMissing e5) a).trans (fr a ha)
    rcases ab_i h with ⟨c8, h⟩ | ⟨c8, h⟩
    · obtain ⟨r10, σ11, e9, h⟩ := ab_2 h
      have fr := fun (a : Nat) (ha : nw_X6_drop a) => (w_X2_lose e9 a (by unfold nw_X6_drop at ha; unfold nw_X2_lose; omega)).trans (fr a ha)
      obtain ⟨r13, σ14, e12, h⟩ := ab_2 h
      have fr := fun (a : Nat) (ha : nw_X6_drop a) => (w_X6_unfound e12 a (by unfold nw_X6_drop at ha; unfold nw_X6_unfound; omega)).trans (fr a ha)
      obtain ⟨q1, q2⟩ := ab_r2 h
      exact fun a ha => (congrFun q2.symm a).trans (fr a ha)
    · obtain ⟨r16, σ17, e15, h⟩ := ab_2 h
      have fr := fun (a : Nat) (ha : nw_X6_drop a) => (w_X6_found e15 a (by unfold nw_X6_drop at ha; unfold nw_X6_found; omega)).trans (fr a ha)
      obtain ⟨q1, q2⟩ := ab_r2 h
      exact fun a ha => (congrFun q2.symm a).trans (fr a ha)
/-! MoodFare.feed -/
def f_X6_feed (n : Nat) (p1 : Int) (σ : am_Mem) : Option (Int × am_Mem) :=
  if p1 < 0 then (some ((-1000001), σ)) else (if p1 ≤ 255 then (if σ 16 1 < 120 then (am_b2 (f_X4_put n p1 σ) fun r5 σ6 => some (r5, σ6)) else (some ((-1000003), σ))) else (some ((-1000001), σ)))
theorem t_X6_feed {L n d : Nat} {Q : am_Post} {p1 : Int} {σ σr : am_Mem} {rr : Int} (hd : 1 < d) (h : f_X6_feed n p1 σ = some (rr, σr)) (hQ : Q (some (am_i rr)) (rm_h L σr)) : xs_aw d me_X6_feed [am_r 3, am_i p1] (rm_h L σ) Q := by
  obtain ⟨d, rfl⟩ : ∃ k, d = k + 1 := ⟨d - 1, by omega⟩
  have hd : 1 ≤ d := by omega
  unfold f_X6_feed at h
  show xs_AW (xs_aw d) me_X6_feed Q 0 [some (am_r 3), some (am_i p1)] [] (rm_h L σ)
  refine rr_iload_n dX6_feed_0 rfl ?_
  rcases ab_i h with ⟨c1, h⟩ | ⟨c1, h⟩
  · refine rr_if_lt_p (t := 11) dX6_feed_1 (by decide) c1 ?_
    refine rr_ldc dX6_feed_11 cs_6_69 ?_
    obtain ⟨rfl, rfl⟩ := ab_r2 h
    exact rr_iret dX6_feed_13 rfl hQ
  · refine rr_if_lt_n (t := 11) dX6_feed_1 (by decide) c1 ?_
    refine rr_iload_n dX6_feed_4 rfl ?_
    refine rr_sipush dX6_feed_5 (by decide) ?_
    rcases ab_i h with ⟨c2, h⟩ | ⟨c2, h⟩
    · refine rr_icmp_le_p (t := 14) dX6_feed_8 (by decide) c2 ?_
      refine rr_aload_n dX6_feed_14 rfl ?_
      refine rr_getr (t := 16) dX6_feed_15 fl_6_19 (sh_3 L) ⟨(by decide), by decide⟩ rfl rfl ?_
      refine rr_geti (kz := 1) dX6_feed_18 fl_6_102 (sh_16 L) ⟨(by decide), by decide⟩ rfl rfl ?_
      refine rr_bipush dX6_feed_21 (by decide) ?_
      rcases ab_i h with ⟨c3, h⟩ | ⟨c3, h⟩
      · refine rr_icmp_lt_p (t := 29) dX6_feed_23 (by decide) c3 ?_
        refine rr_aload_n dX6_feed_29 rfl ?_
        refine rr_getr (t := 16) dX6_feed_30 fl_6_19 (sh_3 L) ⟨(by decide), by decide⟩ rfl rfl ?_
        refine rr_iload_n dX6_feed_33 rfl ?_
        obtain ⟨r5, σ6, e4, h⟩ := ab_2 h
        refine rr_Vi (as := [am_i p1]) (rest := []) dX6_feed_34 ml_6_106 (sh_16 L) ⟨(by decide), by decide, by decide⟩ rfl rfl rfl (Nat.le_of_ble_eq_true rfl) ⟨rfl, rfl⟩ (Nat.le_of_ble_eq_true rfl) (fun _ k => t_X4_put (by omega) e4 k) ?_
        obtain ⟨rfl, rfl⟩ := ab_r2 h
        exact rr_iret dX6_feed_37 rfl hQ
      · refine rr_icmp_lt_n (t := 29) dX6_feed_23 (by decide) c3 ?_
        refine rr_ldc dX6_feed_26 cs_6_105 ?_
        obtain ⟨rfl, rfl⟩ := ab_r2 h
        exact rr_iret dX6_feed_28 rfl hQ
    · refine rr_icmp_le_n (t := 14) dX6_feed_8 (by decide) c2 ?_
      refine rr_ldc dX6_feed_11 cs_6_69 ?_
      obtain ⟨rfl, rfl⟩ := ab_r2 h
      exact rr_iret dX6_feed_13 rfl hQ
def nw_X6_feed (a : Nat) : Prop := a ≠ 16 ∧ a ≠ 17
theorem w_X6_feed {n : Nat} {p1 : Int} {σ σr : am_Mem} {rr : Int} (h : f_X6_feed n p1 σ = some (rr, σr)) : ∀ a : Nat, nw_X6_feed a → σr a = σ a := by
  unfold f_X6_feed at h
  have fr : ∀ a : Nat, nw_X6_feed a → σ a = σ a := fun _ _ => rfl
  rcases ab_i h with ⟨c1, h⟩ | ⟨c1, h⟩
  · obtain ⟨q1, q2⟩ := ab_r2 h
    exact fun a ha => (congrFun q2.symm a).trans (fr a ha)
  · rcases ab_i h with ⟨c2, h⟩ | ⟨c2, h⟩
    · rcases ab_i h with ⟨c3, h⟩ | ⟨c3, h⟩
      · obtain ⟨r5, σ6, e4, h⟩ := ab_2 h
        have fr := fun (a : Nat) (ha : nw_X6_feed a) => (w_X4_put e4 a (by unfold nw_X6_feed at ha; unfold nw_X4_put; omega)).trans (fr a ha)
        obtain ⟨q1, q2⟩ := ab_r2 h
        exact fun a ha => (congrFun q2.symm a).trans (fr a ha)
      · obtain ⟨q1, q2⟩ := ab_r2 h
        exact fun a ha => (congrFun q2.symm a).trans (fr a ha)
    · obtain ⟨q1, q2⟩ := ab_r2 h
      exact fun a ha => (congrFun q2.symm a).trans (fr a ha)
/-! MoodFare.town -/
def f_X6_town (n : Nat) (σ : am_Mem) : Option (Int × am_Mem) :=
  am_b2 (f_X4_readInto n 24 σ) fun r2 σ3 => am_b1 (some (am_up σ3 16 1 0)) fun σ4 => if r2 = 0 then (am_b1 (some (am_up σ4 3 9 (σ4 16 2))) fun σ7 => some (am_w ((-1000100) - (σ7 16 3)), σ7)) else (am_b1 (f_X5_become n 18 24 σ4) fun σ11 => am_b1 (f_X0_forget n σ11) fun σ14 => some (σ14 18 6, σ14))
theorem t_X6_town {L n d : Nat} {Q : am_Post} {σ σr : am_Mem} {rr : Int} (hd : 5 < d) (h : f_X6_town n σ = some (rr, σr)) (hQ : Q (some (am_i rr)) (rm_h L σr)) : xs_aw d me_X6_town [am_r 3] (rm_h L σ) Q := by
  obtain ⟨d, rfl⟩ : ∃ k, d = k + 1 := ⟨d - 1, by omega⟩
  have hd : 5 ≤ d := by omega
  unfold f_X6_town at h
  show xs_AW (xs_aw d) me_X6_town Q 0 [some (am_r 3), none] [] (rm_h L σ)
  refine rr_aload_n dX6_town_0 rfl ?_
  refine rr_getr (t := 16) dX6_town_1 fl_6_19 (sh_3 L) ⟨(by decide), by decide⟩ rfl rfl ?_
  refine rr_aload_n dX6_town_4 rfl ?_
  refine rr_getr (t := 24) dX6_town_5 fl_6_30 (sh_3 L) ⟨(by decide), by decide⟩ rfl rfl ?_
  obtain ⟨r2, σ3, e1, h⟩ := ab_2 h
  refine rr_Vi (as := [am_r 24]) (rest := []) dX6_town_8 ml_6_108 (sh_16 L) ⟨(by decide), by decide, by decide⟩ rfl rfl rfl (Nat.le_of_ble_eq_true rfl) ⟨rfl, rfl⟩ (Nat.le_of_ble_eq_true rfl) (fun _ k => t_X4_readInto (by omega) tw_24 e1 k) ?_
  refine rr_istore_n (ls' := [some (am_r 3), some (am_i r2)]) dX6_town_11 (Nat.le_of_ble_eq_true rfl) rfl ?_
  refine rr_aload_n dX6_town_12 rfl ?_
  refine rr_getr (t := 16) dX6_town_13 fl_6_19 (sh_3 L) ⟨(by decide), by decide⟩ rfl rfl ?_
  refine rr_iconst dX6_town_16 (by decide) ?_
  obtain ⟨σ4, e5, h⟩ := ab_1 h
  refine rr_puti (kz := 1) dX6_town_17 fl_6_102 (sh_16 L) ⟨(by decide), by decide⟩ ⟨rfl, rfl⟩ rfl (ab_m e5 ?_)
  refine rr_iload_n dX6_town_20 rfl ?_
  rcases ab_i h with ⟨c6, h⟩ | ⟨c6, h⟩
  · refine rr_if_ne_p (t := 46) dX6_town_21 (by decide) c6 ?_
    refine rr_aload_n dX6_town_24 rfl ?_
    refine rr_aload_n dX6_town_25 rfl ?_
    refine rr_getr (t := 16) dX6_town_26 fl_6_19 (sh_3 L) ⟨(by decide), by decide⟩ rfl rfl ?_
    refine rr_geti (kz := 2) dX6_town_29 fl_6_112 (sh_16 L) ⟨(by decide), by decide⟩ rfl rfl ?_
    obtain ⟨σ7, e8, h⟩ := ab_1 h
    refine rr_puti (kz := 9) dX6_town_32 fl_6_62 (sh_3 L) ⟨(by decide), by decide⟩ ⟨rfl, rfl⟩ rfl (ab_m e8 ?_)
    refine rr_ldc dX6_town_35 cs_6_115 ?_
    refine rr_aload_n dX6_town_37 rfl ?_
    refine rr_getr (t := 16) dX6_town_38 fl_6_19 (sh_3 L) ⟨(by decide), by decide⟩ rfl rfl ?_
    refine rr_geti (kz := 3) dX6_town_41 fl_6_116 (sh_16 L) ⟨(by decide), by decide⟩ rfl rfl ?_
    refine rr_isub dX6_town_44 ?_
    obtain ⟨rfl, rfl⟩ := ab_r2 h
    exact rr_iret dX6_town_45 rfl hQ
  · refine rr_if_ne_n (t := 46) dX6_town_21 (by decide) c6 ?_
    refine rr_aload_n dX6_town_46 rfl ?_
    refine rr_getr (t := 18) dX6_town_47 fl_6_26 (sh_3 L) ⟨(by decide), by decide⟩ rfl rfl ?_
    refine rr_aload_n dX6_town_50 rfl ?_
    refine rr_getr (t := 24) dX6_town_51 fl_6_30 (sh_3 L) ⟨(by decide), by decide⟩ rfl rfl ?_
    obtain ⟨σ11, e9, h⟩ := ab_1 h
    refine rr_Vv (as := [am_r 24]) (rest := []) dX6_town_54 ml_6_119 (sh_18 L) ⟨(by decide), by decide, by decide⟩ rfl rfl rfl (Nat.le_of_ble_eq_true rfl) ⟨rfl, rfl⟩ (Nat.le_of_ble_eq_true rfl) (fun _ k => t_X5_become (by omega) tw_18 tw_24 e9 k) ?_
    refine rr_aload_n dX6_town_57 rfl ?_
    refine rr_getr (t := 43) dX6_town_58 fl_6_40 (sh_3 L) ⟨(by decide), by decide⟩ rfl rfl ?_
    obtain ⟨σ14, e12, h⟩ := ab_1 h
    refine rr_Vv (as := []) (rest := []) dX6_town_61 ml_6_123 (sh_43 L) ⟨(by decide), by decide, by decide⟩ rfl rfl rfl (Nat.le_of_ble_eq_true rfl) ⟨rfl, rfl⟩ (Nat.le_of_ble_eq_true rfl) (fun _ k => t_X0_forget (by omega) e12 k) ?_
    refine rr_aload_n dX6_town_64 rfl ?_
    refine rr_getr (t := 18) dX6_town_65 fl_6_26 (sh_3 L) ⟨(by decide), by decide⟩ rfl rfl ?_
    refine rr_geti (kz := 6) dX6_town_68 fl_6_126 (sh_18 L) ⟨(by decide), by decide⟩ rfl rfl ?_
    obtain ⟨rfl, rfl⟩ := ab_r2 h
    exact rr_iret dX6_town_71 rfl hQ
def nw_X6_town (a : Nat) : Prop := a ≠ 16 ∧ a ≠ 18 ∧ a ≠ 19 ∧ a ≠ 20 ∧ a ≠ 21 ∧ a ≠ 22 ∧ a ≠ 23 ∧ a ≠ 24 ∧ a ≠ 25 ∧ a ≠ 26 ∧ a ≠ 27 ∧ a ≠ 28 ∧ a ≠ 29 ∧ a ≠ 3 ∧ a ≠ 43
theorem w_X6_town {n : Nat} {σ σr : am_Mem} {rr : Int} (h : f_X6_town n σ = some (rr, σr)) : ∀ a : Nat, nw_X6_town a → σr a = σ a := by
  unfold f_X6_town at h
  have fr : ∀ a : Nat, nw_X6_town a → σ a = σ a := fun _ _ => rfl
  obtain ⟨r2, σ3, e1, h⟩ := ab_2 h
  have fr := fun (a : Nat) (ha : nw_X6_town a) => (w_X4_readInto e1 a (by unfold nw_X6_town at ha; unfold nw_X4_readInto; omega)).trans (fr a ha)
  obtain ⟨σ4, e5, h⟩ := ab_1 h
  have fr := fun (a : Nat) (ha : nw_X6_town a) => (ab_fu e5 (show a ≠ 16 by unfold nw_X6_town at ha; omega)).trans (fr a ha)
  rcases ab_i h with ⟨c6, h⟩ | ⟨c6, h⟩
  · obtain ⟨σ7, e8, h⟩ := ab_1 h
    have fr := fun (a : Nat) (ha : nw_X6_town a) => (ab_fu e8 (show a ≠ 3 by unfold nw_X6_town at ha; omega)).trans (fr a ha)
    obtain ⟨q1, q2⟩ := ab_r2 h
    exact fun a ha => (congrFun q2.symm a).trans (fr a ha)
  · obtain ⟨σ11, e9, h⟩ := ab_1 h
    have fr := fun (a : Nat) (ha : nw_X6_town a) => (w_X5_become e9 a (by unfold nw_X6_town at ha; unfold nw_X5_become; omega)).trans (fr a ha)
    obtain ⟨σ14, e12, h⟩ := ab_1 h
    have fr := fun (a : Nat) (ha : nw_X6_town a) => (w_X0_forget e12 a (by unfold nw_X6_town at ha; unfold nw_X0_forget; omega)).trans (fr a ha)
    obtain ⟨q1, q2⟩ := ab_r2 h
    exact fun a ha => (congrFun q2.symm a).trans (fr a ha)
/-! MoodFare.fault -/
def f_X6_fault (n : Nat) (σ : am_Mem) : Option (Int × am_Mem) :=
  some (σ 3 9, σ)
theorem t_X6_fault {L n d : Nat} {Q : am_Post} {σ σr : am_Mem} {rr : Int} (hd : 0 < d) (h : f_X6_fault n σ = some (rr, σr)) (hQ : Q (some (am_i rr)) (rm_h L σr)) : xs_aw d me_X6_fault [am_r 3] (rm_h L σ) Q := by
  obtain ⟨d, rfl⟩ : ∃ k, d = k + 1 := ⟨d - 1, by omega⟩
  have hd : 0 ≤ d := by omega
  unfold f_X6_fault at h
  show xs_AW (xs_aw d) me_X6_fault Q 0 [some (am_r 3)] [] (rm_h L σ)
  refine rr_aload_n dX6_fault_0 rfl ?_
  refine rr_geti (kz := 9) dX6_fault_1 fl_6_62 (sh_3 L) ⟨(by decide), by decide⟩ rfl rfl ?_
  obtain ⟨rfl, rfl⟩ := ab_r2 h
  exact rr_iret dX6_fault_4 rfl hQ
theorem u_X6_fault {n : Nat} {σ σr : am_Mem} {rr : Int} (h : f_X6_fault n σ = some (rr, σr)) : σr = σ := by
  unfold f_X6_fault at h
  have fr : σ = σ := rfl
  obtain ⟨q1, q2⟩ := ab_r2 h
  exact q2.symm.trans fr
/-! MoodFare.ride -/
def f_X6_ride (n : Nat) (p1 : Int) (σ : am_Mem) : Option (Int × am_Mem) :=
  am_b2 (f_X5_hasStreet n 18 p1 σ) fun r2 σ3 => if r2 = 0 then (some ((-1000001), σ3)) else (am_b2 (f_X5_leads n 18 p1 σ3) fun r6 σ7 => if r6 = 0 then (some ((-1000002), σ7)) else (if σ7 18 12 < 999 then (am_b1 (f_X0_keep n 0 (σ7 18 9) (σ7 18 10) (σ7 18 11) σ7) fun σ12 => am_b1 (f_X5_goBy n 18 p1 σ12) fun σ15 => some (σ15 18 10, σ15)) else (some ((-1000003), σ7))))
theorem t_X6_ride {L n d : Nat} {Q : am_Post} {p1 : Int} {σ σr : am_Mem} {rr : Int} (hd : 4 < d) (h : f_X6_ride n p1 σ = some (rr, σr)) (hQ : Q (some (am_i rr)) (rm_h L σr)) : xs_aw d me_X6_ride [am_r 3, am_i p1] (rm_h L σ) Q := by
  obtain ⟨d, rfl⟩ : ∃ k, d = k + 1 := ⟨d - 1, by omega⟩
  have hd : 4 ≤ d := by omega
  unfold f_X6_ride at h
  show xs_AW (xs_aw d) me_X6_ride Q 0 [some (am_r 3), some (am_i p1)] [] (rm_h L σ)
  refine rr_aload_n dX6_ride_0 rfl ?_
  refine rr_getr (t := 18) dX6_ride_1 fl_6_26 (sh_3 L) ⟨(by decide), by decide⟩ rfl rfl ?_
  refine rr_iload_n dX6_ride_4 rfl ?_
  obtain ⟨r2, σ3, e1, h⟩ := ab_2 h
  refine rr_Vi (as := [am_i p1]) (rest := []) dX6_ride_5 ml_6_129 (sh_18 L) ⟨(by decide), by decide, by decide⟩ rfl rfl rfl (Nat.le_of_ble_eq_true rfl) ⟨rfl, rfl⟩ (Nat.le_of_ble_eq_true rfl) (fun _ k => t_X5_hasStreet (by omega) tw_18 e1 k) ?_
  rcases ab_i h with ⟨c4, h⟩ | ⟨c4, h⟩
  · refine rr_if_ne_p (t := 14) dX6_ride_8 (by decide) c4 ?_
    refine rr_ldc dX6_ride_11 cs_6_69 ?_
    obtain ⟨rfl, rfl⟩ := ab_r2 h
    exact rr_iret dX6_ride_13 rfl hQ
  · refine rr_if_ne_n (t := 14) dX6_ride_8 (by decide) c4 ?_
    refine rr_aload_n dX6_ride_14 rfl ?_
    refine rr_getr (t := 18) dX6_ride_15 fl_6_26 (sh_3 L) ⟨(by decide), by decide⟩ rfl rfl ?_
    refine rr_iload_n dX6_ride_18 rfl ?_
    obtain ⟨r6, σ7, e5, h⟩ := ab_2 h
    refine rr_Vi (as := [am_i p1]) (rest := []) dX6_ride_19 ml_6_132 (sh_18 L) ⟨(by decide), by decide, by decide⟩ rfl rfl rfl (Nat.le_of_ble_eq_true rfl) ⟨rfl, rfl⟩ (Nat.le_of_ble_eq_true rfl) (fun _ k => t_X5_leads (by omega) tw_18 e5 k) ?_
    rcases ab_i h with ⟨c8, h⟩ | ⟨c8, h⟩
    · refine rr_if_ne_p (t := 28) dX6_ride_22 (by decide) c8 ?_
      refine rr_ldc dX6_ride_25 cs_6_135 ?_
      obtain ⟨rfl, rfl⟩ := ab_r2 h
      exact rr_iret dX6_ride_27 rfl hQ
    · refine rr_if_ne_n (t := 28) dX6_ride_22 (by decide) c8 ?_
      refine rr_aload_n dX6_ride_28 rfl ?_
      refine rr_getr (t := 18) dX6_ride_29 fl_6_26 (sh_3 L) ⟨(by decide), by decide⟩ rfl rfl ?_
      refine rr_geti (kz := 12) dX6_ride_32 fl_6_136 (sh_18 L) ⟨(by decide), by decide⟩ rfl rfl ?_
      refine rr_sipush dX6_ride_35 (by decide) ?_
      rcases ab_i h with ⟨c9, h⟩ | ⟨c9, h⟩
      · refine rr_icmp_lt_p (t := 44) dX6_ride_38 (by decide) c9 ?_
        refine rr_aload_n dX6_ride_44 rfl ?_
        refine rr_getr (t := 43) dX6_ride_45 fl_6_40 (sh_3 L) ⟨(by decide), by decide⟩ rfl rfl ?_
        refine rr_iconst dX6_ride_48 (by decide) ?_
        refine rr_aload_n dX6_ride_49 rfl ?_
        refine rr_getr (t := 18) dX6_ride_50 fl_6_26 (sh_3 L) ⟨(by decide), by decide⟩ rfl rfl ?_
        refine rr_geti (kz := 9) dX6_ride_53 fl_6_139 (sh_18 L) ⟨(by decide), by decide⟩ rfl rfl ?_
        refine rr_aload_n dX6_ride_56 rfl ?_
        refine rr_getr (t := 18) dX6_ride_57 fl_6_26 (sh_3 L) ⟨(by decide), by decide⟩ rfl rfl ?_
        refine rr_geti (kz := 10) dX6_ride_60 fl_6_142 (sh_18 L) ⟨(by decide), by decide⟩ rfl rfl ?_
        refine rr_aload_n dX6_ride_63 rfl ?_
        refine rr_getr (t := 18) dX6_ride_64 fl_6_26 (sh_3 L) ⟨(by decide), by decide⟩ rfl rfl ?_
        refine rr_geti (kz := 11) dX6_ride_67 fl_6_145 (sh_18 L) ⟨(by decide), by decide⟩ rfl rfl ?_
        obtain ⟨σ12, e10, h⟩ := ab_1 h
        refine rr_Vv (as := [am_i 0, am_i (σ7 18 9), am_i (σ7 18 10), am_i (σ7 18 11)]) (rest := []) dX6_ride_70 ml_6_148 (sh_43 L) ⟨(by decide), by decide, by decide⟩ rfl rfl rfl (Nat.le_of_ble_eq_true rfl) ⟨rfl, rfl⟩ (Nat.le_of_ble_eq_true rfl) (fun _ k => t_X0_keep (by omega) e10 k) ?_
        refine rr_aload_n dX6_ride_73 rfl ?_
        refine rr_getr (t := 18) dX6_ride_74 fl_6_26 (sh_3 L) ⟨(by decide), by decide⟩ rfl rfl ?_
        refine rr_iload_n dX6_ride_77 rfl ?_
        obtain ⟨σ15, e13, h⟩ := ab_1 h
        refine rr_Vv (as := [am_i p1]) (rest := []) dX6_ride_78 ml_6_152 (sh_18 L) ⟨(by decide), by decide, by decide⟩ rfl rfl rfl (Nat.le_of_ble_eq_true rfl) ⟨rfl, rfl⟩ (Nat.le_of_ble_eq_true rfl) (fun _ k => t_X5_goBy (by omega) tw_18 e13 k) ?_
        refine rr_aload_n dX6_ride_81 rfl ?_
        refine rr_getr (t := 18) dX6_ride_82 fl_6_26 (sh_3 L) ⟨(by decide), by decide⟩ rfl rfl ?_
        refine rr_geti (kz := 10) dX6_ride_85 fl_6_142 (sh_18 L) ⟨(by decide), by decide⟩ rfl rfl ?_
        obtain ⟨rfl, rfl⟩ := ab_r2 h
        exact rr_iret dX6_ride_88 rfl hQ
      · refine rr_icmp_lt_n (t := 44) dX6_ride_38 (by decide) c9 ?_
        refine rr_ldc dX6_ride_41 cs_6_105 ?_
        obtain ⟨rfl, rfl⟩ := ab_r2 h
        exact rr_iret dX6_ride_43 rfl hQ
def nw_X6_ride (a : Nat) : Prop := a ≠ 18 ∧ a ≠ 43 ∧ (a < 45 ∨ 69 ≤ a)
theorem w_X6_ride {n : Nat} {p1 : Int} {σ σr : am_Mem} {rr : Int} (h : f_X6_ride n p1 σ = some (rr, σr)) : ∀ a : Nat, nw_X6_ride a → σr a = σ a := by
  unfold f_X6_ride at h
  have fr : ∀ a : Nat, nw_X6_ride a → σ a = σ a := fun _ _ => rfl
  obtain ⟨r2, σ3, e1, h⟩ := ab_2 h
  have fr := fun (a : Nat) (ha : nw_X6_ride a) => (congrFun (u_X5_hasStreet e1) a).trans (fr a ha)
  rcases ab_i h with ⟨c4, h⟩ | ⟨c4, h⟩
  · obtain ⟨q1, q2⟩ := ab_r2 h
    exact fun a ha => (congrFun q2.symm a).trans (fr a ha)
  · obtain ⟨r6, σ7, e5, h⟩ := ab_2 h
    have fr := fun (a : Nat) (ha : nw_X6_ride a) => (congrFun (u_X5_leads e5) a).trans (fr a ha)
    rcases ab_i h with ⟨c8, h⟩ | ⟨c8, h⟩
    · obtain ⟨q1, q2⟩ := ab_r2 h
      exact fun a ha => (congrFun q2.symm a).trans (fr a ha)
    · rcases ab_i h with ⟨c9, h⟩ | ⟨c9, h⟩
      · obtain ⟨σ12, e10, h⟩ := ab_1 h
        have fr := fun (a : Nat) (ha : nw_X6_ride a) => (w_X0_keep e10 a (by unfold nw_X6_ride at ha; unfold nw_X0_keep; omega)).trans (fr a ha)
        obtain ⟨σ15, e13, h⟩ := ab_1 h
        have fr := fun (a : Nat) (ha : nw_X6_ride a) => (w_X5_goBy e13 a (by unfold nw_X6_ride at ha; unfold nw_X5_goBy; omega)).trans (fr a ha)
        obtain ⟨q1, q2⟩ := ab_r2 h
        exact fun a ha => (congrFun q2.symm a).trans (fr a ha)
      · obtain ⟨q1, q2⟩ := ab_r2 h
        exact fun a ha => (congrFun q2.symm a).trans (fr a ha)
/-! MoodFare.lesson -/
def f_X6_lesson (n : Nat) (p1 : Int) (p2 : Int) (σ : am_Mem) : Option (Int × am_Mem) :=
  am_b2 (f_X5_hasCorner n 18 p1 σ) fun r2 σ3 => if r2 = 0 then (some ((-1000001), σ3)) else (if p2 < 0 then (some ((-1000001), σ3)) else (if p2 ≤ 9 then (if (0 : Int) ≤ p1 ∧ p1 < 6 then am_b1 (f_X0_keep n 1 p1 (σ3 20 p1) 0 σ3) fun σ10 => am_b1 (some (am_up σ10 20 p1 p2)) fun σ11 => some (σ3 20 p1, σ11) else none) else (some ((-1000001), σ3))))
theorem t_X6_lesson {L n d : Nat} {Q : am_Post} {p1 : Int} {p2 : Int} {σ σr : am_Mem} {rr : Int} (hd : 1 < d) (h : f_X6_lesson n p1 p2 σ = some (rr, σr)) (hQ : Q (some (am_i rr)) (rm_h L σr)) : xs_aw d me_X6_lesson [am_r 3, am_i p1, am_i p2] (rm_h L σ) Q := by
  obtain ⟨d, rfl⟩ : ∃ k, d = k + 1 := ⟨d - 1, by omega⟩
  have hd : 1 ≤ d := by omega
  unfold f_X6_lesson at h
  show xs_AW (xs_aw d) me_X6_lesson Q 0 [some (am_r 3), some (am_i p1), some (am_i p2), none] [] (rm_h L σ)
  refine rr_aload_n dX6_lesson_0 rfl ?_
  refine rr_getr (t := 18) dX6_lesson_1 fl_6_26 (sh_3 L) ⟨(by decide), by decide⟩ rfl rfl ?_
  refine rr_iload_n dX6_lesson_4 rfl ?_
  obtain ⟨r2, σ3, e1, h⟩ := ab_2 h
  refine rr_Vi (as := [am_i p1]) (rest := []) dX6_lesson_5 ml_6_156 (sh_18 L) ⟨(by decide), by decide, by decide⟩ rfl rfl rfl (Nat.le_of_ble_eq_true rfl) ⟨rfl, rfl⟩ (Nat.le_of_ble_eq_true rfl) (fun _ k => t_X5_hasCorner (by omega) tw_18 e1 k) ?_
  rcases ab_i h with ⟨c4, h⟩ | ⟨c4, h⟩
  · refine rr_if_eq_p (t := 21) dX6_lesson_8 (by decide) c4 ?_
    refine rr_ldc dX6_lesson_21 cs_6_69 ?_
    obtain ⟨rfl, rfl⟩ := ab_r2 h
    exact rr_iret dX6_lesson_23 rfl hQ
  · refine rr_if_eq_n (t := 21) dX6_lesson_8 (by decide) c4 ?_
    refine rr_iload_n dX6_lesson_11 rfl ?_
    rcases ab_i h with ⟨c5, h⟩ | ⟨c5, h⟩
    · refine rr_if_lt_p (t := 21) dX6_lesson_12 (by decide) c5 ?_
      refine rr_ldc dX6_lesson_21 cs_6_69 ?_
      obtain ⟨rfl, rfl⟩ := ab_r2 h
      exact rr_iret dX6_lesson_23 rfl hQ
    · refine rr_if_lt_n (t := 21) dX6_lesson_12 (by decide) c5 ?_
      refine rr_iload_n dX6_lesson_15 rfl ?_
      refine rr_bipush dX6_lesson_16 (by decide) ?_
      rcases ab_i h with ⟨c6, h⟩ | ⟨c6, h⟩
      · refine rr_icmp_le_p (t := 24) dX6_lesson_18 (by decide) c6 ?_
        refine rr_aload_n dX6_lesson_24 rfl ?_
        refine rr_getr (t := 18) dX6_lesson_25 fl_6_26 (sh_3 L) ⟨(by decide), by decide⟩ rfl rfl ?_
        refine rr_getr (t := 20) dX6_lesson_28 fl_6_159 (sh_18 L) ⟨(by decide), by decide⟩ rfl rfl ?_
        refine rr_iload_n dX6_lesson_31 rfl ?_
        obtain ⟨g7, h⟩ := ab_g h
        refine rr_iald (nz := 6) dX6_lesson_32 (sh_20 L) rfl g7 ?_
        refine rr_istore_n (ls' := [some (am_r 3), some (am_i p1), some (am_i p2), some (am_i (σ3 20 p1))]) dX6_lesson_33 (Nat.le_of_ble_eq_true rfl) rfl ?_
        refine rr_aload_n dX6_lesson_34 rfl ?_
        refine rr_getr (t := 43) dX6_lesson_35 fl_6_40 (sh_3 L) ⟨(by decide), by decide⟩ rfl rfl ?_
        refine rr_iconst dX6_lesson_38 (by decide) ?_
        refine rr_iload_n dX6_lesson_39 rfl ?_
        refine rr_iload_n dX6_lesson_40 rfl ?_
        refine rr_iconst dX6_lesson_41 (by decide) ?_
        obtain ⟨σ10, e8, h⟩ := ab_1 h
        refine rr_Vv (as := [am_i 1, am_i p1, am_i (σ3 20 p1), am_i 0]) (rest := []) dX6_lesson_42 ml_6_148 (sh_43 L) ⟨(by decide), by decide, by decide⟩ rfl rfl rfl (Nat.le_of_ble_eq_true rfl) ⟨rfl, rfl⟩ (Nat.le_of_ble_eq_true rfl) (fun _ k => t_X0_keep (by omega) e8 k) ?_
        refine rr_aload_n dX6_lesson_45 rfl ?_
        refine rr_getr (t := 18) dX6_lesson_46 fl_6_26 (sh_3 L) ⟨(by decide), by decide⟩ rfl rfl ?_
        refine rr_getr (t := 20) dX6_lesson_49 fl_6_159 (sh_18 L) ⟨(by decide), by decide⟩ rfl rfl ?_
        refine rr_iload_n dX6_lesson_52 rfl ?_
        refine rr_iload_n dX6_lesson_53 rfl ?_
        refine rr_iast (nz := 6) dX6_lesson_54 (sh_20 L) (by decide) rfl g7 ?_
        obtain ⟨σ11, e12, h⟩ := ab_1 h
        refine ab_m e12 ?_
        refine rr_iload_n dX6_lesson_55 rfl ?_
        obtain ⟨rfl, rfl⟩ := ab_r2 h
        exact rr_iret dX6_lesson_56 rfl hQ
      · refine rr_icmp_le_n (t := 24) dX6_lesson_18 (by decide) c6 ?_
        refine rr_ldc dX6_lesson_21 cs_6_69 ?_
        obtain ⟨rfl, rfl⟩ := ab_r2 h
        exact rr_iret dX6_lesson_23 rfl hQ
def nw_X6_lesson (a : Nat) : Prop := a ≠ 20 ∧ a ≠ 43 ∧ (a < 45 ∨ 69 ≤ a)
theorem w_X6_lesson {n : Nat} {p1 : Int} {p2 : Int} {σ σr : am_Mem} {rr : Int} (h : f_X6_lesson n p1 p2 σ = some (rr, σr)) : ∀ a : Nat, nw_X6_lesson a → σr a = σ a := by
  unfold f_X6_lesson at h
  have fr : ∀ a : Nat, nw_X6_lesson a → σ a = σ a := fun _ _ => rfl
  obtain ⟨r2, σ3, e1, h⟩ := ab_2 h
  have fr := fun (a : Nat) (ha : nw_X6_lesson a) => (congrFun (u_X5_hasCorner e1) a).trans (fr a ha)
  rcases ab_i h with ⟨c4, h⟩ | ⟨c4, h⟩
  · obtain ⟨q1, q2⟩ := ab_r2 h
    exact fun a ha => (congrFun q2.symm a).trans (fr a ha)
  · rcases ab_i h with ⟨c5, h⟩ | ⟨c5, h⟩
    · obtain ⟨q1, q2⟩ := ab_r2 h
      exact fun a ha => (congrFun q2.symm a).trans (fr a ha)
    · rcases ab_i h with ⟨c6, h⟩ | ⟨c6, h⟩
      · obtain ⟨g7, h⟩ := ab_g h
        obtain ⟨σ10, e8, h⟩ := ab_1 h
        have fr := fun (a : Nat) (ha : nw_X6_lesson a) => (w_X0_keep e8 a (by unfold nw_X6_lesson at ha; unfold nw_X0_keep; omega)).trans (fr a ha)
        obtain ⟨σ11, e12, h⟩ := ab_1 h
        have fr := fun (a : Nat) (ha : nw_X6_lesson a) => (ab_fu e12 (show a ≠ 20 by unfold nw_X6_lesson at ha; omega)).trans (fr a ha)
        obtain ⟨q1, q2⟩ := ab_r2 h
        exact fun a ha => (congrFun q2.symm a).trans (fr a ha)
      · obtain ⟨q1, q2⟩ := ab_r2 h
        exact fun a ha => (congrFun q2.symm a).trans (fr a ha)
/-! MoodFare.reset -/
def f_X6_reset (n : Nat) (σ : am_Mem) : Option (Int × am_Mem) :=
  am_b2 (f_X5_stands n 18 σ) fun r2 σ3 => if r2 = 0 then (some ((-1000002), σ3)) else (am_b1 (f_X0_keep n 2 (σ3 18 11) 0 0 σ3) fun σ7 => am_b1 (some (am_up σ7 18 11 0)) fun σ8 => some (σ3 18 11, σ8))
theorem t_X6_reset {L n d : Nat} {Q : am_Post} {σ σr : am_Mem} {rr : Int} (hd : 1 < d) (h : f_X6_reset n σ = some (rr, σr)) (hQ : Q (some (am_i rr)) (rm_h L σr)) : xs_aw d me_X6_reset [am_r 3] (rm_h L σ) Q := by
  obtain ⟨d, rfl⟩ : ∃ k, d = k + 1 := ⟨d - 1, by omega⟩
  have hd : 1 ≤ d := by omega
  unfold f_X6_reset at h
  show xs_AW (xs_aw d) me_X6_reset Q 0 [some (am_r 3), none] [] (rm_h L σ)
  refine rr_aload_n dX6_reset_0 rfl ?_
  refine rr_getr (t := 18) dX6_reset_1 fl_6_26 (sh_3 L) ⟨(by decide), by decide⟩ rfl rfl ?_
  obtain ⟨r2, σ3, e1, h⟩ := ab_2 h
  refine rr_Vi (as := []) (rest := []) dX6_reset_4 ml_6_163 (sh_18 L) ⟨(by decide), by decide, by decide⟩ rfl rfl rfl (Nat.le_of_ble_eq_true rfl) ⟨rfl, rfl⟩ (Nat.le_of_ble_eq_true rfl) (fun _ k => t_X5_stands (by omega) tw_18 e1 k) ?_
  rcases ab_i h with ⟨c4, h⟩ | ⟨c4, h⟩
  · refine rr_if_ne_p (t := 13) dX6_reset_7 (by decide) c4 ?_
    refine rr_ldc dX6_reset_10 cs_6_135 ?_
    obtain ⟨rfl, rfl⟩ := ab_r2 h
    exact rr_iret dX6_reset_12 rfl hQ
  · refine rr_if_ne_n (t := 13) dX6_reset_7 (by decide) c4 ?_
    refine rr_aload_n dX6_reset_13 rfl ?_
    refine rr_getr (t := 18) dX6_reset_14 fl_6_26 (sh_3 L) ⟨(by decide), by decide⟩ rfl rfl ?_
    refine rr_geti (kz := 11) dX6_reset_17 fl_6_145 (sh_18 L) ⟨(by decide), by decide⟩ rfl rfl ?_
    refine rr_istore_n (ls' := [some (am_r 3), some (am_i (σ3 18 11))]) dX6_reset_20 (Nat.le_of_ble_eq_true rfl) rfl ?_
    refine rr_aload_n dX6_reset_21 rfl ?_
    refine rr_getr (t := 43) dX6_reset_22 fl_6_40 (sh_3 L) ⟨(by decide), by decide⟩ rfl rfl ?_
    refine rr_iconst dX6_reset_25 (by decide) ?_
    refine rr_iload_n dX6_reset_26 rfl ?_
    refine rr_iconst dX6_reset_27 (by decide) ?_
    refine rr_iconst dX6_reset_28 (by decide) ?_
    obtain ⟨σ7, e5, h⟩ := ab_1 h
    refine rr_Vv (as := [am_i 2, am_i (σ3 18 11), am_i 0, am_i 0]) (rest := []) dX6_reset_29 ml_6_148 (sh_43 L) ⟨(by decide), by decide, by decide⟩ rfl rfl rfl (Nat.le_of_ble_eq_true rfl) ⟨rfl, rfl⟩ (Nat.le_of_ble_eq_true rfl) (fun _ k => t_X0_keep (by omega) e5 k) ?_
    refine rr_aload_n dX6_reset_32 rfl ?_
    refine rr_getr (t := 18) dX6_reset_33 fl_6_26 (sh_3 L) ⟨(by decide), by decide⟩ rfl rfl ?_
    refine rr_iconst dX6_reset_36 (by decide) ?_
    obtain ⟨σ8, e9, h⟩ := ab_1 h
    refine rr_puti (kz := 11) dX6_reset_37 fl_6_145 (sh_18 L) ⟨(by decide), by decide⟩ ⟨rfl, rfl⟩ rfl (ab_m e9 ?_)
    refine rr_iload_n dX6_reset_40 rfl ?_
    obtain ⟨rfl, rfl⟩ := ab_r2 h
    exact rr_iret dX6_reset_41 rfl hQ
def nw_X6_reset (a : Nat) : Prop := a ≠ 18 ∧ a ≠ 43 ∧ (a < 45 ∨ 69 ≤ a)
theorem w_X6_reset {n : Nat} {σ σr : am_Mem} {rr : Int} (h : f_X6_reset n σ = some (rr, σr)) : ∀ a : Nat, nw_X6_reset a → σr a = σ a := by
  unfold f_X6_reset at h
  have fr : ∀ a : Nat, nw_X6_reset a → σ a = σ a := fun _ _ => rfl
  obtain ⟨r2, σ3, e1, h⟩ := ab_2 h
  have fr := fun (a : Nat) (ha : nw_X6_reset a) => (congrFun (u_X5_stands e1) a).trans (fr a ha)
  rcases ab_i h with ⟨c4, h⟩ | ⟨c4, h⟩
  · obtain ⟨q1, q2⟩ := ab_r2 h
    exact fun a ha => (congrFun q2.symm a).trans (fr a ha)
  · obtain ⟨σ7, e5, h⟩ := ab_1 h
    have fr := fun (a : Nat) (ha : nw_X6_reset a) => (w_X0_keep e5 a (by unfold nw_X6_reset at ha; unfold nw_X0_keep; omega)).trans (fr a ha)
    obtain ⟨σ8, e9, h⟩ := ab_1 h
    have fr := fun (a : Nat) (ha : nw_X6_reset a) => (ab_fu e9 (show a ≠ 18 by unfold nw_X6_reset at ha; omega)).trans (fr a ha)
    obtain ⟨q1, q2⟩ := ab_r2 h
    exact fun a ha => (congrFun q2.symm a).trans (fr a ha)
/-! MoodFare.street -/
def fb_X6_street_41 (n : Nat) (x1 : Int) (s0 : Int) (s1 : Int) (σ : am_Mem) : Option (Int × am_Mem) :=
  if s1 = s0 then (some ((-1000002), σ)) else (am_b1 (f_X0_keep n 3 x1 0 0 σ) fun σ14 => am_b1 (f_X5_turn n 18 x1 σ14) fun σ17 => some (σ17 18 8, σ17))
def f_X6_street (n : Nat) (p1 : Int) (p2 : Int) (σ : am_Mem) : Option (Int × am_Mem) :=
  am_b2 (f_X5_hasStreet n 18 p1 σ) fun r2 σ3 => if r2 = 0 then (some ((-1000001), σ3)) else (if p2 < 0 then (some ((-1000001), σ3)) else (if p2 ≤ 1 then (am_b2 (f_X5_isOpen n 18 p1 σ3) fun r8 σ9 => if p2 = 1 then (fb_X6_street_41 n p1 1 r8 σ9) else (fb_X6_street_41 n p1 0 r8 σ9)) else (some ((-1000001), σ3))))
theorem tb_X6_street_41 {L n d : Nat} {Q : am_Post} {x1 : Int} {s0 : Int} {s1 : Int} {o2 : Int} {σ σr : am_Mem} {rr : Int} (hd : 1 ≤ d) (hQ : Q (some (am_i rr)) (rm_h L σr)) (h : fb_X6_street_41 n x1 s0 s1 σ = some (rr, σr)) : xs_AW (xs_aw d) me_X6_street Q 41 [some (am_r 3), some (am_i x1), some (am_i o2)] [am_i s0, am_i s1] (rm_h L σ) := by
  unfold fb_X6_street_41 at h
  rcases ab_i h with ⟨c11, h⟩ | ⟨c11, h⟩
  · refine rr_icmp_ne_p (t := 47) dX6_street_41 (by decide) c11 ?_
    refine rr_ldc dX6_street_44 cs_6_135 ?_
    obtain ⟨rfl, rfl⟩ := ab_r2 h
    exact rr_iret dX6_street_46 rfl hQ
  · refine rr_icmp_ne_n (t := 47) dX6_street_41 (by decide) c11 ?_
    refine rr_aload_n dX6_street_47 rfl ?_
    refine rr_getr (t := 43) dX6_street_48 fl_6_40 (sh_3 L) ⟨(by decide), by decide⟩ rfl rfl ?_
    refine rr_iconst dX6_street_51 (by decide) ?_
    refine rr_iload_n dX6_street_52 rfl ?_
    refine rr_iconst dX6_street_53 (by decide) ?_
    refine rr_iconst dX6_street_54 (by decide) ?_
    obtain ⟨σ14, e12, h⟩ := ab_1 h
    refine rr_Vv (as := [am_i 3, am_i x1, am_i 0, am_i 0]) (rest := []) dX6_street_55 ml_6_148 (sh_43 L) ⟨(by decide), by decide, by decide⟩ rfl rfl rfl (Nat.le_of_ble_eq_true rfl) ⟨rfl, rfl⟩ (Nat.le_of_ble_eq_true rfl) (fun _ k => t_X0_keep (by omega) e12 k) ?_
    refine rr_aload_n dX6_street_58 rfl ?_
    refine rr_getr (t := 18) dX6_street_59 fl_6_26 (sh_3 L) ⟨(by decide), by decide⟩ rfl rfl ?_
    refine rr_iload_n dX6_street_62 rfl ?_
    obtain ⟨σ17, e15, h⟩ := ab_1 h
    refine rr_Vv (as := [am_i x1]) (rest := []) dX6_street_63 ml_6_170 (sh_18 L) ⟨(by decide), by decide, by decide⟩ rfl rfl rfl (Nat.le_of_ble_eq_true rfl) ⟨rfl, rfl⟩ (Nat.le_of_ble_eq_true rfl) (fun _ k => t_X5_turn (by omega) tw_18 e15 k) ?_
    refine rr_aload_n dX6_street_66 rfl ?_
    refine rr_getr (t := 18) dX6_street_67 fl_6_26 (sh_3 L) ⟨(by decide), by decide⟩ rfl rfl ?_
    refine rr_geti (kz := 8) dX6_street_70 fl_6_173 (sh_18 L) ⟨(by decide), by decide⟩ rfl rfl ?_
    obtain ⟨rfl, rfl⟩ := ab_r2 h
    exact rr_iret dX6_street_73 rfl hQ
theorem t_X6_street {L n d : Nat} {Q : am_Post} {p1 : Int} {p2 : Int} {σ σr : am_Mem} {rr : Int} (hd : 1 < d) (h : f_X6_street n p1 p2 σ = some (rr, σr)) (hQ : Q (some (am_i rr)) (rm_h L σr)) : xs_aw d me_X6_street [am_r 3, am_i p1, am_i p2] (rm_h L σ) Q := by
  obtain ⟨d, rfl⟩ : ∃ k, d = k + 1 := ⟨d - 1, by omega⟩
  have hd : 1 ≤ d := by omega
  unfold f_X6_street at h
  show xs_AW (xs_aw d) me_X6_street Q 0 [some (am_r 3), some (am_i p1), some (am_i p2)] [] (rm_h L σ)
  refine rr_aload_n dX6_street_0 rfl ?_
  refine rr_getr (t := 18) dX6_street_1 fl_6_26 (sh_3 L) ⟨(by decide), by decide⟩ rfl rfl ?_
  refine rr_iload_n dX6_street_4 rfl ?_
  obtain ⟨r2, σ3, e1, h⟩ := ab_2 h
  refine rr_Vi (as := [am_i p1]) (rest := []) dX6_street_5 ml_6_129 (sh_18 L) ⟨(by decide), by decide, by decide⟩ rfl rfl rfl (Nat.le_of_ble_eq_true rfl) ⟨rfl, rfl⟩ (Nat.le_of_ble_eq_true rfl) (fun _ k => t_X5_hasStreet (by omega) tw_18 e1 k) ?_
  rcases ab_i h with ⟨c4, h⟩ | ⟨c4, h⟩
  · refine rr_if_eq_p (t := 20) dX6_street_8 (by decide) c4 ?_
    refine rr_ldc dX6_street_20 cs_6_69 ?_
    obtain ⟨rfl, rfl⟩ := ab_r2 h
    exact rr_iret dX6_street_22 rfl hQ
  · refine rr_if_eq_n (t := 20) dX6_street_8 (by decide) c4 ?_
    refine rr_iload_n dX6_street_11 rfl ?_
    rcases ab_i h with ⟨c5, h⟩ | ⟨c5, h⟩
    · refine rr_if_lt_p (t := 20) dX6_street_12 (by decide) c5 ?_
      refine rr_ldc dX6_street_20 cs_6_69 ?_
      obtain ⟨rfl, rfl⟩ := ab_r2 h
      exact rr_iret dX6_street_22 rfl hQ
    · refine rr_if_lt_n (t := 20) dX6_street_12 (by decide) c5 ?_
      refine rr_iload_n dX6_street_15 rfl ?_
      refine rr_iconst dX6_street_16 (by decide) ?_
      rcases ab_i h with ⟨c6, h⟩ | ⟨c6, h⟩
      · refine rr_icmp_le_p (t := 23) dX6_street_17 (by decide) c6 ?_
        refine rr_aload_n dX6_street_23 rfl ?_
        refine rr_getr (t := 18) dX6_street_24 fl_6_26 (sh_3 L) ⟨(by decide), by decide⟩ rfl rfl ?_
        refine rr_iload_n dX6_street_27 rfl ?_
        obtain ⟨r8, σ9, e7, h⟩ := ab_2 h
        refine rr_Vi (as := [am_i p1]) (rest := []) dX6_street_28 ml_6_167 (sh_18 L) ⟨(by decide), by decide, by decide⟩ rfl rfl rfl (Nat.le_of_ble_eq_true rfl) ⟨rfl, rfl⟩ (Nat.le_of_ble_eq_true rfl) (fun _ k => t_X5_isOpen (by omega) tw_18 e7 k) ?_
        refine rr_iload_n dX6_street_31 rfl ?_
        refine rr_iconst dX6_street_32 (by decide) ?_
        rcases ab_i h with ⟨c10, h⟩ | ⟨c10, h⟩
        · refine rr_icmp_ne_p (t := 40) dX6_street_33 (by decide) c10 ?_
          refine rr_iconst dX6_street_36 (by decide) ?_
          refine rr_goto (t := 41) dX6_street_37 (by decide) ?_
          exact tb_X6_street_41 hd hQ h
        · refine rr_icmp_ne_n (t := 40) dX6_street_33 (by decide) c10 ?_
          refine rr_iconst dX6_street_40 (by decide) ?_
          exact tb_X6_street_41 hd hQ h
      · refine rr_icmp_le_n (t := 23) dX6_street_17 (by decide) c6 ?_
        refine rr_ldc dX6_street_20 cs_6_69 ?_
        obtain ⟨rfl, rfl⟩ := ab_r2 h
        exact rr_iret dX6_street_22 rfl hQ
def nw_X6_street (a : Nat) : Prop := a ≠ 18 ∧ a ≠ 43 ∧ (a < 45 ∨ 69 ≤ a)
theorem wb_X6_street_41 {n : Nat} {x1 : Int} {s0 : Int} {s1 : Int} {σ σr : am_Mem} {rr : Int} (h : fb_X6_street_41 n x1 s0 s1 σ = some (rr, σr)) : ∀ a : Nat, nw_X6_street a → σr a = σ a := by
  unfold fb_X6_street_41 at h
  have fr : ∀ a : Nat, nw_X6_street a → σ a = σ a := fun _ _ => rfl
  rcases ab_i h with ⟨c11, h⟩ | ⟨c11, h⟩
  · obtain ⟨q1, q2⟩ := ab_r2 h
    exact fun a ha => (congrFun q2.symm a).trans (fr a ha)
  · obtain ⟨σ14, e12, h⟩ := ab_1 h
    have fr := fun (a : Nat) (ha : nw_X6_street a) => (w_X0_keep e12 a (by unfold nw_X6_street at ha; unfold nw_X0_keep; omega)).trans (fr a ha)
    obtain ⟨σ17, e15, h⟩ := ab_1 h
    have fr := fun (a : Nat) (ha : nw_X6_street a) => (w_X5_turn e15 a (by unfold nw_X6_street at ha; unfold nw_X5_turn; omega)).trans (fr a ha)
    obtain ⟨q1, q2⟩ := ab_r2 h
    exact fun a ha => (congrFun q2.symm a).trans (fr a ha)
theorem w_X6_street {n : Nat} {p1 : Int} {p2 : Int} {σ σr : am_Mem} {rr : Int} (h : f_X6_street n p1 p2 σ = some (rr, σr)) : ∀ a : Nat, nw_X6_street a → σr a = σ a := by
  unfold f_X6_street at h
  have fr : ∀ a : Nat, nw_X6_street a → σ a = σ a := fun _ _ => rfl
  obtain ⟨r2, σ3, e1, h⟩ := ab_2 h
  have fr := fun (a : Nat) (ha : nw_X6_street a) => (congrFun (u_X5_hasStreet e1) a).trans (fr a ha)
  rcases ab_i h with ⟨c4, h⟩ | ⟨c4, h⟩
  · obtain ⟨q1, q2⟩ := ab_r2 h
    exact fun a ha => (congrFun q2.symm a).trans (fr a ha)
  · rcases ab_i h with ⟨c5, h⟩ | ⟨c5, h⟩
    · obtain ⟨q1, q2⟩ := ab_r2 h
      exact fun a ha => (congrFun q2.symm a).trans (fr a ha)
    · rcases ab_i h with ⟨c6, h⟩ | ⟨c6, h⟩
      · obtain ⟨r8, σ9, e7, h⟩ := ab_2 h
        have fr := fun (a : Nat) (ha : nw_X6_street a) => (congrFun (u_X5_isOpen e7) a).trans (fr a ha)
        rcases ab_i h with ⟨c10, h⟩ | ⟨c10, h⟩
        · exact fun a ha => (wb_X6_street_41 h a ha).trans (fr a ha)
        · exact fun a ha => (wb_X6_street_41 h a ha).trans (fr a ha)
      · obtain ⟨q1, q2⟩ := ab_r2 h
        exact fun a ha => (congrFun q2.symm a).trans (fr a ha)
/-! MoodFare.undo -/
def f_X6_undo (n : Nat) (σ : am_Mem) : Option (Int × am_Mem) :=
  if σ 43 2 = 0 then (some ((-1000002), σ)) else (am_b1 (f_X0_takeBack n 18 σ) fun σ4 => some (σ4 43 2, σ4))
theorem t_X6_undo {L n d : Nat} {Q : am_Post} {σ σr : am_Mem} {rr : Int} (hd : 2 < d) (h : f_X6_undo n σ = some (rr, σr)) (hQ : Q (some (am_i rr)) (rm_h L σr)) : xs_aw d me_X6_undo [am_r 3] (rm_h L σ) Q := by
  obtain ⟨d, rfl⟩ : ∃ k, d = k + 1 := ⟨d - 1, by omega⟩
  have hd : 2 ≤ d := by omega
  unfold f_X6_undo at h
  show xs_AW (xs_aw d) me_X6_undo Q 0 [some (am_r 3)] [] (rm_h L σ)
  refine rr_aload_n dX6_undo_0 rfl ?_
  refine rr_getr (t := 43) dX6_undo_1 fl_6_40 (sh_3 L) ⟨(by decide), by decide⟩ rfl rfl ?_
  refine rr_geti (kz := 2) dX6_undo_4 fl_6_176 (sh_43 L) ⟨(by decide), by decide⟩ rfl rfl ?_
  rcases ab_i h with ⟨c1, h⟩ | ⟨c1, h⟩
  · refine rr_if_ne_p (t := 13) dX6_undo_7 (by decide) c1 ?_
    refine rr_ldc dX6_undo_10 cs_6_135 ?_
    obtain ⟨rfl, rfl⟩ := ab_r2 h
    exact rr_iret dX6_undo_12 rfl hQ
  · refine rr_if_ne_n (t := 13) dX6_undo_7 (by decide) c1 ?_
    refine rr_aload_n dX6_undo_13 rfl ?_
    refine rr_getr (t := 43) dX6_undo_14 fl_6_40 (sh_3 L) ⟨(by decide), by decide⟩ rfl rfl ?_
    refine rr_aload_n dX6_undo_17 rfl ?_
    refine rr_getr (t := 18) dX6_undo_18 fl_6_26 (sh_3 L) ⟨(by decide), by decide⟩ rfl rfl ?_
    obtain ⟨σ4, e2, h⟩ := ab_1 h
    refine rr_Vv (as := [am_r 18]) (rest := []) dX6_undo_21 ml_6_179 (sh_43 L) ⟨(by decide), by decide, by decide⟩ rfl rfl rfl (Nat.le_of_ble_eq_true rfl) ⟨rfl, rfl⟩ (Nat.le_of_ble_eq_true rfl) (fun _ k => t_X0_takeBack (by omega) tw_18 e2 k) ?_
    refine rr_aload_n dX6_undo_24 rfl ?_
    refine rr_getr (t := 43) dX6_undo_25 fl_6_40 (sh_3 L) ⟨(by decide), by decide⟩ rfl rfl ?_
    refine rr_geti (kz := 2) dX6_undo_28 fl_6_176 (sh_43 L) ⟨(by decide), by decide⟩ rfl rfl ?_
    obtain ⟨rfl, rfl⟩ := ab_r2 h
    exact rr_iret dX6_undo_31 rfl hQ
def nw_X6_undo (a : Nat) : Prop := a ≠ 18 ∧ a ≠ 20 ∧ a ≠ 43
theorem w_X6_undo {n : Nat} {σ σr : am_Mem} {rr : Int} (h : f_X6_undo n σ = some (rr, σr)) : ∀ a : Nat, nw_X6_undo a → σr a = σ a := by
  unfold f_X6_undo at h
  have fr : ∀ a : Nat, nw_X6_undo a → σ a = σ a := fun _ _ => rfl
  rcases ab_i h with ⟨c1, h⟩ | ⟨c1, h⟩
  · obtain ⟨q1, q2⟩ := ab_r2 h
    exact fun a ha => (congrFun q2.symm a).trans (fr a ha)
  · obtain ⟨σ4, e2, h⟩ := ab_1 h
    have fr := fun (a : Nat) (ha : nw_X6_undo a) => (w_X0_takeBack e2 a (by unfold nw_X6_undo at ha; unfold nw_X0_takeBack; omega)).trans (fr a ha)
    obtain ⟨q1, q2⟩ := ab_r2 h
    exact fun a ha => (congrFun q2.symm a).trans (fr a ha)
/-! MoodFare.streetsAt -/
def fb_X6_streetsAt_5 (n : Nat) (p2 : Nat) (p2_n : Nat) (kh5 : Int → Int → Int → am_Mem → Option (Int × am_Mem)) (x1 : Int) (x3 : Int) (x4 : Int) (σ : am_Mem) : Option (Int × am_Mem) :=
  if x4 < σ 18 6 then (if (0 : Int) ≤ x4 ∧ x4 < (p2_n : Int) then if σ p2 x4 = x1 then (kh5 x1 (am_or x3 (am_shl 1 x4)) (am_w (x4 + 1)) σ) else (kh5 x1 x3 (am_w (x4 + 1)) σ) else none) else (some (x3, σ))
def fl_X6_streetsAt_5 (n : Nat) (p2 : Nat) (p2_n : Nat) : Nat → Int → Int → Int → am_Mem → Option (Int × am_Mem)
  | 0, _, _, _, _ => none
  | m + 1, x1, x3, x4, σ => fb_X6_streetsAt_5 n p2 p2_n (fun yx1 yx3 yx4 σ => fl_X6_streetsAt_5 n p2 p2_n m yx1 yx3 yx4 σ) x1 x3 x4 σ
def f_X6_streetsAt (n : Nat) (p2 : Nat) (p2_n : Nat) (p1 : Int) (σ : am_Mem) : Option (Int × am_Mem) :=
  fl_X6_streetsAt_5 n p2 p2_n n p1 0 0 σ
theorem tb_X6_streetsAt_5 {L n d : Nat} {Q : am_Post} {p2 : Nat} {p2_n : Nat} {kh5 : Int → Int → Int → am_Mem → Option (Int × am_Mem)} {x1 : Int} {x3 : Int} {x4 : Int} {σ σr : am_Mem} {rr : Int} (hd : 0 ≤ d) (hs_p2 : (xr_Sh L)[p2]? = some (100, p2_n, [])) (h3_p2 : 3 ≤ p2) (hk5 : ∀ (y1 : Int) (y3 : Int) (y4 : Int) (σ : am_Mem), kh5 y1 y3 y4 σ = some (rr, σr) → xs_AW (xs_aw d) me_X6_streetsAt Q 5 [some (am_r 3), some (am_i y1), some (am_r p2), some (am_i y3), some (am_i y4)] [] (rm_h L σ)) (hQ : Q (some (am_i rr)) (rm_h L σr)) (h : fb_X6_streetsAt_5 n p2 p2_n kh5 x1 x3 x4 σ = some (rr, σr)) : xs_AW (xs_aw d) me_X6_streetsAt Q 5 [some (am_r 3), some (am_i x1), some (am_r p2), some (am_i x3), some (am_i x4)] [] (rm_h L σ) := by
  unfold fb_X6_streetsAt_5 at h
  refine rr_iload dX6_streetsAt_5 rfl ?_
  refine rr_aload_n dX6_streetsAt_7 rfl ?_
  refine rr_getr (t := 18) dX6_streetsAt_8 fl_6_26 (sh_3 L) ⟨(by decide), by decide⟩ rfl rfl ?_
  refine rr_geti (kz := 6) dX6_streetsAt_11 fl_6_126 (sh_18 L) ⟨(by decide), by decide⟩ rfl rfl ?_
  rcases ab_i h with ⟨c1, h⟩ | ⟨c1, h⟩
  · refine rr_icmp_ge_p (t := 38) dX6_streetsAt_14 (by decide) c1 ?_
    refine rr_aload_n dX6_streetsAt_17 rfl ?_
    refine rr_iload dX6_streetsAt_18 rfl ?_
    obtain ⟨g2, h⟩ := ab_g h
    refine rr_iald (nz := (p2_n : Int)) dX6_streetsAt_20 hs_p2 rfl g2 ?_
    refine rr_iload_n dX6_streetsAt_21 rfl ?_
    rcases ab_i h with ⟨c3, h⟩ | ⟨c3, h⟩
    · refine rr_icmp_ne_p (t := 32) dX6_streetsAt_22 (by decide) c3 ?_
      refine rr_iload_n dX6_streetsAt_25 rfl ?_
      refine rr_iconst dX6_streetsAt_26 (by decide) ?_
      refine rr_iload dX6_streetsAt_27 rfl ?_
      refine rr_ishl dX6_streetsAt_29 ?_
      refine rr_ior dX6_streetsAt_30 ?_
      refine rr_istore_n (ls' := [some (am_r 3), some (am_i x1), some (am_r p2), some (am_i (am_or x3 (am_shl 1 x4))), some (am_i x4)]) dX6_streetsAt_31 (Nat.le_of_ble_eq_true rfl) rfl ?_
      refine rr_iinc (ls' := [some (am_r 3), some (am_i x1), some (am_r p2), some (am_i (am_or x3 (am_shl 1 x4))), some (am_i (am_w (x4 + 1)))]) dX6_streetsAt_32 rfl (Nat.le_of_ble_eq_true rfl) rfl ?_
      refine rr_goto (t := 5) dX6_streetsAt_35 (by decide) ?_
      exact hk5 _ _ _ _ h
    · refine rr_icmp_ne_n (t := 32) dX6_streetsAt_22 (by decide) c3 ?_
      refine rr_iinc (ls' := [some (am_r 3), some (am_i x1), some (am_r p2), some (am_i x3), some (am_i (am_w (x4 + 1)))]) dX6_streetsAt_32 rfl (Nat.le_of_ble_eq_true rfl) rfl ?_
      refine rr_goto (t := 5) dX6_streetsAt_35 (by decide) ?_
      exact hk5 _ _ _ _ h
  · refine rr_icmp_ge_n (t := 38) dX6_streetsAt_14 (by decide) c1 ?_
    refine rr_iload_n dX6_streetsAt_38 rfl ?_
    obtain ⟨rfl, rfl⟩ := ab_r2 h
    exact rr_iret dX6_streetsAt_39 rfl hQ
theorem tl_X6_streetsAt_5 {L n d : Nat} {Q : am_Post} {p2 : Nat} {p2_n : Nat} {σr : am_Mem} {rr : Int} (hd : 0 ≤ d) (hs_p2 : (xr_Sh L)[p2]? = some (100, p2_n, [])) (h3_p2 : 3 ≤ p2) (hQ : Q (some (am_i rr)) (rm_h L σr)) : ∀ (m : Nat) (x1 : Int) (x3 : Int) (x4 : Int) (σ : am_Mem), fl_X6_streetsAt_5 n p2 p2_n m x1 x3 x4 σ = some (rr, σr) → xs_AW (xs_aw d) me_X6_streetsAt Q 5 [some (am_r 3), some (am_i x1), some (am_r p2), some (am_i x3), some (am_i x4)] [] (rm_h L σ) := by
  intro m
  induction m with
  | zero => intro x1 x3 x4 σ h; cases h
  | succ m ih =>
    intro x1 x3 x4 σ h
    exact tb_X6_streetsAt_5 hd hs_p2 h3_p2 (fun x1 x3 x4 σ h => ih x1 x3 x4 σ h) hQ h
theorem t_X6_streetsAt {L n d : Nat} {Q : am_Post} {p2 : Nat} {p2_n : Nat} {p1 : Int} {σ σr : am_Mem} {rr : Int} (hd : 0 < d) (hs_p2 : (xr_Sh L)[p2]? = some (100, p2_n, [])) (h3_p2 : 3 ≤ p2) (h : f_X6_streetsAt n p2 p2_n p1 σ = some (rr, σr)) (hQ : Q (some (am_i rr)) (rm_h L σr)) : xs_aw d me_X6_streetsAt [am_r 3, am_i p1, am_r p2] (rm_h L σ) Q := by
  obtain ⟨d, rfl⟩ : ∃ k, d = k + 1 := ⟨d - 1, by omega⟩
  have hd : 0 ≤ d := by omega
  unfold f_X6_streetsAt at h
  show xs_AW (xs_aw d) me_X6_streetsAt Q 0 [some (am_r 3), some (am_i p1), some (am_r p2), none, none] [] (rm_h L σ)
  refine rr_iconst dX6_streetsAt_0 (by decide) ?_
  refine rr_istore_n (ls' := [some (am_r 3), some (am_i p1), some (am_r p2), some (am_i 0), none]) dX6_streetsAt_1 (Nat.le_of_ble_eq_true rfl) rfl ?_
  refine rr_iconst dX6_streetsAt_2 (by decide) ?_
  refine rr_istore (ls' := [some (am_r 3), some (am_i p1), some (am_r p2), some (am_i 0), some (am_i 0)]) dX6_streetsAt_3 (Nat.le_of_ble_eq_true rfl) rfl ?_
  exact tl_X6_streetsAt_5 hd hs_p2 h3_p2 hQ n _ _ _ _ h
theorem ub_X6_streetsAt_5 {n : Nat} {p2 : Nat} {p2_n : Nat} {kh5 : Int → Int → Int → am_Mem → Option (Int × am_Mem)} {x1 : Int} {x3 : Int} {x4 : Int} {σ σr : am_Mem} {rr : Int} (hk5 : ∀ (y1 : Int) (y3 : Int) (y4 : Int) (σ : am_Mem), kh5 y1 y3 y4 σ = some (rr, σr) → σr = σ) (h : fb_X6_streetsAt_5 n p2 p2_n kh5 x1 x3 x4 σ = some (rr, σr)) : σr = σ := by
  unfold fb_X6_streetsAt_5 at h
  have fr : σ = σ := rfl
  rcases ab_i h with ⟨c1, h⟩ | ⟨c1, h⟩
  · obtain ⟨g2, h⟩ := ab_g h
    rcases ab_i h with ⟨c3, h⟩ | ⟨c3, h⟩
    · exact (hk5 _ _ _ _ h).trans fr
    · exact (hk5 _ _ _ _ h).trans fr
  · obtain ⟨q1, q2⟩ := ab_r2 h
    exact q2.symm.trans fr
theorem ul_X6_streetsAt_5 {n : Nat} {p2 : Nat} {p2_n : Nat} {σr : am_Mem} {rr : Int} : ∀ (m : Nat) (x1 : Int) (x3 : Int) (x4 : Int) (σ : am_Mem), fl_X6_streetsAt_5 n p2 p2_n m x1 x3 x4 σ = some (rr, σr) → σr = σ := by
  intro m
  induction m with
  | zero => intro x1 x3 x4 σ h; cases h
  | succ m ih =>
    intro x1 x3 x4 σ h
    exact ub_X6_streetsAt_5 (fun x1 x3 x4 σ h => ih x1 x3 x4 σ h) h
theorem u_X6_streetsAt {n : Nat} {p2 : Nat} {p2_n : Nat} {p1 : Int} {σ σr : am_Mem} {rr : Int} (h : f_X6_streetsAt n p2 p2_n p1 σ = some (rr, σr)) : σr = σ := by
  unfold f_X6_streetsAt at h
  have fr : σ = σ := rfl
  exact (ul_X6_streetsAt_5 n _ _ _ _ h).trans fr
/-! MoodFare.corner -/
def f_X6_corner (n : Nat) (p1 : Int) (p2 : Int) (σ : am_Mem) : Option (Int × am_Mem) :=
  am_b2 (f_X5_hasCorner n 18 p1 σ) fun r2 σ3 => if r2 = 0 then (some ((-1000001), σ3)) else (if p2 = 0 then (if (0 : Int) ≤ p1 ∧ p1 < 6 then some (σ3 20 p1, σ3) else none) else (if p2 = 1 then (if (0 : Int) ≤ p1 ∧ p1 < 6 then some (σ3 21 p1, σ3) else none) else (if p2 = 2 then (am_b2 (f_X6_streetsAt n 22 8 p1 σ3) fun r11 σ12 => some (r11, σ12)) else (if p2 = 3 then (am_b2 (f_X6_streetsAt n 23 8 p1 σ3) fun r15 σ16 => some (r15, σ16)) else (if p2 = 4 then (am_b2 (f_X5_moodBehind n 18 p1 (σ3 18 10) (σ3 18 12) σ3) fun r19 σ20 => some (r19, σ20)) else (some ((-1000001), σ3)))))))
theorem t_X6_corner {L n d : Nat} {Q : am_Post} {p1 : Int} {p2 : Int} {σ σr : am_Mem} {rr : Int} (hd : 1 < d) (h : f_X6_corner n p1 p2 σ = some (rr, σr)) (hQ : Q (some (am_i rr)) (rm_h L σr)) : xs_aw d me_X6_corner [am_r 3, am_i p1, am_i p2] (rm_h L σ) Q := by
  obtain ⟨d, rfl⟩ : ∃ k, d = k + 1 := ⟨d - 1, by omega⟩
  have hd : 1 ≤ d := by omega
  unfold f_X6_corner at h
  show xs_AW (xs_aw d) me_X6_corner Q 0 [some (am_r 3), some (am_i p1), some (am_i p2)] [] (rm_h L σ)
  refine rr_aload_n dX6_corner_0 rfl ?_
  refine rr_getr (t := 18) dX6_corner_1 fl_6_26 (sh_3 L) ⟨(by decide), by decide⟩ rfl rfl ?_
  refine rr_iload_n dX6_corner_4 rfl ?_
  obtain ⟨r2, σ3, e1, h⟩ := ab_2 h
  refine rr_Vi (as := [am_i p1]) (rest := []) dX6_corner_5 ml_6_156 (sh_18 L) ⟨(by decide), by decide, by decide⟩ rfl rfl rfl (Nat.le_of_ble_eq_true rfl) ⟨rfl, rfl⟩ (Nat.le_of_ble_eq_true rfl) (fun _ k => t_X5_hasCorner (by omega) tw_18 e1 k) ?_
  rcases ab_i h with ⟨c4, h⟩ | ⟨c4, h⟩
  · refine rr_if_ne_p (t := 14) dX6_corner_8 (by decide) c4 ?_
    refine rr_ldc dX6_corner_11 cs_6_69 ?_
    obtain ⟨rfl, rfl⟩ := ab_r2 h
    exact rr_iret dX6_corner_13 rfl hQ
  · refine rr_if_ne_n (t := 14) dX6_corner_8 (by decide) c4 ?_
    refine rr_iload_n dX6_corner_14 rfl ?_
    rcases ab_i h with ⟨c5, h⟩ | ⟨c5, h⟩
    · refine rr_tsw_in (off := 33) (t := 48) dX6_corner_15 (by omega) (by rw [c5]; rfl) (by decide) ?_
      refine rr_aload_n dX6_corner_48 rfl ?_
      refine rr_getr (t := 18) dX6_corner_49 fl_6_26 (sh_3 L) ⟨(by decide), by decide⟩ rfl rfl ?_
      refine rr_getr (t := 20) dX6_corner_52 fl_6_159 (sh_18 L) ⟨(by decide), by decide⟩ rfl rfl ?_
      refine rr_iload_n dX6_corner_55 rfl ?_
      obtain ⟨g6, h⟩ := ab_g h
      refine rr_iald (nz := 6) dX6_corner_56 (sh_20 L) rfl g6 ?_
      obtain ⟨rfl, rfl⟩ := ab_r2 h
      exact rr_iret dX6_corner_57 rfl hQ
    rcases ab_i h with ⟨c7, h⟩ | ⟨c7, h⟩
    · refine rr_tsw_in (off := 43) (t := 58) dX6_corner_15 (by omega) (by rw [c7]; rfl) (by decide) ?_
      refine rr_aload_n dX6_corner_58 rfl ?_
      refine rr_getr (t := 18) dX6_corner_59 fl_6_26 (sh_3 L) ⟨(by decide), by decide⟩ rfl rfl ?_
      refine rr_getr (t := 21) dX6_corner_62 fl_6_182 (sh_18 L) ⟨(by decide), by decide⟩ rfl rfl ?_
      refine rr_iload_n dX6_corner_65 rfl ?_
      obtain ⟨g8, h⟩ := ab_g h
      refine rr_iald (nz := 6) dX6_corner_66 (sh_21 L) rfl g8 ?_
      obtain ⟨rfl, rfl⟩ := ab_r2 h
      exact rr_iret dX6_corner_67 rfl hQ
    rcases ab_i h with ⟨c9, h⟩ | ⟨c9, h⟩
    · refine rr_tsw_in (off := 53) (t := 68) dX6_corner_15 (by omega) (by rw [c9]; rfl) (by decide) ?_
      refine rr_aload_n dX6_corner_68 rfl ?_
      refine rr_iload_n dX6_corner_69 rfl ?_
      refine rr_aload_n dX6_corner_70 rfl ?_
      refine rr_getr (t := 18) dX6_corner_71 fl_6_26 (sh_3 L) ⟨(by decide), by decide⟩ rfl rfl ?_
      refine rr_getr (t := 22) dX6_corner_74 fl_6_185 (sh_18 L) ⟨(by decide), by decide⟩ rfl rfl ?_
      obtain ⟨r11, σ12, e10, h⟩ := ab_2 h
      refine rr_Vi (as := [am_i p1, am_r 22]) (rest := []) dX6_corner_77 ml_6_188 (sh_3 L) ⟨(by decide), by decide, by decide⟩ rfl rfl rfl (Nat.le_of_ble_eq_true rfl) ⟨rfl, rfl⟩ (Nat.le_of_ble_eq_true rfl) (fun _ k => t_X6_streetsAt (by omega) (sh_22 L) (by decide) e10 k) ?_
      obtain ⟨rfl, rfl⟩ := ab_r2 h
      exact rr_iret dX6_corner_80 rfl hQ
    rcases ab_i h with ⟨c13, h⟩ | ⟨c13, h⟩
    · refine rr_tsw_in (off := 66) (t := 81) dX6_corner_15 (by omega) (by rw [c13]; rfl) (by decide) ?_
      refine rr_aload_n dX6_corner_81 rfl ?_
      refine rr_iload_n dX6_corner_82 rfl ?_
      refine rr_aload_n dX6_corner_83 rfl ?_
      refine rr_getr (t := 18) dX6_corner_84 fl_6_26 (sh_3 L) ⟨(by decide), by decide⟩ rfl rfl ?_
      refine rr_getr (t := 23) dX6_corner_87 fl_6_192 (sh_18 L) ⟨(by decide), by decide⟩ rfl rfl ?_
      obtain ⟨r15, σ16, e14, h⟩ := ab_2 h
      refine rr_Vi (as := [am_i p1, am_r 23]) (rest := []) dX6_corner_90 ml_6_188 (sh_3 L) ⟨(by decide), by decide, by decide⟩ rfl rfl rfl (Nat.le_of_ble_eq_true rfl) ⟨rfl, rfl⟩ (Nat.le_of_ble_eq_true rfl) (fun _ k => t_X6_streetsAt (by omega) (sh_23 L) (by decide) e14 k) ?_
      obtain ⟨rfl, rfl⟩ := ab_r2 h
      exact rr_iret dX6_corner_93 rfl hQ
    rcases ab_i h with ⟨c17, h⟩ | ⟨c17, h⟩
    · refine rr_tsw_in (off := 79) (t := 94) dX6_corner_15 (by omega) (by rw [c17]; rfl) (by decide) ?_
      refine rr_aload_n dX6_corner_94 rfl ?_
      refine rr_getr (t := 18) dX6_corner_95 fl_6_26 (sh_3 L) ⟨(by decide), by decide⟩ rfl rfl ?_
      refine rr_iload_n dX6_corner_98 rfl ?_
      refine rr_aload_n dX6_corner_99 rfl ?_
      refine rr_getr (t := 18) dX6_corner_100 fl_6_26 (sh_3 L) ⟨(by decide), by decide⟩ rfl rfl ?_
      refine rr_geti (kz := 10) dX6_corner_103 fl_6_142 (sh_18 L) ⟨(by decide), by decide⟩ rfl rfl ?_
      refine rr_aload_n dX6_corner_106 rfl ?_
      refine rr_getr (t := 18) dX6_corner_107 fl_6_26 (sh_3 L) ⟨(by decide), by decide⟩ rfl rfl ?_
      refine rr_geti (kz := 12) dX6_corner_110 fl_6_136 (sh_18 L) ⟨(by decide), by decide⟩ rfl rfl ?_
      obtain ⟨r19, σ20, e18, h⟩ := ab_2 h
      refine rr_Vi (as := [am_i p1, am_i (σ3 18 10), am_i (σ3 18 12)]) (rest := []) dX6_corner_113 ml_6_195 (sh_18 L) ⟨(by decide), by decide, by decide⟩ rfl rfl rfl (Nat.le_of_ble_eq_true rfl) ⟨rfl, rfl⟩ (Nat.le_of_ble_eq_true rfl) (fun _ k => t_X5_moodBehind (by omega) tw_18 e18 k) ?_
      obtain ⟨rfl, rfl⟩ := ab_r2 h
      exact rr_iret dX6_corner_116 rfl hQ
    refine rr_tsw_out (t := 117) dX6_corner_15 (by omega) (by decide) ?_
    refine rr_ldc dX6_corner_117 cs_6_69 ?_
    obtain ⟨rfl, rfl⟩ := ab_r2 h
    exact rr_iret dX6_corner_119 rfl hQ
theorem u_X6_corner {n : Nat} {p1 : Int} {p2 : Int} {σ σr : am_Mem} {rr : Int} (h : f_X6_corner n p1 p2 σ = some (rr, σr)) : σr = σ := by
  unfold f_X6_corner at h
  have fr : σ = σ := rfl
  obtain ⟨r2, σ3, e1, h⟩ := ab_2 h
  have fr := (u_X5_hasCorner e1).trans fr
  rcases ab_i h with ⟨c4, h⟩ | ⟨c4, h⟩
  · obtain ⟨q1, q2⟩ := ab_r2 h
    exact q2.symm.trans fr
  · rcases ab_i h with ⟨c5, h⟩ | ⟨c5, h⟩
    · obtain ⟨g6, h⟩ := ab_g h
      obtain ⟨q1, q2⟩ := ab_r2 h
      exact q2.symm.trans fr
    rcases ab_i h with ⟨c7, h⟩ | ⟨c7, h⟩
    · obtain ⟨g8, h⟩ := ab_g h
      obtain ⟨q1, q2⟩ := ab_r2 h
      exact q2.symm.trans fr
    rcases ab_i h with ⟨c9, h⟩ | ⟨c9, h⟩
    · obtain ⟨r11, σ12, e10, h⟩ := ab_2 h
      have fr := (u_X6_streetsAt e10).trans fr
      obtain ⟨q1, q2⟩ := ab_r2 h
      exact q2.symm.trans fr
    rcases ab_i h with ⟨c13, h⟩ | ⟨c13, h⟩
    · obtain ⟨r15, σ16, e14, h⟩ := ab_2 h
      have fr := (u_X6_streetsAt e14).trans fr
      obtain ⟨q1, q2⟩ := ab_r2 h
      exact q2.symm.trans fr
    rcases ab_i h with ⟨c17, h⟩ | ⟨c17, h⟩
    · obtain ⟨r19, σ20, e18, h⟩ := ab_2 h
      have fr := (u_X5_moodBehind e18).trans fr
      obtain ⟨q1, q2⟩ := ab_r2 h
      exact q2.symm.trans fr
    obtain ⟨q1, q2⟩ := ab_r2 h
    exact q2.symm.trans fr
/-! MoodFare.way -/
def f_X6_way (n : Nat) (p1 : Int) (p2 : Int) (σ : am_Mem) : Option (Int × am_Mem) :=
  am_b2 (f_X5_hasStreet n 18 p1 σ) fun r2 σ3 => if r2 = 0 then (some ((-1000001), σ3)) else (if p2 = 0 then (if (0 : Int) ≤ p1 ∧ p1 < 8 then some (σ3 22 p1, σ3) else none) else (if p2 = 1 then (if (0 : Int) ≤ p1 ∧ p1 < 8 then some (σ3 23 p1, σ3) else none) else (if p2 = 2 then (am_b2 (f_X5_isOpen n 18 p1 σ3) fun r11 σ12 => if r11 = 0 then (some (0, σ12)) else (some (1, σ12))) else (some ((-1000001), σ3)))))
theorem t_X6_way {L n d : Nat} {Q : am_Post} {p1 : Int} {p2 : Int} {σ σr : am_Mem} {rr : Int} (hd : 1 < d) (h : f_X6_way n p1 p2 σ = some (rr, σr)) (hQ : Q (some (am_i rr)) (rm_h L σr)) : xs_aw d me_X6_way [am_r 3, am_i p1, am_i p2] (rm_h L σ) Q := by
  obtain ⟨d, rfl⟩ : ∃ k, d = k + 1 := ⟨d - 1, by omega⟩
  have hd : 1 ≤ d := by omega
  unfold f_X6_way at h
  show xs_AW (xs_aw d) me_X6_way Q 0 [some (am_r 3), some (am_i p1), some (am_i p2)] [] (rm_h L σ)
  refine rr_aload_n dX6_way_0 rfl ?_
  refine rr_getr (t := 18) dX6_way_1 fl_6_26 (sh_3 L) ⟨(by decide), by decide⟩ rfl rfl ?_
  refine rr_iload_n dX6_way_4 rfl ?_
  obtain ⟨r2, σ3, e1, h⟩ := ab_2 h
  refine rr_Vi (as := [am_i p1]) (rest := []) dX6_way_5 ml_6_129 (sh_18 L) ⟨(by decide), by decide, by decide⟩ rfl rfl rfl (Nat.le_of_ble_eq_true rfl) ⟨rfl, rfl⟩ (Nat.le_of_ble_eq_true rfl) (fun _ k => t_X5_hasStreet (by omega) tw_18 e1 k) ?_
  rcases ab_i h with ⟨c4, h⟩ | ⟨c4, h⟩
  · refine rr_if_ne_p (t := 14) dX6_way_8 (by decide) c4 ?_
    refine rr_ldc dX6_way_11 cs_6_69 ?_
    obtain ⟨rfl, rfl⟩ := ab_r2 h
    exact rr_iret dX6_way_13 rfl hQ
  · refine rr_if_ne_n (t := 14) dX6_way_8 (by decide) c4 ?_
    refine rr_iload_n dX6_way_14 rfl ?_
    rcases ab_i h with ⟨c5, h⟩ | ⟨c5, h⟩
    · refine rr_tsw_in (off := 25) (t := 40) dX6_way_15 (by omega) (by rw [c5]; rfl) (by decide) ?_
      refine rr_aload_n dX6_way_40 rfl ?_
      refine rr_getr (t := 18) dX6_way_41 fl_6_26 (sh_3 L) ⟨(by decide), by decide⟩ rfl rfl ?_
      refine rr_getr (t := 22) dX6_way_44 fl_6_185 (sh_18 L) ⟨(by decide), by decide⟩ rfl rfl ?_
      refine rr_iload_n dX6_way_47 rfl ?_
      obtain ⟨g6, h⟩ := ab_g h
      refine rr_iald (nz := 8) dX6_way_48 (sh_22 L) rfl g6 ?_
      obtain ⟨rfl, rfl⟩ := ab_r2 h
      exact rr_iret dX6_way_49 rfl hQ
    rcases ab_i h with ⟨c7, h⟩ | ⟨c7, h⟩
    · refine rr_tsw_in (off := 35) (t := 50) dX6_way_15 (by omega) (by rw [c7]; rfl) (by decide) ?_
      refine rr_aload_n dX6_way_50 rfl ?_
      refine rr_getr (t := 18) dX6_way_51 fl_6_26 (sh_3 L) ⟨(by decide), by decide⟩ rfl rfl ?_
      refine rr_getr (t := 23) dX6_way_54 fl_6_192 (sh_18 L) ⟨(by decide), by decide⟩ rfl rfl ?_
      refine rr_iload_n dX6_way_57 rfl ?_
      obtain ⟨g8, h⟩ := ab_g h
      refine rr_iald (nz := 8) dX6_way_58 (sh_23 L) rfl g8 ?_
      obtain ⟨rfl, rfl⟩ := ab_r2 h
      exact rr_iret dX6_way_59 rfl hQ
    rcases ab_i h with ⟨c9, h⟩ | ⟨c9, h⟩
    · refine rr_tsw_in (off := 45) (t := 60) dX6_way_15 (by omega) (by rw [c9]; rfl) (by decide) ?_
      refine rr_aload_n dX6_way_60 rfl ?_
      refine rr_getr (t := 18) dX6_way_61 fl_6_26 (sh_3 L) ⟨(by decide), by decide⟩ rfl rfl ?_
      refine rr_iload_n dX6_way_64 rfl ?_
      obtain ⟨r11, σ12, e10, h⟩ := ab_2 h
      refine rr_Vi (as := [am_i p1]) (rest := []) dX6_way_65 ml_6_167 (sh_18 L) ⟨(by decide), by decide, by decide⟩ rfl rfl rfl (Nat.le_of_ble_eq_true rfl) ⟨rfl, rfl⟩ (Nat.le_of_ble_eq_true rfl) (fun _ k => t_X5_isOpen (by omega) tw_18 e10 k) ?_
      rcases ab_i h with ⟨c13, h⟩ | ⟨c13, h⟩
      · refine rr_if_eq_p (t := 75) dX6_way_68 (by decide) c13 ?_
        refine rr_iconst dX6_way_75 (by decide) ?_
        obtain ⟨rfl, rfl⟩ := ab_r2 h
        exact rr_iret dX6_way_76 rfl hQ
      · refine rr_if_eq_n (t := 75) dX6_way_68 (by decide) c13 ?_
        refine rr_iconst dX6_way_71 (by decide) ?_
        refine rr_goto (t := 76) dX6_way_72 (by decide) ?_
        obtain ⟨rfl, rfl⟩ := ab_r2 h
        exact rr_iret dX6_way_76 rfl hQ
    refine rr_tsw_out (t := 77) dX6_way_15 (by omega) (by decide) ?_
    refine rr_ldc dX6_way_77 cs_6_69 ?_
    obtain ⟨rfl, rfl⟩ := ab_r2 h
    exact rr_iret dX6_way_79 rfl hQ
theorem u_X6_way {n : Nat} {p1 : Int} {p2 : Int} {σ σr : am_Mem} {rr : Int} (h : f_X6_way n p1 p2 σ = some (rr, σr)) : σr = σ := by
  unfold f_X6_way at h
  have fr : σ = σ := rfl
  obtain ⟨r2, σ3, e1, h⟩ := ab_2 h
  have fr := (u_X5_hasStreet e1).trans fr
  rcases ab_i h with ⟨c4, h⟩ | ⟨c4, h⟩
  · obtain ⟨q1, q2⟩ := ab_r2 h
    exact q2.symm.trans fr
  · rcases ab_i h with ⟨c5, h⟩ | ⟨c5, h⟩
    · obtain ⟨g6, h⟩ := ab_g h
      obtain ⟨q1, q2⟩ := ab_r2 h
      exact q2.symm.trans fr
    rcases ab_i h with ⟨c7, h⟩ | ⟨c7, h⟩
    · obtain ⟨g8, h⟩ := ab_g h
      obtain ⟨q1, q2⟩ := ab_r2 h
      exact q2.symm.trans fr
    rcases ab_i h with ⟨c9, h⟩ | ⟨c9, h⟩
    · obtain ⟨r11, σ12, e10, h⟩ := ab_2 h
      have fr := (u_X5_isOpen e10).trans fr
      rcases ab_i h with ⟨c13, h⟩ | ⟨c13, h⟩
      · obtain ⟨q1, q2⟩ := ab_r2 h
        exact q2.symm.trans fr
      · obtain ⟨q1, q2⟩ := ab_r2 h
        exact q2.symm.trans fr
    obtain ⟨q1, q2⟩ := ab_r2 h
    exact q2.symm.trans fr
/-! MoodFare.would -/
def f_X6_would (n : Nat) (p1 : Int) (p2 : Int) (σ : am_Mem) : Option (Int × am_Mem) :=
  am_b2 (f_X5_hasStreet n 18 p1 σ) fun r2 σ3 => if r2 = 0 then (some ((-1000001), σ3)) else (if p2 < 0 then (some ((-1000001), σ3)) else (if p2 ≤ 1 then (am_b2 (f_X5_leads n 18 p1 σ3) fun r8 σ9 => if r8 = 0 then (some ((-1000000), σ9)) else (if p2 = 0 then (am_b2 (f_X5_moodBy n 18 p1 σ9) fun r13 σ14 => some (r13, σ14)) else (am_b2 (f_X5_costBy n 18 p1 σ9) fun r16 σ17 => some (r16, σ17)))) else (some ((-1000001), σ3))))
theorem t_X6_would {L n d : Nat} {Q : am_Post} {p1 : Int} {p2 : Int} {σ σr : am_Mem} {rr : Int} (hd : 3 < d) (h : f_X6_would n p1 p2 σ = some (rr, σr)) (hQ : Q (some (am_i rr)) (rm_h L σr)) : xs_aw d me_X6_would [am_r 3, am_i p1, am_i p2] (rm_h L σ) Q := by
  obtain ⟨d, rfl⟩ : ∃ k, d = k + 1 := ⟨d - 1, by omega⟩
  have hd : 3 ≤ d := by omega
  unfold f_X6_would at h
  show xs_AW (xs_aw d) me_X6_would Q 0 [some (am_r 3), some (am_i p1), some (am_i p2)] [] (rm_h L σ)
  refine rr_aload_n dX6_would_0 rfl ?_
  refine rr_getr (t := 18) dX6_would_1 fl_6_26 (sh_3 L) ⟨(by decide), by decide⟩ rfl rfl ?_
  refine rr_iload_n dX6_would_4 rfl ?_
  obtain ⟨r2, σ3, e1, h⟩ := ab_2 h
  refine rr_Vi (as := [am_i p1]) (rest := []) dX6_would_5 ml_6_129 (sh_18 L) ⟨(by decide), by decide, by decide⟩ rfl rfl rfl (Nat.le_of_ble_eq_true rfl) ⟨rfl, rfl⟩ (Nat.le_of_ble_eq_true rfl) (fun _ k => t_X5_hasStreet (by omega) tw_18 e1 k) ?_
  rcases ab_i h with ⟨c4, h⟩ | ⟨c4, h⟩
  · refine rr_if_eq_p (t := 20) dX6_would_8 (by decide) c4 ?_
    refine rr_ldc dX6_would_20 cs_6_69 ?_
    obtain ⟨rfl, rfl⟩ := ab_r2 h
    exact rr_iret dX6_would_22 rfl hQ
  · refine rr_if_eq_n (t := 20) dX6_would_8 (by decide) c4 ?_
    refine rr_iload_n dX6_would_11 rfl ?_
    rcases ab_i h with ⟨c5, h⟩ | ⟨c5, h⟩
    · refine rr_if_lt_p (t := 20) dX6_would_12 (by decide) c5 ?_
      refine rr_ldc dX6_would_20 cs_6_69 ?_
      obtain ⟨rfl, rfl⟩ := ab_r2 h
      exact rr_iret dX6_would_22 rfl hQ
    · refine rr_if_lt_n (t := 20) dX6_would_12 (by decide) c5 ?_
      refine rr_iload_n dX6_would_15 rfl ?_
      refine rr_iconst dX6_would_16 (by decide) ?_
      rcases ab_i h with ⟨c6, h⟩ | ⟨c6, h⟩
      · refine rr_icmp_le_p (t := 23) dX6_would_17 (by decide) c6 ?_
        refine rr_aload_n dX6_would_23 rfl ?_
        refine rr_getr (t := 18) dX6_would_24 fl_6_26 (sh_3 L) ⟨(by decide), by decide⟩ rfl rfl ?_
        refine rr_iload_n dX6_would_27 rfl ?_
        obtain ⟨r8, σ9, e7, h⟩ := ab_2 h
        refine rr_Vi (as := [am_i p1]) (rest := []) dX6_would_28 ml_6_132 (sh_18 L) ⟨(by decide), by decide, by decide⟩ rfl rfl rfl (Nat.le_of_ble_eq_true rfl) ⟨rfl, rfl⟩ (Nat.le_of_ble_eq_true rfl) (fun _ k => t_X5_leads (by omega) tw_18 e7 k) ?_
        rcases ab_i h with ⟨c10, h⟩ | ⟨c10, h⟩
        · refine rr_if_ne_p (t := 37) dX6_would_31 (by decide) c10 ?_
          refine rr_ldc dX6_would_34 cs_6_198 ?_
          obtain ⟨rfl, rfl⟩ := ab_r2 h
          exact rr_iret dX6_would_36 rfl hQ
        · refine rr_if_ne_n (t := 37) dX6_would_31 (by decide) c10 ?_
          refine rr_iload_n dX6_would_37 rfl ?_
          rcases ab_i h with ⟨c11, h⟩ | ⟨c11, h⟩
          · refine rr_if_ne_p (t := 52) dX6_would_38 (by decide) c11 ?_
            refine rr_aload_n dX6_would_41 rfl ?_
            refine rr_getr (t := 18) dX6_would_42 fl_6_26 (sh_3 L) ⟨(by decide), by decide⟩ rfl rfl ?_
            refine rr_iload_n dX6_would_45 rfl ?_
            obtain ⟨r13, σ14, e12, h⟩ := ab_2 h
            refine rr_Vi (as := [am_i p1]) (rest := []) dX6_would_46 ml_6_199 (sh_18 L) ⟨(by decide), by decide, by decide⟩ rfl rfl rfl (Nat.le_of_ble_eq_true rfl) ⟨rfl, rfl⟩ (Nat.le_of_ble_eq_true rfl) (fun _ k => t_X5_moodBy (by omega) tw_18 e12 k) ?_
            refine rr_goto (t := 60) dX6_would_49 (by decide) ?_
            obtain ⟨rfl, rfl⟩ := ab_r2 h
            exact rr_iret dX6_would_60 rfl hQ
          · refine rr_if_ne_n (t := 52) dX6_would_38 (by decide) c11 ?_
            refine rr_aload_n dX6_would_52 rfl ?_
            refine rr_getr (t := 18) dX6_would_53 fl_6_26 (sh_3 L) ⟨(by decide), by decide⟩ rfl rfl ?_
            refine rr_iload_n dX6_would_56 rfl ?_
            obtain ⟨r16, σ17, e15, h⟩ := ab_2 h
            refine rr_Vi (as := [am_i p1]) (rest := []) dX6_would_57 ml_6_202 (sh_18 L) ⟨(by decide), by decide, by decide⟩ rfl rfl rfl (Nat.le_of_ble_eq_true rfl) ⟨rfl, rfl⟩ (Nat.le_of_ble_eq_true rfl) (fun _ k => t_X5_costBy (by omega) tw_18 e15 k) ?_
            obtain ⟨rfl, rfl⟩ := ab_r2 h
            exact rr_iret dX6_would_60 rfl hQ
      · refine rr_icmp_le_n (t := 23) dX6_would_17 (by decide) c6 ?_
        refine rr_ldc dX6_would_20 cs_6_69 ?_
        obtain ⟨rfl, rfl⟩ := ab_r2 h
        exact rr_iret dX6_would_22 rfl hQ
theorem u_X6_would {n : Nat} {p1 : Int} {p2 : Int} {σ σr : am_Mem} {rr : Int} (h : f_X6_would n p1 p2 σ = some (rr, σr)) : σr = σ := by
  unfold f_X6_would at h
  have fr : σ = σ := rfl
  obtain ⟨r2, σ3, e1, h⟩ := ab_2 h
  have fr := (u_X5_hasStreet e1).trans fr
  rcases ab_i h with ⟨c4, h⟩ | ⟨c4, h⟩
  · obtain ⟨q1, q2⟩ := ab_r2 h
    exact q2.symm.trans fr
  · rcases ab_i h with ⟨c5, h⟩ | ⟨c5, h⟩
    · obtain ⟨q1, q2⟩ := ab_r2 h
      exact q2.symm.trans fr
    · rcases ab_i h with ⟨c6, h⟩ | ⟨c6, h⟩
      · obtain ⟨r8, σ9, e7, h⟩ := ab_2 h
        have fr := (u_X5_leads e7).trans fr
        rcases ab_i h with ⟨c10, h⟩ | ⟨c10, h⟩
        · obtain ⟨q1, q2⟩ := ab_r2 h
          exact q2.symm.trans fr
        · rcases ab_i h with ⟨c11, h⟩ | ⟨c11, h⟩
          · obtain ⟨r13, σ14, e12, h⟩ := ab_2 h
            have fr := (u_X5_moodBy e12).trans fr
            obtain ⟨q1, q2⟩ := ab_r2 h
            exact q2.symm.trans fr
          · obtain ⟨r16, σ17, e15, h⟩ := ab_2 h
            have fr := (u_X5_costBy e15).trans fr
            obtain ⟨q1, q2⟩ := ab_r2 h
            exact q2.symm.trans fr
      · obtain ⟨q1, q2⟩ := ab_r2 h
        exact q2.symm.trans fr
/-! MoodFare.reach -/
def f_X6_reach (n : Nat) (σ : am_Mem) : Option (Int × am_Mem) :=
  am_b2 (f_X5_stands n 18 σ) fun r2 σ3 => if r2 = 0 then (some ((-1000002), σ3)) else (am_b2 (f_X5_openWays n 18 σ3) fun r6 σ7 => some (r6, σ7))
theorem t_X6_reach {L n d : Nat} {Q : am_Post} {σ σr : am_Mem} {rr : Int} (hd : 2 < d) (h : f_X6_reach n σ = some (rr, σr)) (hQ : Q (some (am_i rr)) (rm_h L σr)) : xs_aw d me_X6_reach [am_r 3] (rm_h L σ) Q := by
  obtain ⟨d, rfl⟩ : ∃ k, d = k + 1 := ⟨d - 1, by omega⟩
  have hd : 2 ≤ d := by omega
  unfold f_X6_reach at h
  show xs_AW (xs_aw d) me_X6_reach Q 0 [some (am_r 3)] [] (rm_h L σ)
  refine rr_aload_n dX6_reach_0 rfl ?_
  refine rr_getr (t := 18) dX6_reach_1 fl_6_26 (sh_3 L) ⟨(by decide), by decide⟩ rfl rfl ?_
  obtain ⟨r2, σ3, e1, h⟩ := ab_2 h
  refine rr_Vi (as := []) (rest := []) dX6_reach_4 ml_6_163 (sh_18 L) ⟨(by decide), by decide, by decide⟩ rfl rfl rfl (Nat.le_of_ble_eq_true rfl) ⟨rfl, rfl⟩ (Nat.le_of_ble_eq_true rfl) (fun _ k => t_X5_stands (by omega) tw_18 e1 k) ?_
  rcases ab_i h with ⟨c4, h⟩ | ⟨c4, h⟩
  · refine rr_if_ne_p (t := 13) dX6_reach_7 (by decide) c4 ?_
    refine rr_ldc dX6_reach_10 cs_6_135 ?_
    obtain ⟨rfl, rfl⟩ := ab_r2 h
    exact rr_iret dX6_reach_12 rfl hQ
  · refine rr_if_ne_n (t := 13) dX6_reach_7 (by decide) c4 ?_
    refine rr_aload_n dX6_reach_13 rfl ?_
    refine rr_getr (t := 18) dX6_reach_14 fl_6_26 (sh_3 L) ⟨(by decide), by decide⟩ rfl rfl ?_
    obtain ⟨r6, σ7, e5, h⟩ := ab_2 h
    refine rr_Vi (as := []) (rest := []) dX6_reach_17 ml_6_205 (sh_18 L) ⟨(by decide), by decide, by decide⟩ rfl rfl rfl (Nat.le_of_ble_eq_true rfl) ⟨rfl, rfl⟩ (Nat.le_of_ble_eq_true rfl) (fun _ k => t_X5_openWays (by omega) tw_18 e5 k) ?_
    obtain ⟨rfl, rfl⟩ := ab_r2 h
    exact rr_iret dX6_reach_20 rfl hQ
theorem u_X6_reach {n : Nat} {σ σr : am_Mem} {rr : Int} (h : f_X6_reach n σ = some (rr, σr)) : σr = σ := by
  unfold f_X6_reach at h
  have fr : σ = σ := rfl
  obtain ⟨r2, σ3, e1, h⟩ := ab_2 h
  have fr := (u_X5_stands e1).trans fr
  rcases ab_i h with ⟨c4, h⟩ | ⟨c4, h⟩
  · obtain ⟨q1, q2⟩ := ab_r2 h
    exact q2.symm.trans fr
  · obtain ⟨r6, σ7, e5, h⟩ := ab_2 h
    have fr := (u_X5_openWays e5).trans fr
    obtain ⟨q1, q2⟩ := ab_r2 h
    exact q2.symm.trans fr
/-! MoodFare.cheapest -/
def f_X6_cheapest (n : Nat) (p1 : Int) (p2 : Int) (σ : am_Mem) : Option (Int × am_Mem) :=
  am_b2 (f_X5_hasCorner n 18 p1 σ) fun r2 σ3 => if r2 = 0 then (some ((-1000001), σ3)) else (if p2 < (-2) then (some ((-1000001), σ3)) else (if p2 < 8 then (am_b1 (f_X3_seek n 18 0 p1 8 σ3) fun σ9 => if σ9 69 7 < 0 then (some ((-1000000), σ9)) else (if p2 = (-1) then (some (σ9 69 8, σ9)) else (if p2 = (-2) then (some (σ9 69 7, σ9)) else (am_b2 (f_X3_streetOf n p2 σ9) fun r14 σ15 => some (r14, σ15))))) else (some ((-1000001), σ3))))
theorem t_X6_cheapest {L n d : Nat} {Q : am_Post} {p1 : Int} {p2 : Int} {σ σr : am_Mem} {rr : Int} (hd : 14 < d) (h : f_X6_cheapest n p1 p2 σ = some (rr, σr)) (hQ : Q (some (am_i rr)) (rm_h L σr)) : xs_aw d me_X6_cheapest [am_r 3, am_i p1, am_i p2] (rm_h L σ) Q := by
  obtain ⟨d, rfl⟩ : ∃ k, d = k + 1 := ⟨d - 1, by omega⟩
  have hd : 14 ≤ d := by omega
  unfold f_X6_cheapest at h
  show xs_AW (xs_aw d) me_X6_cheapest Q 0 [some (am_r 3), some (am_i p1), some (am_i p2)] [] (rm_h L σ)
  refine rr_aload_n dX6_cheapest_0 rfl ?_
  refine rr_getr (t := 18) dX6_cheapest_1 fl_6_26 (sh_3 L) ⟨(by decide), by decide⟩ rfl rfl ?_
  refine rr_iload_n dX6_cheapest_4 rfl ?_
  obtain ⟨r2, σ3, e1, h⟩ := ab_2 h
  refine rr_Vi (as := [am_i p1]) (rest := []) dX6_cheapest_5 ml_6_156 (sh_18 L) ⟨(by decide), by decide, by decide⟩ rfl rfl rfl (Nat.le_of_ble_eq_true rfl) ⟨rfl, rfl⟩ (Nat.le_of_ble_eq_true rfl) (fun _ k => t_X5_hasCorner (by omega) tw_18 e1 k) ?_
  rcases ab_i h with ⟨c4, h⟩ | ⟨c4, h⟩
  · refine rr_if_eq_p (t := 23) dX6_cheapest_8 (by decide) c4 ?_
    refine rr_ldc dX6_cheapest_23 cs_6_69 ?_
    obtain ⟨rfl, rfl⟩ := ab_r2 h
    exact rr_iret dX6_cheapest_25 rfl hQ
  · refine rr_if_eq_n (t := 23) dX6_cheapest_8 (by decide) c4 ?_
    refine rr_iload_n dX6_cheapest_11 rfl ?_
    refine rr_bipush dX6_cheapest_12 (by decide) ?_
    rcases ab_i h with ⟨c5, h⟩ | ⟨c5, h⟩
    · refine rr_icmp_lt_p (t := 23) dX6_cheapest_14 (by decide) c5 ?_
      refine rr_ldc dX6_cheapest_23 cs_6_69 ?_
      obtain ⟨rfl, rfl⟩ := ab_r2 h
      exact rr_iret dX6_cheapest_25 rfl hQ
    · refine rr_icmp_lt_n (t := 23) dX6_cheapest_14 (by decide) c5 ?_
      refine rr_iload_n dX6_cheapest_17 rfl ?_
      refine rr_bipush dX6_cheapest_18 (by decide) ?_
      rcases ab_i h with ⟨c6, h⟩ | ⟨c6, h⟩
      · refine rr_icmp_lt_p (t := 26) dX6_cheapest_20 (by decide) c6 ?_
        refine rr_aload_n dX6_cheapest_26 rfl ?_
        refine rr_getr (t := 69) dX6_cheapest_27 fl_6_47 (sh_3 L) ⟨(by decide), by decide⟩ rfl rfl ?_
        refine rr_aload_n dX6_cheapest_30 rfl ?_
        refine rr_getr (t := 18) dX6_cheapest_31 fl_6_26 (sh_3 L) ⟨(by decide), by decide⟩ rfl rfl ?_
        refine rr_iconst dX6_cheapest_34 (by decide) ?_
        refine rr_iload_n dX6_cheapest_35 rfl ?_
        refine rr_bipush dX6_cheapest_36 (by decide) ?_
        obtain ⟨σ9, e7, h⟩ := ab_1 h
        refine rr_Vv (as := [am_r 18, am_i 0, am_i p1, am_i 8]) (rest := []) dX6_cheapest_38 ml_6_209 (sh_69 L) ⟨(by decide), by decide, by decide⟩ rfl rfl rfl (Nat.le_of_ble_eq_true rfl) ⟨rfl, rfl⟩ (Nat.le_of_ble_eq_true rfl) (fun _ k => t_X3_seek (by omega) tw_18 e7 k) ?_
        refine rr_aload_n dX6_cheapest_41 rfl ?_
        refine rr_getr (t := 69) dX6_cheapest_42 fl_6_47 (sh_3 L) ⟨(by decide), by decide⟩ rfl rfl ?_
        refine rr_geti (kz := 7) dX6_cheapest_45 fl_6_213 (sh_69 L) ⟨(by decide), by decide⟩ rfl rfl ?_
        rcases ab_i h with ⟨c10, h⟩ | ⟨c10, h⟩
        · refine rr_if_ge_p (t := 54) dX6_cheapest_48 (by decide) c10 ?_
          refine rr_ldc dX6_cheapest_51 cs_6_198 ?_
          obtain ⟨rfl, rfl⟩ := ab_r2 h
          exact rr_iret dX6_cheapest_53 rfl hQ
        · refine rr_if_ge_n (t := 54) dX6_cheapest_48 (by decide) c10 ?_
          refine rr_iload_n dX6_cheapest_54 rfl ?_
          refine rr_iconst dX6_cheapest_55 (by decide) ?_
          rcases ab_i h with ⟨c11, h⟩ | ⟨c11, h⟩
          · refine rr_icmp_ne_p (t := 67) dX6_cheapest_56 (by decide) c11 ?_
            refine rr_aload_n dX6_cheapest_59 rfl ?_
            refine rr_getr (t := 69) dX6_cheapest_60 fl_6_47 (sh_3 L) ⟨(by decide), by decide⟩ rfl rfl ?_
            refine rr_geti (kz := 8) dX6_cheapest_63 fl_6_214 (sh_69 L) ⟨(by decide), by decide⟩ rfl rfl ?_
            obtain ⟨rfl, rfl⟩ := ab_r2 h
            exact rr_iret dX6_cheapest_66 rfl hQ
          · refine rr_icmp_ne_n (t := 67) dX6_cheapest_56 (by decide) c11 ?_
            refine rr_iload_n dX6_cheapest_67 rfl ?_
            refine rr_bipush dX6_cheapest_68 (by decide) ?_
            rcases ab_i h with ⟨c12, h⟩ | ⟨c12, h⟩
            · refine rr_icmp_ne_p (t := 83) dX6_cheapest_70 (by decide) c12 ?_
              refine rr_aload_n dX6_cheapest_73 rfl ?_
              refine rr_getr (t := 69) dX6_cheapest_74 fl_6_47 (sh_3 L) ⟨(by decide), by decide⟩ rfl rfl ?_
              refine rr_geti (kz := 7) dX6_cheapest_77 fl_6_213 (sh_69 L) ⟨(by decide), by decide⟩ rfl rfl ?_
              refine rr_goto (t := 91) dX6_cheapest_80 (by decide) ?_
              obtain ⟨rfl, rfl⟩ := ab_r2 h
              exact rr_iret dX6_cheapest_91 rfl hQ
            · refine rr_icmp_ne_n (t := 83) dX6_cheapest_70 (by decide) c12 ?_
              refine rr_aload_n dX6_cheapest_83 rfl ?_
              refine rr_getr (t := 69) dX6_cheapest_84 fl_6_47 (sh_3 L) ⟨(by decide), by decide⟩ rfl rfl ?_
              refine rr_iload_n dX6_cheapest_87 rfl ?_
              obtain ⟨r14, σ15, e13, h⟩ := ab_2 h
              refine rr_Vi (as := [am_i p2]) (rest := []) dX6_cheapest_88 ml_6_217 (sh_69 L) ⟨(by decide), by decide, by decide⟩ rfl rfl rfl (Nat.le_of_ble_eq_true rfl) ⟨rfl, rfl⟩ (Nat.le_of_ble_eq_true rfl) (fun _ k => t_X3_streetOf (by omega) e13 k) ?_
              obtain ⟨rfl, rfl⟩ := ab_r2 h
              exact rr_iret dX6_cheapest_91 rfl hQ
      · refine rr_icmp_lt_n (t := 26) dX6_cheapest_20 (by decide) c6 ?_
        refine rr_ldc dX6_cheapest_23 cs_6_69 ?_
        obtain ⟨rfl, rfl⟩ := ab_r2 h
        exact rr_iret dX6_cheapest_25 rfl hQ
def nw_X6_cheapest (a : Nat) : Prop := a ≠ 69 ∧ a ≠ 70 ∧ a ≠ 71 ∧ a ≠ 72
theorem w_X6_cheapest {n : Nat} {p1 : Int} {p2 : Int} {σ σr : am_Mem} {rr : Int} (h : f_X6_cheapest n p1 p2 σ = some (rr, σr)) : ∀ a : Nat, nw_X6_cheapest a → σr a = σ a := by
  unfold f_X6_cheapest at h
  have fr : ∀ a : Nat, nw_X6_cheapest a → σ a = σ a := fun _ _ => rfl
  obtain ⟨r2, σ3, e1, h⟩ := ab_2 h
  have fr := fun (a : Nat) (ha : nw_X6_cheapest a) => (congrFun (u_X5_hasCorner e1) a).trans (fr a ha)
  rcases ab_i h with ⟨c4, h⟩ | ⟨c4, h⟩
  · obtain ⟨q1, q2⟩ := ab_r2 h
    exact fun a ha => (congrFun q2.symm a).trans (fr a ha)
  · rcases ab_i h with ⟨c5, h⟩ | ⟨c5, h⟩
    · obtain ⟨q1, q2⟩ := ab_r2 h
      exact fun a ha => (congrFun q2.symm a).trans (fr a ha)
    · rcases ab_i h with ⟨c6, h⟩ | ⟨c6, h⟩
      · obtain ⟨σ9, e7, h⟩ := ab_1 h
        have fr := fun (a : Nat) (ha : nw_X6_cheapest a) => (w_X3_seek e7 a (by unfold nw_X6_cheapest at ha; unfold nw_X3_seek; omega)).trans (fr a ha)
        rcases ab_i h with ⟨c10, h⟩ | ⟨c10, h⟩
        · obtain ⟨q1, q2⟩ := ab_r2 h
          exact fun a ha => (congrFun q2.symm a).trans (fr a ha)
        · rcases ab_i h with ⟨c11, h⟩ | ⟨c11, h⟩
          · obtain ⟨q1, q2⟩ := ab_r2 h
            exact fun a ha => (congrFun q2.symm a).trans (fr a ha)
          · rcases ab_i h with ⟨c12, h⟩ | ⟨c12, h⟩
            · obtain ⟨q1, q2⟩ := ab_r2 h
              exact fun a ha => (congrFun q2.symm a).trans (fr a ha)
            · obtain ⟨r14, σ15, e13, h⟩ := ab_2 h
              have fr := fun (a : Nat) (ha : nw_X6_cheapest a) => (congrFun (u_X3_streetOf e13) a).trans (fr a ha)
              obtain ⟨q1, q2⟩ := ab_r2 h
              exact fun a ha => (congrFun q2.symm a).trans (fr a ha)
      · obtain ⟨q1, q2⟩ := ab_r2 h
        exact fun a ha => (congrFun q2.symm a).trans (fr a ha)
/-! MoodFare.dearest -/
def f_X6_dearest (n : Nat) (p1 : Int) (p2 : Int) (σ : am_Mem) : Option (Int × am_Mem) :=
  am_b2 (f_X5_stands n 18 σ) fun r2 σ3 => if r2 = 0 then (some ((-1000002), σ3)) else (if p1 < 0 then (some ((-1000001), σ3)) else (if p1 ≤ 8 then (if p2 < (-2) then (some ((-1000001), σ3)) else (if p2 < 8 then (am_b1 (f_X3_seek n 18 1 0 p1 σ3) fun σ11 => if σ11 69 7 < 0 then (some ((-1000000), σ11)) else (if p2 = (-1) then (some (σ11 69 8, σ11)) else (if p2 = (-2) then (some (σ11 69 9, σ11)) else (am_b2 (f_X3_streetOf n p2 σ11) fun r16 σ17 => some (r16, σ17))))) else (some ((-1000001), σ3)))) else (some ((-1000001), σ3))))
theorem t_X6_dearest {L n d : Nat} {Q : am_Post} {p1 : Int} {p2 : Int} {σ σr : am_Mem} {rr : Int} (hd : 14 < d) (h : f_X6_dearest n p1 p2 σ = some (rr, σr)) (hQ : Q (some (am_i rr)) (rm_h L σr)) : xs_aw d me_X6_dearest [am_r 3, am_i p1, am_i p2] (rm_h L σ) Q := by
  obtain ⟨d, rfl⟩ : ∃ k, d = k + 1 := ⟨d - 1, by omega⟩
  have hd : 14 ≤ d := by omega
  unfold f_X6_dearest at h
  show xs_AW (xs_aw d) me_X6_dearest Q 0 [some (am_r 3), some (am_i p1), some (am_i p2)] [] (rm_h L σ)
  refine rr_aload_n dX6_dearest_0 rfl ?_
  refine rr_getr (t := 18) dX6_dearest_1 fl_6_26 (sh_3 L) ⟨(by decide), by decide⟩ rfl rfl ?_
  obtain ⟨r2, σ3, e1, h⟩ := ab_2 h
  refine rr_Vi (as := []) (rest := []) dX6_dearest_4 ml_6_163 (sh_18 L) ⟨(by decide), by decide, by decide⟩ rfl rfl rfl (Nat.le_of_ble_eq_true rfl) ⟨rfl, rfl⟩ (Nat.le_of_ble_eq_true rfl) (fun _ k => t_X5_stands (by omega) tw_18 e1 k) ?_
  rcases ab_i h with ⟨c4, h⟩ | ⟨c4, h⟩
  · refine rr_if_ne_p (t := 13) dX6_dearest_7 (by decide) c4 ?_
    refine rr_ldc dX6_dearest_10 cs_6_135 ?_
    obtain ⟨rfl, rfl⟩ := ab_r2 h
    exact rr_iret dX6_dearest_12 rfl hQ
  · refine rr_if_ne_n (t := 13) dX6_dearest_7 (by decide) c4 ?_
    refine rr_iload_n dX6_dearest_13 rfl ?_
    rcases ab_i h with ⟨c5, h⟩ | ⟨c5, h⟩
    · refine rr_if_lt_p (t := 35) dX6_dearest_14 (by decide) c5 ?_
      refine rr_ldc dX6_dearest_35 cs_6_69 ?_
      obtain ⟨rfl, rfl⟩ := ab_r2 h
      exact rr_iret dX6_dearest_37 rfl hQ
    · refine rr_if_lt_n (t := 35) dX6_dearest_14 (by decide) c5 ?_
      refine rr_iload_n dX6_dearest_17 rfl ?_
      refine rr_bipush dX6_dearest_18 (by decide) ?_
      rcases ab_i h with ⟨c6, h⟩ | ⟨c6, h⟩
      · refine rr_icmp_gt_p (t := 35) dX6_dearest_20 (by decide) c6 ?_
        refine rr_iload_n dX6_dearest_23 rfl ?_
        refine rr_bipush dX6_dearest_24 (by decide) ?_
        rcases ab_i h with ⟨c7, h⟩ | ⟨c7, h⟩
        · refine rr_icmp_lt_p (t := 35) dX6_dearest_26 (by decide) c7 ?_
          refine rr_ldc dX6_dearest_35 cs_6_69 ?_
          obtain ⟨rfl, rfl⟩ := ab_r2 h
          exact rr_iret dX6_dearest_37 rfl hQ
        · refine rr_icmp_lt_n (t := 35) dX6_dearest_26 (by decide) c7 ?_
          refine rr_iload_n dX6_dearest_29 rfl ?_
          refine rr_bipush dX6_dearest_30 (by decide) ?_
          rcases ab_i h with ⟨c8, h⟩ | ⟨c8, h⟩
          · refine rr_icmp_lt_p (t := 38) dX6_dearest_32 (by decide) c8 ?_
            refine rr_aload_n dX6_dearest_38 rfl ?_
            refine rr_getr (t := 69) dX6_dearest_39 fl_6_47 (sh_3 L) ⟨(by decide), by decide⟩ rfl rfl ?_
            refine rr_aload_n dX6_dearest_42 rfl ?_
            refine rr_getr (t := 18) dX6_dearest_43 fl_6_26 (sh_3 L) ⟨(by decide), by decide⟩ rfl rfl ?_
            refine rr_iconst dX6_dearest_46 (by decide) ?_
            refine rr_iconst dX6_dearest_47 (by decide) ?_
            refine rr_iload_n dX6_dearest_48 rfl ?_
            obtain ⟨σ11, e9, h⟩ := ab_1 h
            refine rr_Vv (as := [am_r 18, am_i 1, am_i 0, am_i p1]) (rest := []) dX6_dearest_49 ml_6_209 (sh_69 L) ⟨(by decide), by decide, by decide⟩ rfl rfl rfl (Nat.le_of_ble_eq_true rfl) ⟨rfl, rfl⟩ (Nat.le_of_ble_eq_true rfl) (fun _ k => t_X3_seek (by omega) tw_18 e9 k) ?_
            refine rr_aload_n dX6_dearest_52 rfl ?_
            refine rr_getr (t := 69) dX6_dearest_53 fl_6_47 (sh_3 L) ⟨(by decide), by decide⟩ rfl rfl ?_
            refine rr_geti (kz := 7) dX6_dearest_56 fl_6_213 (sh_69 L) ⟨(by decide), by decide⟩ rfl rfl ?_
            rcases ab_i h with ⟨c12, h⟩ | ⟨c12, h⟩
            · refine rr_if_ge_p (t := 65) dX6_dearest_59 (by decide) c12 ?_
              refine rr_ldc dX6_dearest_62 cs_6_198 ?_
              obtain ⟨rfl, rfl⟩ := ab_r2 h
              exact rr_iret dX6_dearest_64 rfl hQ
            · refine rr_if_ge_n (t := 65) dX6_dearest_59 (by decide) c12 ?_
              refine rr_iload_n dX6_dearest_65 rfl ?_
              refine rr_iconst dX6_dearest_66 (by decide) ?_
              rcases ab_i h with ⟨c13, h⟩ | ⟨c13, h⟩
              · refine rr_icmp_ne_p (t := 78) dX6_dearest_67 (by decide) c13 ?_
                refine rr_aload_n dX6_dearest_70 rfl ?_
                refine rr_getr (t := 69) dX6_dearest_71 fl_6_47 (sh_3 L) ⟨(by decide), by decide⟩ rfl rfl ?_
                refine rr_geti (kz := 8) dX6_dearest_74 fl_6_214 (sh_69 L) ⟨(by decide), by decide⟩ rfl rfl ?_
                obtain ⟨rfl, rfl⟩ := ab_r2 h
                exact rr_iret dX6_dearest_77 rfl hQ
              · refine rr_icmp_ne_n (t := 78) dX6_dearest_67 (by decide) c13 ?_
                refine rr_iload_n dX6_dearest_78 rfl ?_
                refine rr_bipush dX6_dearest_79 (by decide) ?_
                rcases ab_i h with ⟨c14, h⟩ | ⟨c14, h⟩
                · refine rr_icmp_ne_p (t := 94) dX6_dearest_81 (by decide) c14 ?_
                  refine rr_aload_n dX6_dearest_84 rfl ?_
                  refine rr_getr (t := 69) dX6_dearest_85 fl_6_47 (sh_3 L) ⟨(by decide), by decide⟩ rfl rfl ?_
                  refine rr_geti (kz := 9) dX6_dearest_88 fl_6_220 (sh_69 L) ⟨(by decide), by decide⟩ rfl rfl ?_
                  refine rr_goto (t := 102) dX6_dearest_91 (by decide) ?_
                  obtain ⟨rfl, rfl⟩ := ab_r2 h
                  exact rr_iret dX6_dearest_102 rfl hQ
                · refine rr_icmp_ne_n (t := 94) dX6_dearest_81 (by decide) c14 ?_
                  refine rr_aload_n dX6_dearest_94 rfl ?_
                  refine rr_getr (t := 69) dX6_dearest_95 fl_6_47 (sh_3 L) ⟨(by decide), by decide⟩ rfl rfl ?_
                  refine rr_iload_n dX6_dearest_98 rfl ?_
                  obtain ⟨r16, σ17, e15, h⟩ := ab_2 h
                  refine rr_Vi (as := [am_i p2]) (rest := []) dX6_dearest_99 ml_6_217 (sh_69 L) ⟨(by decide), by decide, by decide⟩ rfl rfl rfl (Nat.le_of_ble_eq_true rfl) ⟨rfl, rfl⟩ (Nat.le_of_ble_eq_true rfl) (fun _ k => t_X3_streetOf (by omega) e15 k) ?_
                  obtain ⟨rfl, rfl⟩ := ab_r2 h
                  exact rr_iret dX6_dearest_102 rfl hQ
          · refine rr_icmp_lt_n (t := 38) dX6_dearest_32 (by decide) c8 ?_
            refine rr_ldc dX6_dearest_35 cs_6_69 ?_
            obtain ⟨rfl, rfl⟩ := ab_r2 h
            exact rr_iret dX6_dearest_37 rfl hQ
      · refine rr_icmp_gt_n (t := 35) dX6_dearest_20 (by decide) c6 ?_
        refine rr_ldc dX6_dearest_35 cs_6_69 ?_
        obtain ⟨rfl, rfl⟩ := ab_r2 h
        exact rr_iret dX6_dearest_37 rfl hQ
def nw_X6_dearest (a : Nat) : Prop := a ≠ 69 ∧ a ≠ 70 ∧ a ≠ 71 ∧ a ≠ 72
theorem w_X6_dearest {n : Nat} {p1 : Int} {p2 : Int} {σ σr : am_Mem} {rr : Int} (h : f_X6_dearest n p1 p2 σ = some (rr, σr)) : ∀ a : Nat, nw_X6_dearest a → σr a = σ a := by
  unfold f_X6_dearest at h
  have fr : ∀ a : Nat, nw_X6_dearest a → σ a = σ a := fun _ _ => rfl
  obtain ⟨r2, σ3, e1, h⟩ := ab_2 h
  have fr := fun (a : Nat) (ha : nw_X6_dearest a) => (congrFun (u_X5_stands e1) a).trans (fr a ha)
  rcases ab_i h with ⟨c4, h⟩ | ⟨c4, h⟩
  · obtain ⟨q1, q2⟩ := ab_r2 h
    exact fun a ha => (congrFun q2.symm a).trans (fr a ha)
  · rcases ab_i h with ⟨c5, h⟩ | ⟨c5, h⟩
    · obtain ⟨q1, q2⟩ := ab_r2 h
      exact fun a ha => (congrFun q2.symm a).trans (fr a ha)
    · rcases ab_i h with ⟨c6, h⟩ | ⟨c6, h⟩
      · rcases ab_i h with ⟨c7, h⟩ | ⟨c7, h⟩
        · obtain ⟨q1, q2⟩ := ab_r2 h
          exact fun a ha => (congrFun q2.symm a).trans (fr a ha)
        · rcases ab_i h with ⟨c8, h⟩ | ⟨c8, h⟩
          · obtain ⟨σ11, e9, h⟩ := ab_1 h
            have fr := fun (a : Nat) (ha : nw_X6_dearest a) => (w_X3_seek e9 a (by unfold nw_X6_dearest at ha; unfold nw_X3_seek; omega)).trans (fr a ha)
            rcases ab_i h with ⟨c12, h⟩ | ⟨c12, h⟩
            · obtain ⟨q1, q2⟩ := ab_r2 h
              exact fun a ha => (congrFun q2.symm a).trans (fr a ha)
            · rcases ab_i h with ⟨c13, h⟩ | ⟨c13, h⟩
              · obtain ⟨q1, q2⟩ := ab_r2 h
                exact fun a ha => (congrFun q2.symm a).trans (fr a ha)
              · rcases ab_i h with ⟨c14, h⟩ | ⟨c14, h⟩
                · obtain ⟨q1, q2⟩ := ab_r2 h
                  exact fun a ha => (congrFun q2.symm a).trans (fr a ha)
                · obtain ⟨r16, σ17, e15, h⟩ := ab_2 h
                  have fr := fun (a : Nat) (ha : nw_X6_dearest a) => (congrFun (u_X3_streetOf e15) a).trans (fr a ha)
                  obtain ⟨q1, q2⟩ := ab_r2 h
                  exact fun a ha => (congrFun q2.symm a).trans (fr a ha)
          · obtain ⟨q1, q2⟩ := ab_r2 h
            exact fun a ha => (congrFun q2.symm a).trans (fr a ha)
      · obtain ⟨q1, q2⟩ := ab_r2 h
        exact fun a ha => (congrFun q2.symm a).trans (fr a ha)
/-! MoodFare.moods -/
def f_X6_moods (n : Nat) (p1 : Int) (p2 : Int) (σ : am_Mem) : Option (Int × am_Mem) :=
  am_b2 (f_X5_hasCorner n 18 p1 σ) fun r2 σ3 => if r2 = 0 then (some ((-1000001), σ3)) else (if p2 < 0 then (some ((-1000001), σ3)) else (if p2 ≤ 8 then (am_b1 (f_X3_seek n 18 2 p1 p2 σ3) fun σ9 => some (σ9 69 10, σ9)) else (some ((-1000001), σ3))))
theorem t_X6_moods {L n d : Nat} {Q : am_Post} {p1 : Int} {p2 : Int} {σ σr : am_Mem} {rr : Int} (hd : 14 < d) (h : f_X6_moods n p1 p2 σ = some (rr, σr)) (hQ : Q (some (am_i rr)) (rm_h L σr)) : xs_aw d me_X6_moods [am_r 3, am_i p1, am_i p2] (rm_h L σ) Q := by
  obtain ⟨d, rfl⟩ : ∃ k, d = k + 1 := ⟨d - 1, by omega⟩
  have hd : 14 ≤ d := by omega
  unfold f_X6_moods at h
  show xs_AW (xs_aw d) me_X6_moods Q 0 [some (am_r 3), some (am_i p1), some (am_i p2)] [] (rm_h L σ)
  refine rr_aload_n dX6_moods_0 rfl ?_
  refine rr_getr (t := 18) dX6_moods_1 fl_6_26 (sh_3 L) ⟨(by decide), by decide⟩ rfl rfl ?_
  refine rr_iload_n dX6_moods_4 rfl ?_
  obtain ⟨r2, σ3, e1, h⟩ := ab_2 h
  refine rr_Vi (as := [am_i p1]) (rest := []) dX6_moods_5 ml_6_156 (sh_18 L) ⟨(by decide), by decide, by decide⟩ rfl rfl rfl (Nat.le_of_ble_eq_true rfl) ⟨rfl, rfl⟩ (Nat.le_of_ble_eq_true rfl) (fun _ k => t_X5_hasCorner (by omega) tw_18 e1 k) ?_
  rcases ab_i h with ⟨c4, h⟩ | ⟨c4, h⟩
  · refine rr_if_eq_p (t := 21) dX6_moods_8 (by decide) c4 ?_
    refine rr_ldc dX6_moods_21 cs_6_69 ?_
    obtain ⟨rfl, rfl⟩ := ab_r2 h
    exact rr_iret dX6_moods_23 rfl hQ
  · refine rr_if_eq_n (t := 21) dX6_moods_8 (by decide) c4 ?_
    refine rr_iload_n dX6_moods_11 rfl ?_
    rcases ab_i h with ⟨c5, h⟩ | ⟨c5, h⟩
    · refine rr_if_lt_p (t := 21) dX6_moods_12 (by decide) c5 ?_
      refine rr_ldc dX6_moods_21 cs_6_69 ?_
      obtain ⟨rfl, rfl⟩ := ab_r2 h
      exact rr_iret dX6_moods_23 rfl hQ
    · refine rr_if_lt_n (t := 21) dX6_moods_12 (by decide) c5 ?_
      refine rr_iload_n dX6_moods_15 rfl ?_
      refine rr_bipush dX6_moods_16 (by decide) ?_
      rcases ab_i h with ⟨c6, h⟩ | ⟨c6, h⟩
      · refine rr_icmp_le_p (t := 24) dX6_moods_18 (by decide) c6 ?_
        refine rr_aload_n dX6_moods_24 rfl ?_
        refine rr_getr (t := 69) dX6_moods_25 fl_6_47 (sh_3 L) ⟨(by decide), by decide⟩ rfl rfl ?_
        refine rr_aload_n dX6_moods_28 rfl ?_
        refine rr_getr (t := 18) dX6_moods_29 fl_6_26 (sh_3 L) ⟨(by decide), by decide⟩ rfl rfl ?_
        refine rr_iconst dX6_moods_32 (by decide) ?_
        refine rr_iload_n dX6_moods_33 rfl ?_
        refine rr_iload_n dX6_moods_34 rfl ?_
        obtain ⟨σ9, e7, h⟩ := ab_1 h
        refine rr_Vv (as := [am_r 18, am_i 2, am_i p1, am_i p2]) (rest := []) dX6_moods_35 ml_6_209 (sh_69 L) ⟨(by decide), by decide, by decide⟩ rfl rfl rfl (Nat.le_of_ble_eq_true rfl) ⟨rfl, rfl⟩ (Nat.le_of_ble_eq_true rfl) (fun _ k => t_X3_seek (by omega) tw_18 e7 k) ?_
        refine rr_aload_n dX6_moods_38 rfl ?_
        refine rr_getr (t := 69) dX6_moods_39 fl_6_47 (sh_3 L) ⟨(by decide), by decide⟩ rfl rfl ?_
        refine rr_geti (kz := 10) dX6_moods_42 fl_6_223 (sh_69 L) ⟨(by decide), by decide⟩ rfl rfl ?_
        obtain ⟨rfl, rfl⟩ := ab_r2 h
        exact rr_iret dX6_moods_45 rfl hQ
      · refine rr_icmp_le_n (t := 24) dX6_moods_18 (by decide) c6 ?_
        refine rr_ldc dX6_moods_21 cs_6_69 ?_
        obtain ⟨rfl, rfl⟩ := ab_r2 h
        exact rr_iret dX6_moods_23 rfl hQ
def nw_X6_moods (a : Nat) : Prop := a ≠ 69 ∧ a ≠ 70 ∧ a ≠ 71 ∧ a ≠ 72
theorem w_X6_moods {n : Nat} {p1 : Int} {p2 : Int} {σ σr : am_Mem} {rr : Int} (h : f_X6_moods n p1 p2 σ = some (rr, σr)) : ∀ a : Nat, nw_X6_moods a → σr a = σ a := by
  unfold f_X6_moods at h
  have fr : ∀ a : Nat, nw_X6_moods a → σ a = σ a := fun _ _ => rfl
  obtain ⟨r2, σ3, e1, h⟩ := ab_2 h
  have fr := fun (a : Nat) (ha : nw_X6_moods a) => (congrFun (u_X5_hasCorner e1) a).trans (fr a ha)
  rcases ab_i h with ⟨c4, h⟩ | ⟨c4, h⟩
  · obtain ⟨q1, q2⟩ := ab_r2 h
    exact fun a ha => (congrFun q2.symm a).trans (fr a ha)
  · rcases ab_i h with ⟨c5, h⟩ | ⟨c5, h⟩
    · obtain ⟨q1, q2⟩ := ab_r2 h
      exact fun a ha => (congrFun q2.symm a).trans (fr a ha)
    · rcases ab_i h with ⟨c6, h⟩ | ⟨c6, h⟩
      · obtain ⟨σ9, e7, h⟩ := ab_1 h
        have fr := fun (a : Nat) (ha : nw_X6_moods a) => (w_X3_seek e7 a (by unfold nw_X6_moods at ha; unfold nw_X3_seek; omega)).trans (fr a ha)
        obtain ⟨q1, q2⟩ := ab_r2 h
        exact fun a ha => (congrFun q2.symm a).trans (fr a ha)
      · obtain ⟨q1, q2⟩ := ab_r2 h
        exact fun a ha => (congrFun q2.symm a).trans (fr a ha)
/-! MoodFare.gets -/
def f_X6_gets (n : Nat) (p1 : Int) (p2 : Int) (σ : am_Mem) : Option (Int × am_Mem) :=
  am_b2 (f_X5_stands n 18 σ) fun r2 σ3 => if r2 = 0 then (some ((-1000002), σ3)) else (if p1 < 0 then (some ((-1000001), σ3)) else (if p1 ≤ 9 then (if p2 < (-1) then (some ((-1000001), σ3)) else (if p2 < 8 then (am_b1 (f_X3_seek n 18 3 p1 8 σ3) fun σ11 => if σ11 69 7 < 0 then (some ((-1000000), σ11)) else (if p2 = (-1) then (some (σ11 69 7, σ11)) else (am_b2 (f_X3_streetOf n p2 σ11) fun r15 σ16 => some (r15, σ16)))) else (some ((-1000001), σ3)))) else (some ((-1000001), σ3))))
theorem t_X6_gets {L n d : Nat} {Q : am_Post} {p1 : Int} {p2 : Int} {σ σr : am_Mem} {rr : Int} (hd : 14 < d) (h : f_X6_gets n p1 p2 σ = some (rr, σr)) (hQ : Q (some (am_i rr)) (rm_h L σr)) : xs_aw d me_X6_gets [am_r 3, am_i p1, am_i p2] (rm_h L σ) Q := by
  obtain ⟨d, rfl⟩ : ∃ k, d = k + 1 := ⟨d - 1, by omega⟩
  have hd : 14 ≤ d := by omega
  unfold f_X6_gets at h
  show xs_AW (xs_aw d) me_X6_gets Q 0 [some (am_r 3), some (am_i p1), some (am_i p2)] [] (rm_h L σ)
  refine rr_aload_n dX6_gets_0 rfl ?_
  refine rr_getr (t := 18) dX6_gets_1 fl_6_26 (sh_3 L) ⟨(by decide), by decide⟩ rfl rfl ?_
  obtain ⟨r2, σ3, e1, h⟩ := ab_2 h
  refine rr_Vi (as := []) (rest := []) dX6_gets_4 ml_6_163 (sh_18 L) ⟨(by decide), by decide, by decide⟩ rfl rfl rfl (Nat.le_of_ble_eq_true rfl) ⟨rfl, rfl⟩ (Nat.le_of_ble_eq_true rfl) (fun _ k => t_X5_stands (by omega) tw_18 e1 k) ?_
  rcases ab_i h with ⟨c4, h⟩ | ⟨c4, h⟩
  · refine rr_if_ne_p (t := 13) dX6_gets_7 (by decide) c4 ?_
    refine rr_ldc dX6_gets_10 cs_6_135 ?_
    obtain ⟨rfl, rfl⟩ := ab_r2 h
    exact rr_iret dX6_gets_12 rfl hQ
  · refine rr_if_ne_n (t := 13) dX6_gets_7 (by decide) c4 ?_
    refine rr_iload_n dX6_gets_13 rfl ?_
    rcases ab_i h with ⟨c5, h⟩ | ⟨c5, h⟩
    · refine rr_if_lt_p (t := 34) dX6_gets_14 (by decide) c5 ?_
      refine rr_ldc dX6_gets_34 cs_6_69 ?_
      obtain ⟨rfl, rfl⟩ := ab_r2 h
      exact rr_iret dX6_gets_36 rfl hQ
    · refine rr_if_lt_n (t := 34) dX6_gets_14 (by decide) c5 ?_
      refine rr_iload_n dX6_gets_17 rfl ?_
      refine rr_bipush dX6_gets_18 (by decide) ?_
      rcases ab_i h with ⟨c6, h⟩ | ⟨c6, h⟩
      · refine rr_icmp_gt_p (t := 34) dX6_gets_20 (by decide) c6 ?_
        refine rr_iload_n dX6_gets_23 rfl ?_
        refine rr_iconst dX6_gets_24 (by decide) ?_
        rcases ab_i h with ⟨c7, h⟩ | ⟨c7, h⟩
        · refine rr_icmp_lt_p (t := 34) dX6_gets_25 (by decide) c7 ?_
          refine rr_ldc dX6_gets_34 cs_6_69 ?_
          obtain ⟨rfl, rfl⟩ := ab_r2 h
          exact rr_iret dX6_gets_36 rfl hQ
        · refine rr_icmp_lt_n (t := 34) dX6_gets_25 (by decide) c7 ?_
          refine rr_iload_n dX6_gets_28 rfl ?_
          refine rr_bipush dX6_gets_29 (by decide) ?_
          rcases ab_i h with ⟨c8, h⟩ | ⟨c8, h⟩
          · refine rr_icmp_lt_p (t := 37) dX6_gets_31 (by decide) c8 ?_
            refine rr_aload_n dX6_gets_37 rfl ?_
            refine rr_getr (t := 69) dX6_gets_38 fl_6_47 (sh_3 L) ⟨(by decide), by decide⟩ rfl rfl ?_
            refine rr_aload_n dX6_gets_41 rfl ?_
            refine rr_getr (t := 18) dX6_gets_42 fl_6_26 (sh_3 L) ⟨(by decide), by decide⟩ rfl rfl ?_
            refine rr_iconst dX6_gets_45 (by decide) ?_
            refine rr_iload_n dX6_gets_46 rfl ?_
            refine rr_bipush dX6_gets_47 (by decide) ?_
            obtain ⟨σ11, e9, h⟩ := ab_1 h
            refine rr_Vv (as := [am_r 18, am_i 3, am_i p1, am_i 8]) (rest := []) dX6_gets_49 ml_6_209 (sh_69 L) ⟨(by decide), by decide, by decide⟩ rfl rfl rfl (Nat.le_of_ble_eq_true rfl) ⟨rfl, rfl⟩ (Nat.le_of_ble_eq_true rfl) (fun _ k => t_X3_seek (by omega) tw_18 e9 k) ?_
            refine rr_aload_n dX6_gets_52 rfl ?_
            refine rr_getr (t := 69) dX6_gets_53 fl_6_47 (sh_3 L) ⟨(by decide), by decide⟩ rfl rfl ?_
            refine rr_geti (kz := 7) dX6_gets_56 fl_6_213 (sh_69 L) ⟨(by decide), by decide⟩ rfl rfl ?_
            rcases ab_i h with ⟨c12, h⟩ | ⟨c12, h⟩
            · refine rr_if_ge_p (t := 65) dX6_gets_59 (by decide) c12 ?_
              refine rr_ldc dX6_gets_62 cs_6_198 ?_
              obtain ⟨rfl, rfl⟩ := ab_r2 h
              exact rr_iret dX6_gets_64 rfl hQ
            · refine rr_if_ge_n (t := 65) dX6_gets_59 (by decide) c12 ?_
              refine rr_iload_n dX6_gets_65 rfl ?_
              refine rr_iconst dX6_gets_66 (by decide) ?_
              rcases ab_i h with ⟨c13, h⟩ | ⟨c13, h⟩
              · refine rr_icmp_ne_p (t := 80) dX6_gets_67 (by decide) c13 ?_
                refine rr_aload_n dX6_gets_70 rfl ?_
                refine rr_getr (t := 69) dX6_gets_71 fl_6_47 (sh_3 L) ⟨(by decide), by decide⟩ rfl rfl ?_
                refine rr_geti (kz := 7) dX6_gets_74 fl_6_213 (sh_69 L) ⟨(by decide), by decide⟩ rfl rfl ?_
                refine rr_goto (t := 88) dX6_gets_77 (by decide) ?_
                obtain ⟨rfl, rfl⟩ := ab_r2 h
                exact rr_iret dX6_gets_88 rfl hQ
              · refine rr_icmp_ne_n (t := 80) dX6_gets_67 (by decide) c13 ?_
                refine rr_aload_n dX6_gets_80 rfl ?_
                refine rr_getr (t := 69) dX6_gets_81 fl_6_47 (sh_3 L) ⟨(by decide), by decide⟩ rfl rfl ?_
                refine rr_iload_n dX6_gets_84 rfl ?_
                obtain ⟨r15, σ16, e14, h⟩ := ab_2 h
                refine rr_Vi (as := [am_i p2]) (rest := []) dX6_gets_85 ml_6_217 (sh_69 L) ⟨(by decide), by decide, by decide⟩ rfl rfl rfl (Nat.le_of_ble_eq_true rfl) ⟨rfl, rfl⟩ (Nat.le_of_ble_eq_true rfl) (fun _ k => t_X3_streetOf (by omega) e14 k) ?_
                obtain ⟨rfl, rfl⟩ := ab_r2 h
                exact rr_iret dX6_gets_88 rfl hQ
          · refine rr_icmp_lt_n (t := 37) dX6_gets_31 (by decide) c8 ?_
            refine rr_ldc dX6_gets_34 cs_6_69 ?_
            obtain ⟨rfl, rfl⟩ := ab_r2 h
            exact rr_iret dX6_gets_36 rfl hQ
      · refine rr_icmp_gt_n (t := 34) dX6_gets_20 (by decide) c6 ?_
        refine rr_ldc dX6_gets_34 cs_6_69 ?_
        obtain ⟨rfl, rfl⟩ := ab_r2 h
        exact rr_iret dX6_gets_36 rfl hQ
def nw_X6_gets (a : Nat) : Prop := a ≠ 69 ∧ a ≠ 70 ∧ a ≠ 71 ∧ a ≠ 72
theorem w_X6_gets {n : Nat} {p1 : Int} {p2 : Int} {σ σr : am_Mem} {rr : Int} (h : f_X6_gets n p1 p2 σ = some (rr, σr)) : ∀ a : Nat, nw_X6_gets a → σr a = σ a := by
  unfold f_X6_gets at h
  have fr : ∀ a : Nat, nw_X6_gets a → σ a = σ a := fun _ _ => rfl
  obtain ⟨r2, σ3, e1, h⟩ := ab_2 h
  have fr := fun (a : Nat) (ha : nw_X6_gets a) => (congrFun (u_X5_stands e1) a).trans (fr a ha)
  rcases ab_i h with ⟨c4, h⟩ | ⟨c4, h⟩
  · obtain ⟨q1, q2⟩ := ab_r2 h
    exact fun a ha => (congrFun q2.symm a).trans (fr a ha)
  · rcases ab_i h with ⟨c5, h⟩ | ⟨c5, h⟩
    · obtain ⟨q1, q2⟩ := ab_r2 h
      exact fun a ha => (congrFun q2.symm a).trans (fr a ha)
    · rcases ab_i h with ⟨c6, h⟩ | ⟨c6, h⟩
      · rcases ab_i h with ⟨c7, h⟩ | ⟨c7, h⟩
        · obtain ⟨q1, q2⟩ := ab_r2 h
          exact fun a ha => (congrFun q2.symm a).trans (fr a ha)
        · rcases ab_i h with ⟨c8, h⟩ | ⟨c8, h⟩
          · obtain ⟨σ11, e9, h⟩ := ab_1 h
            have fr := fun (a : Nat) (ha : nw_X6_gets a) => (w_X3_seek e9 a (by unfold nw_X6_gets at ha; unfold nw_X3_seek; omega)).trans (fr a ha)
            rcases ab_i h with ⟨c12, h⟩ | ⟨c12, h⟩
            · obtain ⟨q1, q2⟩ := ab_r2 h
              exact fun a ha => (congrFun q2.symm a).trans (fr a ha)
            · rcases ab_i h with ⟨c13, h⟩ | ⟨c13, h⟩
              · obtain ⟨q1, q2⟩ := ab_r2 h
                exact fun a ha => (congrFun q2.symm a).trans (fr a ha)
              · obtain ⟨r15, σ16, e14, h⟩ := ab_2 h
                have fr := fun (a : Nat) (ha : nw_X6_gets a) => (congrFun (u_X3_streetOf e14) a).trans (fr a ha)
                obtain ⟨q1, q2⟩ := ab_r2 h
                exact fun a ha => (congrFun q2.symm a).trans (fr a ha)
          · obtain ⟨q1, q2⟩ := ab_r2 h
            exact fun a ha => (congrFun q2.symm a).trans (fr a ha)
      · obtain ⟨q1, q2⟩ := ab_r2 h
        exact fun a ha => (congrFun q2.symm a).trans (fr a ha)
/-! MoodFare.areFitting -/
def f_X6_areFitting (n : Nat) (p0 : Int) (p1 : Int) (p2 : Int) (p3 : Int) (σ : am_Mem) : Option (Int × am_Mem) :=
  am_b2 (f_X2_isRow n p0 σ) fun r2 σ3 => if r2 = 0 then (some (0, σ3)) else (am_b2 (f_X2_isRow n p1 σ3) fun r6 σ7 => if r6 = 0 then (some (0, σ7)) else (if p2 < 1 then (some (0, σ7)) else (if p2 ≤ 8 then (if p3 < 0 then (some (0, σ7)) else (if p3 ≤ 1 then (some (1, σ7)) else (some (0, σ7)))) else (some (0, σ7)))))
theorem t_X6_areFitting {L n d : Nat} {Q : am_Post} {p0 : Int} {p1 : Int} {p2 : Int} {p3 : Int} {σ σr : am_Mem} {rr : Int} (hd : 1 < d) (h : f_X6_areFitting n p0 p1 p2 p3 σ = some (rr, σr)) (hQ : Q (some (am_i rr)) (rm_h L σr)) : xs_aw d me_X6_areFitting [am_i p0, am_i p1, am_i p2, am_i p3] (rm_h L σ) Q := by
  obtain ⟨d, rfl⟩ : ∃ k, d = k + 1 := ⟨d - 1, by omega⟩
  have hd : 1 ≤ d := by omega
  unfold f_X6_areFitting at h
  show xs_AW (xs_aw d) me_X6_areFitting Q 0 [some (am_i p0), some (am_i p1), some (am_i p2), some (am_i p3)] [] (rm_h L σ)
  refine rr_iload_n dX6_areFitting_0 rfl ?_
  obtain ⟨r2, σ3, e1, h⟩ := ab_2 h
  refine rr_Si (as := [am_i p0]) (rest := []) dX6_areFitting_1 ml_6_65 (Or.inl rfl) rfl rfl (Nat.le_of_ble_eq_true rfl) ⟨rfl, rfl⟩ (Nat.le_of_ble_eq_true rfl) (fun _ k => t_X2_isRow (by omega) e1 k) ?_
  rcases ab_i h with ⟨c4, h⟩ | ⟨c4, h⟩
  · refine rr_if_eq_p (t := 38) dX6_areFitting_4 (by decide) c4 ?_
    refine rr_iconst dX6_areFitting_38 (by decide) ?_
    obtain ⟨rfl, rfl⟩ := ab_r2 h
    exact rr_zret dX6_areFitting_39 rfl (Or.inl rfl) hQ
  · refine rr_if_eq_n (t := 38) dX6_areFitting_4 (by decide) c4 ?_
    refine rr_iload_n dX6_areFitting_7 rfl ?_
    obtain ⟨r6, σ7, e5, h⟩ := ab_2 h
    refine rr_Si (as := [am_i p1]) (rest := []) dX6_areFitting_8 ml_6_65 (Or.inl rfl) rfl rfl (Nat.le_of_ble_eq_true rfl) ⟨rfl, rfl⟩ (Nat.le_of_ble_eq_true rfl) (fun _ k => t_X2_isRow (by omega) e5 k) ?_
    rcases ab_i h with ⟨c8, h⟩ | ⟨c8, h⟩
    · refine rr_if_eq_p (t := 38) dX6_areFitting_11 (by decide) c8 ?_
      refine rr_iconst dX6_areFitting_38 (by decide) ?_
      obtain ⟨rfl, rfl⟩ := ab_r2 h
      exact rr_zret dX6_areFitting_39 rfl (Or.inl rfl) hQ
    · refine rr_if_eq_n (t := 38) dX6_areFitting_11 (by decide) c8 ?_
      refine rr_iload_n dX6_areFitting_14 rfl ?_
      refine rr_iconst dX6_areFitting_15 (by decide) ?_
      rcases ab_i h with ⟨c9, h⟩ | ⟨c9, h⟩
      · refine rr_icmp_lt_p (t := 38) dX6_areFitting_16 (by decide) c9 ?_
        refine rr_iconst dX6_areFitting_38 (by decide) ?_
        obtain ⟨rfl, rfl⟩ := ab_r2 h
        exact rr_zret dX6_areFitting_39 rfl (Or.inl rfl) hQ
      · refine rr_icmp_lt_n (t := 38) dX6_areFitting_16 (by decide) c9 ?_
        refine rr_iload_n dX6_areFitting_19 rfl ?_
        refine rr_bipush dX6_areFitting_20 (by decide) ?_
        rcases ab_i h with ⟨c10, h⟩ | ⟨c10, h⟩
        · refine rr_icmp_gt_p (t := 38) dX6_areFitting_22 (by decide) c10 ?_
          refine rr_iload_n dX6_areFitting_25 rfl ?_
          rcases ab_i h with ⟨c11, h⟩ | ⟨c11, h⟩
          · refine rr_if_lt_p (t := 38) dX6_areFitting_26 (by decide) c11 ?_
            refine rr_iconst dX6_areFitting_38 (by decide) ?_
            obtain ⟨rfl, rfl⟩ := ab_r2 h
            exact rr_zret dX6_areFitting_39 rfl (Or.inl rfl) hQ
          · refine rr_if_lt_n (t := 38) dX6_areFitting_26 (by decide) c11 ?_
            refine rr_iload_n dX6_areFitting_29 rfl ?_
            refine rr_iconst dX6_areFitting_30 (by decide) ?_
            rcases ab_i h with ⟨c12, h⟩ | ⟨c12, h⟩
            · refine rr_icmp_gt_p (t := 38) dX6_areFitting_31 (by decide) c12 ?_
              refine rr_iconst dX6_areFitting_34 (by decide) ?_
              refine rr_goto (t := 39) dX6_areFitting_35 (by decide) ?_
              obtain ⟨rfl, rfl⟩ := ab_r2 h
              exact rr_zret dX6_areFitting_39 rfl (Or.inr rfl) hQ
            · refine rr_icmp_gt_n (t := 38) dX6_areFitting_31 (by decide) c12 ?_
              refine rr_iconst dX6_areFitting_38 (by decide) ?_
              obtain ⟨rfl, rfl⟩ := ab_r2 h
              exact rr_zret dX6_areFitting_39 rfl (Or.inl rfl) hQ
        · refine rr_icmp_gt_n (t := 38) dX6_areFitting_22 (by decide) c10 ?_
          refine rr_iconst dX6_areFitting_38 (by decide) ?_
          obtain ⟨rfl, rfl⟩ := ab_r2 h
          exact rr_zret dX6_areFitting_39 rfl (Or.inl rfl) hQ
theorem u_X6_areFitting {n : Nat} {p0 : Int} {p1 : Int} {p2 : Int} {p3 : Int} {σ σr : am_Mem} {rr : Int} (h : f_X6_areFitting n p0 p1 p2 p3 σ = some (rr, σr)) : σr = σ := by
  unfold f_X6_areFitting at h
  have fr : σ = σ := rfl
  obtain ⟨r2, σ3, e1, h⟩ := ab_2 h
  have fr := (u_X2_isRow e1).trans fr
  rcases ab_i h with ⟨c4, h⟩ | ⟨c4, h⟩
  · obtain ⟨q1, q2⟩ := ab_r2 h
    exact q2.symm.trans fr
  · obtain ⟨r6, σ7, e5, h⟩ := ab_2 h
    have fr := (u_X2_isRow e5).trans fr
    rcases ab_i h with ⟨c8, h⟩ | ⟨c8, h⟩
    · obtain ⟨q1, q2⟩ := ab_r2 h
      exact q2.symm.trans fr
    · rcases ab_i h with ⟨c9, h⟩ | ⟨c9, h⟩
      · obtain ⟨q1, q2⟩ := ab_r2 h
        exact q2.symm.trans fr
      · rcases ab_i h with ⟨c10, h⟩ | ⟨c10, h⟩
        · rcases ab_i h with ⟨c11, h⟩ | ⟨c11, h⟩
          · obtain ⟨q1, q2⟩ := ab_r2 h
            exact q2.symm.trans fr
          · rcases ab_i h with ⟨c12, h⟩ | ⟨c12, h⟩
            · obtain ⟨q1, q2⟩ := ab_r2 h
              exact q2.symm.trans fr
            · obtain ⟨q1, q2⟩ := ab_r2 h
              exact q2.symm.trans fr
        · obtain ⟨q1, q2⟩ := ab_r2 h
          exact q2.symm.trans fr
/-! MoodFare.findingOfTwo -/
def f_X6_findingOfTwo (n : Nat) (p1 : Int) (p2 : Int) (p3 : Int) (p4 : Int) (p5 : Int) (σ : am_Mem) : Option (Int × am_Mem) :=
  am_b2 (f_X2_findingOf n p1 p2 p5 σ) fun r2 σ3 => if r2 = 0 then (am_b2 (f_X2_findingOf n p3 p4 p5 σ3) fun r6 σ7 => some (r6, σ7)) else (some (r2, σ3))
theorem t_X6_findingOfTwo {L n d : Nat} {Q : am_Post} {p1 : Int} {p2 : Int} {p3 : Int} {p4 : Int} {p5 : Int} {σ σr : am_Mem} {rr : Int} (hd : 2 < d) (h : f_X6_findingOfTwo n p1 p2 p3 p4 p5 σ = some (rr, σr)) (hQ : Q (some (am_i rr)) (rm_h L σr)) : xs_aw d me_X6_findingOfTwo [am_r 3, am_i p1, am_i p2, am_i p3, am_i p4, am_i p5] (rm_h L σ) Q := by
  obtain ⟨d, rfl⟩ : ∃ k, d = k + 1 := ⟨d - 1, by omega⟩
  have hd : 2 ≤ d := by omega
  unfold f_X6_findingOfTwo at h
  show xs_AW (xs_aw d) me_X6_findingOfTwo Q 0 [some (am_r 3), some (am_i p1), some (am_i p2), some (am_i p3), some (am_i p4), some (am_i p5), none] [] (rm_h L σ)
  refine rr_aload_n dX6_findingOfTwo_0 rfl ?_
  refine rr_getr (t := 4) dX6_findingOfTwo_1 fl_6_10 (sh_3 L) ⟨(by decide), by decide⟩ rfl rfl ?_
  refine rr_iload_n dX6_findingOfTwo_4 rfl ?_
  refine rr_iload_n dX6_findingOfTwo_5 rfl ?_
  refine rr_iload dX6_findingOfTwo_6 rfl ?_
  obtain ⟨r2, σ3, e1, h⟩ := ab_2 h
  refine rr_Vi (as := [am_i p1, am_i p2, am_i p5]) (rest := []) dX6_findingOfTwo_8 ml_6_81 (sh_4 L) ⟨(by decide), by decide, by decide⟩ rfl rfl rfl (Nat.le_of_ble_eq_true rfl) ⟨rfl, rfl⟩ (Nat.le_of_ble_eq_true rfl) (fun _ k => t_X2_findingOf (by omega) e1 k) ?_
  refine rr_istore (ls' := [some (am_r 3), some (am_i p1), some (am_i p2), some (am_i p3), some (am_i p4), some (am_i p5), some (am_i r2)]) dX6_findingOfTwo_11 (Nat.le_of_ble_eq_true rfl) rfl ?_
  refine rr_iload dX6_findingOfTwo_13 rfl ?_
  rcases ab_i h with ⟨c4, h⟩ | ⟨c4, h⟩
  · refine rr_if_eq_p (t := 23) dX6_findingOfTwo_15 (by decide) c4 ?_
    refine rr_aload_n dX6_findingOfTwo_23 rfl ?_
    refine rr_getr (t := 4) dX6_findingOfTwo_24 fl_6_10 (sh_3 L) ⟨(by decide), by decide⟩ rfl rfl ?_
    refine rr_iload_n dX6_findingOfTwo_27 rfl ?_
    refine rr_iload dX6_findingOfTwo_28 rfl ?_
    refine rr_iload dX6_findingOfTwo_30 rfl ?_
    obtain ⟨r6, σ7, e5, h⟩ := ab_2 h
    refine rr_Vi (as := [am_i p3, am_i p4, am_i p5]) (rest := []) dX6_findingOfTwo_32 ml_6_81 (sh_4 L) ⟨(by decide), by decide, by decide⟩ rfl rfl rfl (Nat.le_of_ble_eq_true rfl) ⟨rfl, rfl⟩ (Nat.le_of_ble_eq_true rfl) (fun _ k => t_X2_findingOf (by omega) e5 k) ?_
    obtain ⟨rfl, rfl⟩ := ab_r2 h
    exact rr_iret dX6_findingOfTwo_35 rfl hQ
  · refine rr_if_eq_n (t := 23) dX6_findingOfTwo_15 (by decide) c4 ?_
    refine rr_iload dX6_findingOfTwo_18 rfl ?_
    refine rr_goto (t := 35) dX6_findingOfTwo_20 (by decide) ?_
    obtain ⟨rfl, rfl⟩ := ab_r2 h
    exact rr_iret dX6_findingOfTwo_35 rfl hQ
theorem u_X6_findingOfTwo {n : Nat} {p1 : Int} {p2 : Int} {p3 : Int} {p4 : Int} {p5 : Int} {σ σr : am_Mem} {rr : Int} (h : f_X6_findingOfTwo n p1 p2 p3 p4 p5 σ = some (rr, σr)) : σr = σ := by
  unfold f_X6_findingOfTwo at h
  have fr : σ = σ := rfl
  obtain ⟨r2, σ3, e1, h⟩ := ab_2 h
  have fr := (u_X2_findingOf e1).trans fr
  rcases ab_i h with ⟨c4, h⟩ | ⟨c4, h⟩
  · obtain ⟨r6, σ7, e5, h⟩ := ab_2 h
    have fr := (u_X2_findingOf e5).trans fr
    obtain ⟨q1, q2⟩ := ab_r2 h
    exact q2.symm.trans fr
  · obtain ⟨q1, q2⟩ := ab_r2 h
    exact q2.symm.trans fr
/-! MoodFare.isSo -/
def fb_X6_isSo_3 (n : Nat) (kh3 : Int → Int → Int → Int → Int → Int → am_Mem → Option (Int × am_Mem)) (x1 : Int) (x2 : Int) (x3 : Int) (x4 : Int) (x5 : Int) (x6 : Int) (σ : am_Mem) : Option (Int × am_Mem) :=
  if x6 < x5 then (if (0 : Int) ≤ x3 ∧ x3 < 8 then if (0 : Int) ≤ am_w (x4 + x6) ∧ am_w (x4 + x6) < 40 then am_b2 (f_X5_leads n 24 (σ (8 + (x3).toNat) (am_w (x4 + x6))) σ) fun r5 σ6 => if r5 = 0 then (some (0, σ6)) else (am_b2 (f_X5_costBy n 24 (σ (8 + (x3).toNat) (am_w (x4 + x6))) σ6) fun r9 σ10 => if (0 : Int) ≤ x1 ∧ x1 < 8 then if (0 : Int) ≤ am_w (x2 + x6) ∧ am_w (x2 + x6) < 40 then if r9 = σ10 (8 + (x1).toNat) (am_w (x2 + x6)) then (am_b1 (f_X5_goBy n 24 (σ (8 + (x3).toNat) (am_w (x4 + x6))) σ10) fun σ16 => kh3 x1 x2 x3 x4 x5 (am_w (x6 + 1)) σ16) else (some (0, σ10)) else none else none) else none else none) else (some (1, σ))
def fl_X6_isSo_3 (n : Nat) : Nat → Int → Int → Int → Int → Int → Int → am_Mem → Option (Int × am_Mem)
  | 0, _, _, _, _, _, _, _ => none
  | m + 1, x1, x2, x3, x4, x5, x6, σ => fb_X6_isSo_3 n (fun yx1 yx2 yx3 yx4 yx5 yx6 σ => fl_X6_isSo_3 n m yx1 yx2 yx3 yx4 yx5 yx6 σ) x1 x2 x3 x4 x5 x6 σ
def f_X6_isSo (n : Nat) (p1 : Int) (p2 : Int) (p3 : Int) (p4 : Int) (p5 : Int) (σ : am_Mem) : Option (Int × am_Mem) :=
  fl_X6_isSo_3 n n p1 p2 p3 p4 p5 0 σ
theorem tb_X6_isSo_3 {L n d : Nat} {Q : am_Post} {kh3 : Int → Int → Int → Int → Int → Int → am_Mem → Option (Int × am_Mem)} {x1 : Int} {x2 : Int} {x3 : Int} {x4 : Int} {x5 : Int} {x6 : Int} {o7 : Option am_V} {σ σr : am_Mem} {rr : Int} (hd : 4 ≤ d) (hk3 : ∀ (y1 : Int) (y2 : Int) (y3 : Int) (y4 : Int) (y5 : Int) (y6 : Int) (σ : am_Mem), kh3 y1 y2 y3 y4 y5 y6 σ = some (rr, σr) → ∀ (o7 : Option am_V), xs_AW (xs_aw d) me_X6_isSo Q 3 [some (am_r 3), some (am_i y1), some (am_i y2), some (am_i y3), some (am_i y4), some (am_i y5), some (am_i y6), o7] [] (rm_h L σ)) (hQ : Q (some (am_i rr)) (rm_h L σr)) (h : fb_X6_isSo_3 n kh3 x1 x2 x3 x4 x5 x6 σ = some (rr, σr)) : xs_AW (xs_aw d) me_X6_isSo Q 3 [some (am_r 3), some (am_i x1), some (am_i x2), some (am_i x3), some (am_i x4), some (am_i x5), some (am_i x6), o7] [] (rm_h L σ) := by
  unfold fb_X6_isSo_3 at h
  refine rr_iload dX6_isSo_3 rfl ?_
  refine rr_iload dX6_isSo_5 rfl ?_
  rcases ab_i h with ⟨c1, h⟩ | ⟨c1, h⟩
  · refine rr_icmp_ge_p (t := 82) dX6_isSo_7 (by decide) c1 ?_
    refine rr_aload_n dX6_isSo_10 rfl ?_
    refine rr_getr (t := 4) dX6_isSo_11 fl_6_10 (sh_3 L) ⟨(by decide), by decide⟩ rfl rfl ?_
    refine rr_getr (t := 7) dX6_isSo_14 fl_6_301 (sh_4 L) ⟨(by decide), by decide⟩ rfl rfl ?_
    refine rr_iload_n dX6_isSo_17 rfl ?_
    obtain ⟨g2, h⟩ := ab_g h
    refine rr_aald (nz := 8) (t := (8 + (x3).toNat)) dX6_isSo_18 (sh_7 L) ⟨(by decide), Or.inr rfl⟩ rfl g2 (er_7 g2) ?_
    refine rr_iload dX6_isSo_19 rfl ?_
    refine rr_iload dX6_isSo_21 rfl ?_
    refine rr_iadd dX6_isSo_23 ?_
    obtain ⟨g3, h⟩ := ab_g h
    refine rr_iald (nz := 40) dX6_isSo_24 (el_7 g2 L) rfl g3 ?_
    refine rr_istore (ls' := [some (am_r 3), some (am_i x1), some (am_i x2), some (am_i x3), some (am_i x4), some (am_i x5), some (am_i x6), some (am_i (σ (8 + (x3).toNat) (am_w (x4 + x6))))]) dX6_isSo_25 (Nat.le_of_ble_eq_true rfl) rfl ?_
    refine rr_aload_n dX6_isSo_27 rfl ?_
    refine rr_getr (t := 24) dX6_isSo_28 fl_6_30 (sh_3 L) ⟨(by decide), by decide⟩ rfl rfl ?_
    refine rr_iload dX6_isSo_31 rfl ?_
    obtain ⟨r5, σ6, e4, h⟩ := ab_2 h
    refine rr_Vi (as := [am_i (σ (8 + (x3).toNat) (am_w (x4 + x6)))]) (rest := []) dX6_isSo_33 ml_6_132 (sh_24 L) ⟨(by decide), by decide, by decide⟩ rfl rfl rfl (Nat.le_of_ble_eq_true rfl) ⟨rfl, rfl⟩ (Nat.le_of_ble_eq_true rfl) (fun _ k => t_X5_leads (by omega) tw_24 e4 k) ?_
    rcases ab_i h with ⟨c7, h⟩ | ⟨c7, h⟩
    · refine rr_if_eq_p (t := 65) dX6_isSo_36 (by decide) c7 ?_
      refine rr_iconst dX6_isSo_65 (by decide) ?_
      obtain ⟨rfl, rfl⟩ := ab_r2 h
      exact rr_zret dX6_isSo_66 rfl (Or.inl rfl) hQ
    · refine rr_if_eq_n (t := 65) dX6_isSo_36 (by decide) c7 ?_
      refine rr_aload_n dX6_isSo_39 rfl ?_
      refine rr_getr (t := 24) dX6_isSo_40 fl_6_30 (sh_3 L) ⟨(by decide), by decide⟩ rfl rfl ?_
      refine rr_iload dX6_isSo_43 rfl ?_
      obtain ⟨r9, σ10, e8, h⟩ := ab_2 h
      refine rr_Vi (as := [am_i (σ (8 + (x3).toNat) (am_w (x4 + x6)))]) (rest := []) dX6_isSo_45 ml_6_202 (sh_24 L) ⟨(by decide), by decide, by decide⟩ rfl rfl rfl (Nat.le_of_ble_eq_true rfl) ⟨rfl, rfl⟩ (Nat.le_of_ble_eq_true rfl) (fun _ k => t_X5_costBy (by omega) tw_24 e8 k) ?_
      refine rr_aload_n dX6_isSo_48 rfl ?_
      refine rr_getr (t := 4) dX6_isSo_49 fl_6_10 (sh_3 L) ⟨(by decide), by decide⟩ rfl rfl ?_
      refine rr_getr (t := 7) dX6_isSo_52 fl_6_301 (sh_4 L) ⟨(by decide), by decide⟩ rfl rfl ?_
      refine rr_iload_n dX6_isSo_55 rfl ?_
      obtain ⟨g11, h⟩ := ab_g h
      refine rr_aald (nz := 8) (t := (8 + (x1).toNat)) dX6_isSo_56 (sh_7 L) ⟨(by decide), Or.inr rfl⟩ rfl g11 (er_7 g11) ?_
      refine rr_iload_n dX6_isSo_57 rfl ?_
      refine rr_iload dX6_isSo_58 rfl ?_
      refine rr_iadd dX6_isSo_60 ?_
      obtain ⟨g12, h⟩ := ab_g h
      refine rr_iald (nz := 40) dX6_isSo_61 (el_7 g11 L) rfl g12 ?_
      rcases ab_i h with ⟨c13, h⟩ | ⟨c13, h⟩
      · refine rr_icmp_eq_p (t := 67) dX6_isSo_62 (by decide) c13 ?_
        refine rr_aload_n dX6_isSo_67 rfl ?_
        refine rr_getr (t := 24) dX6_isSo_68 fl_6_30 (sh_3 L) ⟨(by decide), by decide⟩ rfl rfl ?_
        refine rr_iload dX6_isSo_71 rfl ?_
        obtain ⟨σ16, e14, h⟩ := ab_1 h
        refine rr_Vv (as := [am_i (σ (8 + (x3).toNat) (am_w (x4 + x6)))]) (rest := []) dX6_isSo_73 ml_6_152 (sh_24 L) ⟨(by decide), by decide, by decide⟩ rfl rfl rfl (Nat.le_of_ble_eq_true rfl) ⟨rfl, rfl⟩ (Nat.le_of_ble_eq_true rfl) (fun _ k => t_X5_goBy (by omega) tw_24 e14 k) ?_
        refine rr_iinc (ls' := [some (am_r 3), some (am_i x1), some (am_i x2), some (am_i x3), some (am_i x4), some (am_i x5), some (am_i (am_w (x6 + 1))), some (am_i (σ (8 + (x3).toNat) (am_w (x4 + x6))))]) dX6_isSo_76 rfl (Nat.le_of_ble_eq_true rfl) rfl ?_
        refine rr_goto (t := 3) dX6_isSo_79 (by decide) ?_
        exact hk3 _ _ _ _ _ _ _ h _
      · refine rr_icmp_eq_n (t := 67) dX6_isSo_62 (by decide) c13 ?_
        refine rr_iconst dX6_isSo_65 (by decide) ?_
        obtain ⟨rfl, rfl⟩ := ab_r2 h
        exact rr_zret dX6_isSo_66 rfl (Or.inl rfl) hQ
  · refine rr_icmp_ge_n (t := 82) dX6_isSo_7 (by decide) c1 ?_
    refine rr_iconst dX6_isSo_82 (by decide) ?_
    obtain ⟨rfl, rfl⟩ := ab_r2 h
    exact rr_zret dX6_isSo_83 rfl (Or.inr rfl) hQ
theorem tl_X6_isSo_3 {L n d : Nat} {Q : am_Post} {σr : am_Mem} {rr : Int} (hd : 4 ≤ d) (hQ : Q (some (am_i rr)) (rm_h L σr)) : ∀ (m : Nat) (x1 : Int) (x2 : Int) (x3 : Int) (x4 : Int) (x5 : Int) (x6 : Int) (σ : am_Mem) (o7 : Option am_V), fl_X6_isSo_3 n m x1 x2 x3 x4 x5 x6 σ = some (rr, σr) → xs_AW (xs_aw d) me_X6_isSo Q 3 [some (am_r 3), some (am_i x1), some (am_i x2), some (am_i x3), some (am_i x4), some (am_i x5), some (am_i x6), o7] [] (rm_h L σ) := by
  intro m
  induction m with
  | zero => intro x1 x2 x3 x4 x5 x6 σ o7 h; cases h
  | succ m ih =>
    intro x1 x2 x3 x4 x5 x6 σ o7 h
    exact tb_X6_isSo_3 hd (fun x1 x2 x3 x4 x5 x6 σ h o7 => ih x1 x2 x3 x4 x5 x6 σ o7 h) hQ h
theorem t_X6_isSo {L n d : Nat} {Q : am_Post} {p1 : Int} {p2 : Int} {p3 : Int} {p4 : Int} {p5 : Int} {σ σr : am_Mem} {rr : Int} (hd : 4 < d) (h : f_X6_isSo n p1 p2 p3 p4 p5 σ = some (rr, σr)) (hQ : Q (some (am_i rr)) (rm_h L σr)) : xs_aw d me_X6_isSo [am_r 3, am_i p1, am_i p2, am_i p3, am_i p4, am_i p5] (rm_h L σ) Q := by
  obtain ⟨d, rfl⟩ : ∃ k, d = k + 1 := ⟨d - 1, by omega⟩
  have hd : 4 ≤ d := by omega
  unfold f_X6_isSo at h
  show xs_AW (xs_aw d) me_X6_isSo Q 0 [some (am_r 3), some (am_i p1), some (am_i p2), some (am_i p3), some (am_i p4), some (am_i p5), none, none] [] (rm_h L σ)
  refine rr_iconst dX6_isSo_0 (by decide) ?_
  refine rr_istore (ls' := [some (am_r 3), some (am_i p1), some (am_i p2), some (am_i p3), some (am_i p4), some (am_i p5), some (am_i 0), none]) dX6_isSo_1 (Nat.le_of_ble_eq_true rfl) rfl ?_
  exact tl_X6_isSo_3 hd hQ n _ _ _ _ _ _ _ _ h
def nw_X6_isSo (a : Nat) : Prop := a ≠ 24
theorem wb_X6_isSo_3 {n : Nat} {kh3 : Int → Int → Int → Int → Int → Int → am_Mem → Option (Int × am_Mem)} {x1 : Int} {x2 : Int} {x3 : Int} {x4 : Int} {x5 : Int} {x6 : Int} {σ σr : am_Mem} {rr : Int} (hk3 : ∀ (y1 : Int) (y2 : Int) (y3 : Int) (y4 : Int) (y5 : Int) (y6 : Int) (σ : am_Mem), kh3 y1 y2 y3 y4 y5 y6 σ = some (rr, σr) → ∀ a : Nat, nw_X6_isSo a → σr a = σ a) (h : fb_X6_isSo_3 n kh3 x1 x2 x3 x4 x5 x6 σ = some (rr, σr)) : ∀ a : Nat, nw_X6_isSo a → σr a = σ a := by
  unfold fb_X6_isSo_3 at h
  have fr : ∀ a : Nat, nw_X6_isSo a → σ a = σ a := fun _ _ => rfl
  rcases ab_i h with ⟨c1, h⟩ | ⟨c1, h⟩
  · obtain ⟨g2, h⟩ := ab_g h
    obtain ⟨g3, h⟩ := ab_g h
    obtain ⟨r5, σ6, e4, h⟩ := ab_2 h
    have fr := fun (a : Nat) (ha : nw_X6_isSo a) => (congrFun (u_X5_leads e4) a).trans (fr a ha)
    rcases ab_i h with ⟨c7, h⟩ | ⟨c7, h⟩
    · obtain ⟨q1, q2⟩ := ab_r2 h
      exact fun a ha => (congrFun q2.symm a).trans (fr a ha)
    · obtain ⟨r9, σ10, e8, h⟩ := ab_2 h
      have fr := fun (a : Nat) (ha : nw_X6_isSo a) => (congrFun (u_X5_costBy e8) a).trans (fr a ha)
      obtain ⟨g11, h⟩ := ab_g h
      obtain ⟨g12, h⟩ := ab_g h
      rcases ab_i h with ⟨c13, h⟩ | ⟨c13, h⟩
      · obtain ⟨σ16, e14, h⟩ := ab_1 h
        have fr := fun (a : Nat) (ha : nw_X6_isSo a) => (w_X5_goBy e14 a (by unfold nw_X6_isSo at ha; unfold nw_X5_goBy; omega)).trans (fr a ha)
        exact fun a ha => (hk3 _ _ _ _ _ _ _ h a ha).trans (fr a ha)
      · obtain ⟨q1, q2⟩ := ab_r2 h
        exact fun a ha => (congrFun q2.symm a).trans (fr a ha)
  · obtain ⟨q1, q2⟩ := ab_r2 h
    exact fun a ha => (congrFun q2.symm a).trans (fr a ha)
theorem wl_X6_isSo_3 {n : Nat} {σr : am_Mem} {rr : Int} : ∀ (m : Nat) (x1 : Int) (x2 : Int) (x3 : Int) (x4 : Int) (x5 : Int) (x6 : Int) (σ : am_Mem), fl_X6_isSo_3 n m x1 x2 x3 x4 x5 x6 σ = some (rr, σr) → ∀ a : Nat, nw_X6_isSo a → σr a = σ a := by
  intro m
  induction m with
  | zero => intro x1 x2 x3 x4 x5 x6 σ h; cases h
  | succ m ih =>
    intro x1 x2 x3 x4 x5 x6 σ h
    exact wb_X6_isSo_3 (fun x1 x2 x3 x4 x5 x6 σ h => ih x1 x2 x3 x4 x5 x6 σ h) h
theorem w_X6_isSo {n : Nat} {p1 : Int} {p2 : Int} {p3 : Int} {p4 : Int} {p5 : Int} {σ σr : am_Mem} {rr : Int} (h : f_X6_isSo n p1 p2 p3 p4 p5 σ = some (rr, σr)) : ∀ a : Nat, nw_X6_isSo a → σr a = σ a := by
  unfold f_X6_isSo at h
  have fr : ∀ a : Nat, nw_X6_isSo a → σ a = σ a := fun _ _ => rfl
  exact fun a ha => (wl_X6_isSo_3 n _ _ _ _ _ _ _ h a ha).trans (fr a ha)
/-! MoodFare.fits -/
def fb_X6_fits_130 (n : Nat) (kh86 : Int → Int → Int → Int → Int → Int → Int → Int → Int → am_Mem → Option (Int × am_Mem)) (x1 : Int) (x2 : Int) (x3 : Int) (x4 : Int) (x5 : Int) (x6 : Int) (x8 : Int) (x10 : Int) (x11 : Int) (σ : am_Mem) : Option (Int × am_Mem) :=
  am_b2 (f_X6_isSo n x1 x2 x3 x4 x5 σ) fun r23 σ24 => if r23 = 0 then (kh86 x1 x2 x3 x4 x5 x6 x8 x10 (am_w (x11 + 1)) σ24) else (kh86 x1 x2 x3 x4 x5 x6 (am_or x8 (am_shl 1 x11)) x10 (am_w (x11 + 1)) σ24)
def fb_X6_fits_86 (n : Nat) (kh86 : Int → Int → Int → Int → Int → Int → Int → Int → Int → am_Mem → Option (Int × am_Mem)) (x1 : Int) (x2 : Int) (x3 : Int) (x4 : Int) (x5 : Int) (x6 : Int) (x8 : Int) (x10 : Int) (x11 : Int) (σ : am_Mem) : Option (Int × am_Mem) :=
  if x11 ≤ x10 then (am_b1 (f_X5_become n 24 18 σ) fun σ18 => if x6 = 0 then (am_b1 (some (am_up σ18 24 10 x11)) fun σ20 => fb_X6_fits_130 n kh86 x1 x2 x3 x4 x5 x6 x8 x10 x11 σ20) else (am_b1 (some (am_up σ18 24 7 x11)) fun σ26 => fb_X6_fits_130 n kh86 x1 x2 x3 x4 x5 x6 x8 x10 x11 σ26)) else (am_b2 (f_X6_unfound n x8 σ) fun r29 σ30 => some (r29, σ30))
def fl_X6_fits_86 (n : Nat) : Nat → Int → Int → Int → Int → Int → Int → Int → Int → Int → am_Mem → Option (Int × am_Mem)
  | 0, _, _, _, _, _, _, _, _, _, _ => none
  | m + 1, x1, x2, x3, x4, x5, x6, x8, x10, x11, σ => fb_X6_fits_86 n (fun yx1 yx2 yx3 yx4 yx5 yx6 yx8 yx10 yx11 σ => fl_X6_fits_86 n m yx1 yx2 yx3 yx4 yx5 yx6 yx8 yx10 yx11 σ) x1 x2 x3 x4 x5 x6 x8 x10 x11 σ
def f_X6_fits (n : Nat) (p1 : Int) (p2 : Int) (p3 : Int) (p4 : Int) (p5 : Int) (p6 : Int) (σ : am_Mem) : Option (Int × am_Mem) :=
  am_b2 (f_X5_stands n 18 σ) fun r2 σ3 => if r2 = 0 then (some ((-1000002), σ3)) else (am_b2 (f_X6_areFitting n p1 p3 p5 p6 σ3) fun r6 σ7 => if r6 = 0 then (some ((-1000001), σ7)) else (am_b2 (f_X6_findingOfTwo n p1 p2 p3 p4 p5 σ7) fun r10 σ11 => if r10 = 0 then (if p6 = 0 then (if p6 = 0 then (fl_X6_fits_86 n n p1 p2 p3 p4 p5 p6 0 9 0 σ11) else (fl_X6_fits_86 n n p1 p2 p3 p4 p5 p6 0 9 0 σ11)) else (if p6 = 0 then (fl_X6_fits_86 n n p1 p2 p3 p4 p5 p6 0 9 1 σ11) else (fl_X6_fits_86 n n p1 p2 p3 p4 p5 p6 0 9 1 σ11))) else (am_b2 (f_X6_found n r10 σ11) fun r33 σ34 => some (r33, σ34))))
theorem tb_X6_fits_130 {L n d : Nat} {Q : am_Post} {kh86 : Int → Int → Int → Int → Int → Int → Int → Int → Int → am_Mem → Option (Int × am_Mem)} {x1 : Int} {x2 : Int} {x3 : Int} {x4 : Int} {x5 : Int} {x6 : Int} {x8 : Int} {x10 : Int} {x11 : Int} {o7 : Int} {o9 : Int} {σ σr : am_Mem} {rr : Int} (hd : 5 ≤ d) (hk86 : ∀ (y1 : Int) (y2 : Int) (y3 : Int) (y4 : Int) (y5 : Int) (y6 : Int) (y8 : Int) (y10 : Int) (y11 : Int) (σ : am_Mem), kh86 y1 y2 y3 y4 y5 y6 y8 y10 y11 σ = some (rr, σr) → ∀ (o7 : Int) (o9 : Int), xs_AW (xs_aw d) me_X6_fits Q 86 [some (am_r 3), some (am_i y1), some (am_i y2), some (am_i y3), some (am_i y4), some (am_i y5), some (am_i y6), some (am_i o7), some (am_i y8), some (am_i o9), some (am_i y10), some (am_i y11)] [] (rm_h L σ)) (hQ : Q (some (am_i rr)) (rm_h L σr)) (h : fb_X6_fits_130 n kh86 x1 x2 x3 x4 x5 x6 x8 x10 x11 σ = some (rr, σr)) : xs_AW (xs_aw d) me_X6_fits Q 130 [some (am_r 3), some (am_i x1), some (am_i x2), some (am_i x3), some (am_i x4), some (am_i x5), some (am_i x6), some (am_i o7), some (am_i x8), some (am_i o9), some (am_i x10), some (am_i x11)] [] (rm_h L σ) := by
  unfold fb_X6_fits_130 at h
  refine rr_aload_n dX6_fits_130 rfl ?_
  refine rr_iload_n dX6_fits_131 rfl ?_
  refine rr_iload_n dX6_fits_132 rfl ?_
  refine rr_iload_n dX6_fits_133 rfl ?_
  refine rr_iload dX6_fits_134 rfl ?_
  refine rr_iload dX6_fits_136 rfl ?_
  obtain ⟨r23, σ24, e22, h⟩ := ab_2 h
  refine rr_Vi (as := [am_i x1, am_i x2, am_i x3, am_i x4, am_i x5]) (rest := []) dX6_fits_138 ml_6_236 (sh_3 L) ⟨(by decide), by decide, by decide⟩ rfl rfl rfl (Nat.le_of_ble_eq_true rfl) ⟨rfl, rfl⟩ (Nat.le_of_ble_eq_true rfl) (fun _ k => t_X6_isSo (by omega) e22 k) ?_
  rcases ab_i h with ⟨c25, h⟩ | ⟨c25, h⟩
  · refine rr_if_eq_p (t := 153) dX6_fits_141 (by decide) c25 ?_
    refine rr_iinc (ls' := [some (am_r 3), some (am_i x1), some (am_i x2), some (am_i x3), some (am_i x4), some (am_i x5), some (am_i x6), some (am_i o7), some (am_i x8), some (am_i o9), some (am_i x10), some (am_i (am_w (x11 + 1)))]) dX6_fits_153 rfl (Nat.le_of_ble_eq_true rfl) rfl ?_
    refine rr_goto (t := 86) dX6_fits_156 (by decide) ?_
    exact hk86 _ _ _ _ _ _ _ _ _ _ h _ _
  · refine rr_if_eq_n (t := 153) dX6_fits_141 (by decide) c25 ?_
    refine rr_iload dX6_fits_144 rfl ?_
    refine rr_iconst dX6_fits_146 (by decide) ?_
    refine rr_iload dX6_fits_147 rfl ?_
    refine rr_ishl dX6_fits_149 ?_
    refine rr_ior dX6_fits_150 ?_
    refine rr_istore (ls' := [some (am_r 3), some (am_i x1), some (am_i x2), some (am_i x3), some (am_i x4), some (am_i x5), some (am_i x6), some (am_i o7), some (am_i (am_or x8 (am_shl 1 x11))), some (am_i o9), some (am_i x10), some (am_i x11)]) dX6_fits_151 (Nat.le_of_ble_eq_true rfl) rfl ?_
    refine rr_iinc (ls' := [some (am_r 3), some (am_i x1), some (am_i x2), some (am_i x3), some (am_i x4), some (am_i x5), some (am_i x6), some (am_i o7), some (am_i (am_or x8 (am_shl 1 x11))), some (am_i o9), some (am_i x10), some (am_i (am_w (x11 + 1)))]) dX6_fits_153 rfl (Nat.le_of_ble_eq_true rfl) rfl ?_
    refine rr_goto (t := 86) dX6_fits_156 (by decide) ?_
    exact hk86 _ _ _ _ _ _ _ _ _ _ h _ _
theorem tb_X6_fits_86 {L n d : Nat} {Q : am_Post} {kh86 : Int → Int → Int → Int → Int → Int → Int → Int → Int → am_Mem → Option (Int × am_Mem)} {x1 : Int} {x2 : Int} {x3 : Int} {x4 : Int} {x5 : Int} {x6 : Int} {x8 : Int} {x10 : Int} {x11 : Int} {o7 : Int} {o9 : Int} {σ σr : am_Mem} {rr : Int} (hd : 5 ≤ d) (hk86 : ∀ (y1 : Int) (y2 : Int) (y3 : Int) (y4 : Int) (y5 : Int) (y6 : Int) (y8 : Int) (y10 : Int) (y11 : Int) (σ : am_Mem), kh86 y1 y2 y3 y4 y5 y6 y8 y10 y11 σ = some (rr, σr) → ∀ (o7 : Int) (o9 : Int), xs_AW (xs_aw d) me_X6_fits Q 86 [some (am_r 3), some (am_i y1), some (am_i y2), some (am_i y3), some (am_i y4), some (am_i y5), some (am_i y6), some (am_i o7), some (am_i y8), some (am_i o9), some (am_i y10), some (am_i y11)] [] (rm_h L σ)) (hQ : Q (some (am_i rr)) (rm_h L σr)) (h : fb_X6_fits_86 n kh86 x1 x2 x3 x4 x5 x6 x8 x10 x11 σ = some (rr, σr)) : xs_AW (xs_aw d) me_X6_fits Q 86 [some (am_r 3), some (am_i x1), some (am_i x2), some (am_i x3), some (am_i x4), some (am_i x5), some (am_i x6), some (am_i o7), some (am_i x8), some (am_i o9), some (am_i x10), some (am_i x11)] [] (rm_h L σ) := by
  unfold fb_X6_fits_86 at h
  refine rr_iload dX6_fits_86 rfl ?_
  refine rr_iload dX6_fits_88 rfl ?_
  rcases ab_i h with ⟨c15, h⟩ | ⟨c15, h⟩
  · refine rr_icmp_gt_p (t := 159) dX6_fits_90 (by decide) c15 ?_
    refine rr_aload_n dX6_fits_93 rfl ?_
    refine rr_getr (t := 24) dX6_fits_94 fl_6_30 (sh_3 L) ⟨(by decide), by decide⟩ rfl rfl ?_
    refine rr_aload_n dX6_fits_97 rfl ?_
    refine rr_getr (t := 18) dX6_fits_98 fl_6_26 (sh_3 L) ⟨(by decide), by decide⟩ rfl rfl ?_
    obtain ⟨σ18, e16, h⟩ := ab_1 h
    refine rr_Vv (as := [am_r 18]) (rest := []) dX6_fits_101 ml_6_119 (sh_24 L) ⟨(by decide), by decide, by decide⟩ rfl rfl rfl (Nat.le_of_ble_eq_true rfl) ⟨rfl, rfl⟩ (Nat.le_of_ble_eq_true rfl) (fun _ k => t_X5_become (by omega) tw_24 tw_18 e16 k) ?_
    refine rr_iload dX6_fits_104 rfl ?_
    rcases ab_i h with ⟨c19, h⟩ | ⟨c19, h⟩
    · refine rr_if_ne_p (t := 121) dX6_fits_106 (by decide) c19 ?_
      refine rr_aload_n dX6_fits_109 rfl ?_
      refine rr_getr (t := 24) dX6_fits_110 fl_6_30 (sh_3 L) ⟨(by decide), by decide⟩ rfl rfl ?_
      refine rr_iload dX6_fits_113 rfl ?_
      obtain ⟨σ20, e21, h⟩ := ab_1 h
      refine rr_puti (kz := 10) dX6_fits_115 fl_6_142 (sh_24 L) ⟨(by decide), by decide⟩ ⟨rfl, rfl⟩ rfl (ab_m e21 ?_)
      refine rr_goto (t := 130) dX6_fits_118 (by decide) ?_
      exact tb_X6_fits_130 hd hk86 hQ h
    · refine rr_if_ne_n (t := 121) dX6_fits_106 (by decide) c19 ?_
      refine rr_aload_n dX6_fits_121 rfl ?_
      refine rr_getr (t := 24) dX6_fits_122 fl_6_30 (sh_3 L) ⟨(by decide), by decide⟩ rfl rfl ?_
      refine rr_iload dX6_fits_125 rfl ?_
      obtain ⟨σ26, e27, h⟩ := ab_1 h
      refine rr_puti (kz := 7) dX6_fits_127 fl_6_233 (sh_24 L) ⟨(by decide), by decide⟩ ⟨rfl, rfl⟩ rfl (ab_m e27 ?_)
      exact tb_X6_fits_130 hd hk86 hQ h
  · refine rr_icmp_gt_n (t := 159) dX6_fits_90 (by decide) c15 ?_
    refine rr_aload_n dX6_fits_159 rfl ?_
    refine rr_iload dX6_fits_160 rfl ?_
    obtain ⟨r29, σ30, e28, h⟩ := ab_2 h
    refine rr_Vi (as := [am_i x8]) (rest := []) dX6_fits_162 ml_6_78 (sh_3 L) ⟨(by decide), by decide, by decide⟩ rfl rfl rfl (Nat.le_of_ble_eq_true rfl) ⟨rfl, rfl⟩ (Nat.le_of_ble_eq_true rfl) (fun _ k => t_X6_unfound (by omega) e28 k) ?_
    obtain ⟨rfl, rfl⟩ := ab_r2 h
    exact rr_iret dX6_fits_165 rfl hQ
theorem tl_X6_fits_86 {L n d : Nat} {Q : am_Post} {σr : am_Mem} {rr : Int} (hd : 5 ≤ d) (hQ : Q (some (am_i rr)) (rm_h L σr)) : ∀ (m : Nat) (x1 : Int) (x2 : Int) (x3 : Int) (x4 : Int) (x5 : Int) (x6 : Int) (x8 : Int) (x10 : Int) (x11 : Int) (σ : am_Mem) (o7 : Int) (o9 : Int), fl_X6_fits_86 n m x1 x2 x3 x4 x5 x6 x8 x10 x11 σ = some (rr, σr) → xs_AW (xs_aw d) me_X6_fits Q 86 [some (am_r 3), some (am_i x1), some (am_i x2), some (am_i x3), some (am_i x4), some (am_i x5), some (am_i x6), some (am_i o7), some (am_i x8), some (am_i o9), some (am_i x10), some (am_i x11)] [] (rm_h L σ) := by
  intro m
  induction m with
  | zero => intro x1 x2 x3 x4 x5 x6 x8 x10 x11 σ o7 o9 h; cases h
  | succ m ih =>
    intro x1 x2 x3 x4 x5 x6 x8 x10 x11 σ o7 o9 h
    exact tb_X6_fits_86 hd (fun x1 x2 x3 x4 x5 x6 x8 x10 x11 σ h o7 o9 => ih x1 x2 x3 x4 x5 x6 x8 x10 x11 σ o7 o9 h) hQ h
theorem t_X6_fits {L n d : Nat} {Q : am_Post} {p1 : Int} {p2 : Int} {p3 : Int} {p4 : Int} {p5 : Int} {p6 : Int} {σ σr : am_Mem} {rr : Int} (hd : 5 < d) (h : f_X6_fits n p1 p2 p3 p4 p5 p6 σ = some (rr, σr)) (hQ : Q (some (am_i rr)) (rm_h L σr)) : xs_aw d me_X6_fits [am_r 3, am_i p1, am_i p2, am_i p3, am_i p4, am_i p5, am_i p6] (rm_h L σ) Q := by
  obtain ⟨d, rfl⟩ : ∃ k, d = k + 1 := ⟨d - 1, by omega⟩
  have hd : 5 ≤ d := by omega
  unfold f_X6_fits at h
  show xs_AW (xs_aw d) me_X6_fits Q 0 [some (am_r 3), some (am_i p1), some (am_i p2), some (am_i p3), some (am_i p4), some (am_i p5), some (am_i p6), none, none, none, none, none] [] (rm_h L σ)
  refine rr_aload_n dX6_fits_0 rfl ?_
  refine rr_getr (t := 18) dX6_fits_1 fl_6_26 (sh_3 L) ⟨(by decide), by decide⟩ rfl rfl ?_
  obtain ⟨r2, σ3, e1, h⟩ := ab_2 h
  refine rr_Vi (as := []) (rest := []) dX6_fits_4 ml_6_163 (sh_18 L) ⟨(by decide), by decide, by decide⟩ rfl rfl rfl (Nat.le_of_ble_eq_true rfl) ⟨rfl, rfl⟩ (Nat.le_of_ble_eq_true rfl) (fun _ k => t_X5_stands (by omega) tw_18 e1 k) ?_
  rcases ab_i h with ⟨c4, h⟩ | ⟨c4, h⟩
  · refine rr_if_ne_p (t := 13) dX6_fits_7 (by decide) c4 ?_
    refine rr_ldc dX6_fits_10 cs_6_135 ?_
    obtain ⟨rfl, rfl⟩ := ab_r2 h
    exact rr_iret dX6_fits_12 rfl hQ
  · refine rr_if_ne_n (t := 13) dX6_fits_7 (by decide) c4 ?_
    refine rr_iload_n dX6_fits_13 rfl ?_
    refine rr_iload_n dX6_fits_14 rfl ?_
    refine rr_iload dX6_fits_15 rfl ?_
    refine rr_iload dX6_fits_17 rfl ?_
    obtain ⟨r6, σ7, e5, h⟩ := ab_2 h
    refine rr_Si (as := [am_i p1, am_i p3, am_i p5, am_i p6]) (rest := []) dX6_fits_19 ml_6_226 (Or.inl rfl) rfl rfl (Nat.le_of_ble_eq_true rfl) ⟨rfl, rfl⟩ (Nat.le_of_ble_eq_true rfl) (fun _ k => t_X6_areFitting (by omega) e5 k) ?_
    rcases ab_i h with ⟨c8, h⟩ | ⟨c8, h⟩
    · refine rr_if_ne_p (t := 28) dX6_fits_22 (by decide) c8 ?_
      refine rr_ldc dX6_fits_25 cs_6_69 ?_
      obtain ⟨rfl, rfl⟩ := ab_r2 h
      exact rr_iret dX6_fits_27 rfl hQ
    · refine rr_if_ne_n (t := 28) dX6_fits_22 (by decide) c8 ?_
      refine rr_aload_n dX6_fits_28 rfl ?_
      refine rr_iload_n dX6_fits_29 rfl ?_
      refine rr_iload_n dX6_fits_30 rfl ?_
      refine rr_iload_n dX6_fits_31 rfl ?_
      refine rr_iload dX6_fits_32 rfl ?_
      refine rr_iload dX6_fits_34 rfl ?_
      obtain ⟨r10, σ11, e9, h⟩ := ab_2 h
      refine rr_Vi (as := [am_i p1, am_i p2, am_i p3, am_i p4, am_i p5]) (rest := []) dX6_fits_36 ml_6_230 (sh_3 L) ⟨(by decide), by decide, by decide⟩ rfl rfl rfl (Nat.le_of_ble_eq_true rfl) ⟨rfl, rfl⟩ (Nat.le_of_ble_eq_true rfl) (fun _ k => t_X6_findingOfTwo (by omega) e9 k) ?_
      refine rr_istore (ls' := [some (am_r 3), some (am_i p1), some (am_i p2), some (am_i p3), some (am_i p4), some (am_i p5), some (am_i p6), some (am_i r10), none, none, none, none]) dX6_fits_39 (Nat.le_of_ble_eq_true rfl) rfl ?_
      refine rr_iload dX6_fits_41 rfl ?_
      rcases ab_i h with ⟨c12, h⟩ | ⟨c12, h⟩
      · refine rr_if_eq_p (t := 53) dX6_fits_43 (by decide) c12 ?_
        refine rr_iconst dX6_fits_53 (by decide) ?_
        refine rr_istore (ls' := [some (am_r 3), some (am_i p1), some (am_i p2), some (am_i p3), some (am_i p4), some (am_i p5), some (am_i p6), some (am_i r10), some (am_i 0), none, none, none]) dX6_fits_54 (Nat.le_of_ble_eq_true rfl) rfl ?_
        refine rr_iload dX6_fits_56 rfl ?_
        rcases ab_i h with ⟨c13, h⟩ | ⟨c13, h⟩
        · refine rr_if_ne_p (t := 65) dX6_fits_58 (by decide) c13 ?_
          refine rr_iconst dX6_fits_61 (by decide) ?_
          refine rr_goto (t := 66) dX6_fits_62 (by decide) ?_
          refine rr_istore (ls' := [some (am_r 3), some (am_i p1), some (am_i p2), some (am_i p3), some (am_i p4), some (am_i p5), some (am_i p6), some (am_i r10), some (am_i 0), some (am_i 0), none, none]) dX6_fits_66 (Nat.le_of_ble_eq_true rfl) rfl ?_
          refine rr_iload dX6_fits_68 rfl ?_
          rcases ab_i h with ⟨c14, h⟩ | ⟨c14, h⟩
          · refine rr_if_ne_p (t := 78) dX6_fits_70 (by decide) c14 ?_
            refine rr_bipush dX6_fits_73 (by decide) ?_
            refine rr_goto (t := 80) dX6_fits_75 (by decide) ?_
            refine rr_istore (ls' := [some (am_r 3), some (am_i p1), some (am_i p2), some (am_i p3), some (am_i p4), some (am_i p5), some (am_i p6), some (am_i r10), some (am_i 0), some (am_i 0), some (am_i 9), none]) dX6_fits_80 (Nat.le_of_ble_eq_true rfl) rfl ?_
            refine rr_iload dX6_fits_82 rfl ?_
            refine rr_istore (ls' := [some (am_r 3), some (am_i p1), some (am_i p2), some (am_i p3), some (am_i p4), some (am_i p5), some (am_i p6), some (am_i r10), some (am_i 0), some (am_i 0), some (am_i 9), some (am_i 0)]) dX6_fits_84 (Nat.le_of_ble_eq_true rfl) rfl ?_
            exact tl_X6_fits_86 hd hQ n _ _ _ _ _ _ _ _ _ _ _ _ h
          · refine rr_if_ne_n (t := 78) dX6_fits_70 (by decide) c14 ?_
            refine rr_bipush dX6_fits_78 (by decide) ?_
            refine rr_istore (ls' := [some (am_r 3), some (am_i p1), some (am_i p2), some (am_i p3), some (am_i p4), some (am_i p5), some (am_i p6), some (am_i r10), some (am_i 0), some (am_i 0), some (am_i 9), none]) dX6_fits_80 (Nat.le_of_ble_eq_true rfl) rfl ?_
            refine rr_iload dX6_fits_82 rfl ?_
            refine rr_istore (ls' := [some (am_r 3), some (am_i p1), some (am_i p2), some (am_i p3), some (am_i p4), some (am_i p5), some (am_i p6), some (am_i r10), some (am_i 0), some (am_i 0), some (am_i 9), some (am_i 0)]) dX6_fits_84 (Nat.le_of_ble_eq_true rfl) rfl ?_
            exact tl_X6_fits_86 hd hQ n _ _ _ _ _ _ _ _ _ _ _ _ h
        · refine rr_if_ne_n (t := 65) dX6_fits_58 (by decide) c13 ?_
          refine rr_iconst dX6_fits_65 (by decide) ?_
          refine rr_istore (ls' := [some (am_r 3), some (am_i p1), some (am_i p2), some (am_i p3), some (am_i p4), some (am_i p5), some (am_i p6), some (am_i r10), some (am_i 0), some (am_i 1), none, none]) dX6_fits_66 (Nat.le_of_ble_eq_true rfl) rfl ?_
          refine rr_iload dX6_fits_68 rfl ?_
          rcases ab_i h with ⟨c31, h⟩ | ⟨c31, h⟩
          · refine rr_if_ne_p (t := 78) dX6_fits_70 (by decide) c31 ?_
            refine rr_bipush dX6_fits_73 (by decide) ?_
            refine rr_goto (t := 80) dX6_fits_75 (by decide) ?_
            refine rr_istore (ls' := [some (am_r 3), some (am_i p1), some (am_i p2), some (am_i p3), some (am_i p4), some (am_i p5), some (am_i p6), some (am_i r10), some (am_i 0), some (am_i 1), some (am_i 9), none]) dX6_fits_80 (Nat.le_of_ble_eq_true rfl) rfl ?_
            refine rr_iload dX6_fits_82 rfl ?_
            refine rr_istore (ls' := [some (am_r 3), some (am_i p1), some (am_i p2), some (am_i p3), some (am_i p4), some (am_i p5), some (am_i p6), some (am_i r10), some (am_i 0), some (am_i 1), some (am_i 9), some (am_i 1)]) dX6_fits_84 (Nat.le_of_ble_eq_true rfl) rfl ?_
            exact tl_X6_fits_86 hd hQ n _ _ _ _ _ _ _ _ _ _ _ _ h
          · refine rr_if_ne_n (t := 78) dX6_fits_70 (by decide) c31 ?_
            refine rr_bipush dX6_fits_78 (by decide) ?_
            refine rr_istore (ls' := [some (am_r 3), some (am_i p1), some (am_i p2), some (am_i p3), some (am_i p4), some (am_i p5), some (am_i p6), some (am_i r10), some (am_i 0), some (am_i 1), some (am_i 9), none]) dX6_fits_80 (Nat.le_of_ble_eq_true rfl) rfl ?_
            refine rr_iload dX6_fits_82 rfl ?_
            refine rr_istore (ls' := [some (am_r 3), some (am_i p1), some (am_i p2), some (am_i p3), some (am_i p4), some (am_i p5), some (am_i p6), some (am_i r10), some (am_i 0), some (am_i 1), some (am_i 9), some (am_i 1)]) dX6_fits_84 (Nat.le_of_ble_eq_true rfl) rfl ?_
            exact tl_X6_fits_86 hd hQ n _ _ _ _ _ _ _ _ _ _ _ _ h
      · refine rr_if_eq_n (t := 53) dX6_fits_43 (by decide) c12 ?_
        refine rr_aload_n dX6_fits_46 rfl ?_
        refine rr_iload dX6_fits_47 rfl ?_
        obtain ⟨r33, σ34, e32, h⟩ := ab_2 h
        refine rr_Vi (as := [am_i r10]) (rest := []) dX6_fits_49 ml_6_70 (sh_3 L) ⟨(by decide), by decide, by decide⟩ rfl rfl rfl (Nat.le_of_ble_eq_true rfl) ⟨rfl, rfl⟩ (Nat.le_of_ble_eq_true rfl) (fun _ k => t_X6_found (by omega) e32 k) ?_
        obtain ⟨rfl, rfl⟩ := ab_r2 h
        exact rr_iret dX6_fits_52 rfl hQ
def nw_X6_fits (a : Nat) : Prop := a ≠ 24 ∧ a ≠ 25 ∧ a ≠ 26 ∧ a ≠ 27 ∧ a ≠ 28 ∧ a ≠ 29 ∧ a ≠ 3
theorem wb_X6_fits_130 {n : Nat} {kh86 : Int → Int → Int → Int → Int → Int → Int → Int → Int → am_Mem → Option (Int × am_Mem)} {x1 : Int} {x2 : Int} {x3 : Int} {x4 : Int} {x5 : Int} {x6 : Int} {x8 : Int} {x10 : Int} {x11 : Int} {σ σr : am_Mem} {rr : Int} (hk86 : ∀ (y1 : Int) (y2 : Int) (y3 : Int) (y4 : Int) (y5 : Int) (y6 : Int) (y8 : Int) (y10 : Int) (y11 : Int) (σ : am_Mem), kh86 y1 y2 y3 y4 y5 y6 y8 y10 y11 σ = some (rr, σr) → ∀ a : Nat, nw_X6_fits a → σr a = σ a) (h : fb_X6_fits_130 n kh86 x1 x2 x3 x4 x5 x6 x8 x10 x11 σ = some (rr, σr)) : ∀ a : Nat, nw_X6_fits a → σr a = σ a := by
  unfold fb_X6_fits_130 at h
  have fr : ∀ a : Nat, nw_X6_fits a → σ a = σ a := fun _ _ => rfl
  obtain ⟨r23, σ24, e22, h⟩ := ab_2 h
  have fr := fun (a : Nat) (ha : nw_X6_fits a) => (w_X6_isSo e22 a (by unfold nw_X6_fits at ha; unfold nw_X6_isSo; omega)).trans (fr a ha)
  rcases ab_i h with ⟨c25, h⟩ | ⟨c25, h⟩
  · exact fun a ha => (hk86 _ _ _ _ _ _ _ _ _ _ h a ha).trans (fr a ha)
  · exact fun a ha => (hk86 _ _ _ _ _ _ _ _ _ _ h a ha).trans (fr a ha)
theorem wb_X6_fits_86 {n : Nat} {kh86 : Int → Int → Int → Int → Int → Int → Int → Int → Int → am_Mem → Option (Int × am_Mem)} {x1 : Int} {x2 : Int} {x3 : Int} {x4 : Int} {x5 : Int} {x6 : Int} {x8 : Int} {x10 : Int} {x11 : Int} {σ σr : am_Mem} {rr : Int} (hk86 : ∀ (y1 : Int) (y2 : Int) (y3 : Int) (y4 : Int) (y5 : Int) (y6 : Int) (y8 : Int) (y10 : Int) (y11 : Int) (σ : am_Mem), kh86 y1 y2 y3 y4 y5 y6 y8 y10 y11 σ = some (rr, σr) → ∀ a : Nat, nw_X6_fits a → σr a = σ a) (h : fb_X6_fits_86 n kh86 x1 x2 x3 x4 x5 x6 x8 x10 x11 σ = some (rr, σr)) : ∀ a : Nat, nw_X6_fits a → σr a = σ a := by
  unfold fb_X6_fits_86 at h
  have fr : ∀ a : Nat, nw_X6_fits a → σ a = σ a := fun _ _ => rfl
  rcases ab_i h with ⟨c15, h⟩ | ⟨c15, h⟩
  · obtain ⟨σ18, e16, h⟩ := ab_1 h
    have fr := fun (a : Nat) (ha : nw_X6_fits a) => (w_X5_become e16 a (by unfold nw_X6_fits at ha; unfold nw_X5_become; omega)).trans (fr a ha)
    rcases ab_i h with ⟨c19, h⟩ | ⟨c19, h⟩
    · obtain ⟨σ20, e21, h⟩ := ab_1 h
      have fr := fun (a : Nat) (ha : nw_X6_fits a) => (ab_fu e21 (show a ≠ 24 by unfold nw_X6_fits at ha; omega)).trans (fr a ha)
      exact fun a ha => (wb_X6_fits_130 hk86 h a ha).trans (fr a ha)
    · obtain ⟨σ26, e27, h⟩ := ab_1 h
      have fr := fun (a : Nat) (ha : nw_X6_fits a) => (ab_fu e27 (show a ≠ 24 by unfold nw_X6_fits at ha; omega)).trans (fr a ha)
      exact fun a ha => (wb_X6_fits_130 hk86 h a ha).trans (fr a ha)
  · obtain ⟨r29, σ30, e28, h⟩ := ab_2 h
    have fr := fun (a : Nat) (ha : nw_X6_fits a) => (w_X6_unfound e28 a (by unfold nw_X6_fits at ha; unfold nw_X6_unfound; omega)).trans (fr a ha)
    obtain ⟨q1, q2⟩ := ab_r2 h
    exact fun a ha => (congrFun q2.symm a).trans (fr a ha)
theorem wl_X6_fits_86 {n : Nat} {σr : am_Mem} {rr : Int} : ∀ (m : Nat) (x1 : Int) (x2 : Int) (x3 : Int) (x4 : Int) (x5 : Int) (x6 : Int) (x8 : Int) (x10 : Int) (x11 : Int) (σ : am_Mem), fl_X6_fits_86 n m x1 x2 x3 x4 x5 x6 x8 x10 x11 σ = some (rr, σr) → ∀ a : Nat, nw_X6_fits a → σr a = σ a := by
  intro m
  induction m with
  | zero => intro x1 x2 x3 x4 x5 x6 x8 x10 x11 σ h; cases h
  | succ m ih =>
    intro x1 x2 x3 x4 x5 x6 x8 x10 x11 σ h
    exact wb_X6_fits_86 (fun x1 x2 x3 x4 x5 x6 x8 x10 x11 σ h => ih x1 x2 x3 x4 x5 x6 x8 x10 x11 σ h) h
theorem w_X6_fits {n : Nat} {p1 : Int} {p2 : Int} {p3 : Int} {p4 : Int} {p5 : Int} {p6 : Int} {σ σr : am_Mem} {rr : Int} (h : f_X6_fits n p1 p2 p3 p4 p5 p6 σ = some (rr, σr)) : ∀ a : Nat, nw_X6_fits a → σr a = σ a := by
  unfold f_X6_fits at h
  have fr : ∀ a : Nat, nw_X6_fits a → σ a = σ a := fun _ _ => rfl
  obtain ⟨r2, σ3, e1, h⟩ := ab_2 h
  have fr := fun (a : Nat) (ha : nw_X6_fits a) => (congrFun (u_X5_stands e1) a).trans (fr a ha)
  rcases ab_i h with ⟨c4, h⟩ | ⟨c4, h⟩
  · obtain ⟨q1, q2⟩ := ab_r2 h
    exact fun a ha => (congrFun q2.symm a).trans (fr a ha)
  · obtain ⟨r6, σ7, e5, h⟩ := ab_2 h
    have fr := fun (a : Nat) (ha : nw_X6_fits a) => (congrFun (u_X6_areFitting e5) a).trans (fr a ha)
    rcases ab_i h with ⟨c8, h⟩ | ⟨c8, h⟩
    · obtain ⟨q1, q2⟩ := ab_r2 h
      exact fun a ha => (congrFun q2.symm a).trans (fr a ha)
    · obtain ⟨r10, σ11, e9, h⟩ := ab_2 h
      have fr := fun (a : Nat) (ha : nw_X6_fits a) => (congrFun (u_X6_findingOfTwo e9) a).trans (fr a ha)
      rcases ab_i h with ⟨c12, h⟩ | ⟨c12, h⟩
      · rcases ab_i h with ⟨c13, h⟩ | ⟨c13, h⟩
        · rcases ab_i h with ⟨c14, h⟩ | ⟨c14, h⟩
          · exact fun a ha => (wl_X6_fits_86 n _ _ _ _ _ _ _ _ _ _ h a ha).trans (fr a ha)
          · exact fun a ha => (wl_X6_fits_86 n _ _ _ _ _ _ _ _ _ _ h a ha).trans (fr a ha)
        · rcases ab_i h with ⟨c31, h⟩ | ⟨c31, h⟩
          · exact fun a ha => (wl_X6_fits_86 n _ _ _ _ _ _ _ _ _ _ h a ha).trans (fr a ha)
          · exact fun a ha => (wl_X6_fits_86 n _ _ _ _ _ _ _ _ _ _ h a ha).trans (fr a ha)
      · obtain ⟨r33, σ34, e32, h⟩ := ab_2 h
        have fr := fun (a : Nat) (ha : nw_X6_fits a) => (w_X6_found e32 a (by unfold nw_X6_fits at ha; unfold nw_X6_found; omega)).trans (fr a ha)
        obtain ⟨q1, q2⟩ := ab_r2 h
        exact fun a ha => (congrFun q2.symm a).trans (fr a ha)
/-! MoodFare.fitsOf -/
def fb_X6_fitsOf_133 (n : Nat) (kh85 : Int → Int → Int → Int → Int → Int → Int → Int → Int → Int → am_Mem → Option (Int × am_Mem)) (x1 : Int) (x2 : Int) (x3 : Int) (x4 : Int) (x5 : Int) (x6 : Int) (x7 : Int) (x9 : Int) (x11 : Int) (x12 : Int) (σ : am_Mem) : Option (Int × am_Mem) :=
  am_b2 (f_X6_isSo n x2 x3 x4 x5 x6 σ) fun r24 σ25 => if r24 = 0 then (kh85 x1 x2 x3 x4 x5 x6 x7 x9 x11 (am_w (x12 + 1)) σ25) else (kh85 x1 x2 x3 x4 x5 x6 x7 (am_or x9 (am_shl 1 x12)) x11 (am_w (x12 + 1)) σ25)
def fb_X6_fitsOf_85 (n : Nat) (kh85 : Int → Int → Int → Int → Int → Int → Int → Int → Int → Int → am_Mem → Option (Int × am_Mem)) (x1 : Int) (x2 : Int) (x3 : Int) (x4 : Int) (x5 : Int) (x6 : Int) (x7 : Int) (x9 : Int) (x11 : Int) (x12 : Int) (σ : am_Mem) : Option (Int × am_Mem) :=
  if x12 ≤ x11 then (am_b1 (f_X5_become n 24 18 σ) fun σ18 => if x7 = 0 then (if (0 : Int) ≤ x1 ∧ x1 < 6 then am_b1 (some (am_up σ18 25 x1 x12)) fun σ21 => fb_X6_fitsOf_133 n kh85 x1 x2 x3 x4 x5 x6 x7 x9 x11 x12 σ21 else none) else (if (0 : Int) ≤ x1 ∧ x1 < 6 then am_b1 (some (am_up σ18 26 x1 x12)) fun σ28 => fb_X6_fitsOf_133 n kh85 x1 x2 x3 x4 x5 x6 x7 x9 x11 x12 σ28 else none)) else (am_b2 (f_X6_unfound n x9 σ) fun r31 σ32 => some (r31, σ32))
def fl_X6_fitsOf_85 (n : Nat) : Nat → Int → Int → Int → Int → Int → Int → Int → Int → Int → Int → am_Mem → Option (Int × am_Mem)
  | 0, _, _, _, _, _, _, _, _, _, _, _ => none
  | m + 1, x1, x2, x3, x4, x5, x6, x7, x9, x11, x12, σ => fb_X6_fitsOf_85 n (fun yx1 yx2 yx3 yx4 yx5 yx6 yx7 yx9 yx11 yx12 σ => fl_X6_fitsOf_85 n m yx1 yx2 yx3 yx4 yx5 yx6 yx7 yx9 yx11 yx12 σ) x1 x2 x3 x4 x5 x6 x7 x9 x11 x12 σ
def f_X6_fitsOf (n : Nat) (p1 : Int) (p2 : Int) (p3 : Int) (p4 : Int) (p5 : Int) (p6 : Int) (p7 : Int) (σ : am_Mem) : Option (Int × am_Mem) :=
  am_b2 (f_X5_hasCorner n 18 p1 σ) fun r2 σ3 => if r2 = 0 then (some ((-1000001), σ3)) else (am_b2 (f_X6_areFitting n p2 p4 p6 p7 σ3) fun r6 σ7 => if r6 = 0 then (some ((-1000001), σ7)) else (am_b2 (f_X6_findingOfTwo n p2 p3 p4 p5 p6 σ7) fun r10 σ11 => if r10 = 0 then (if p7 = 0 then (if p7 = 0 then (fl_X6_fitsOf_85 n n p1 p2 p3 p4 p5 p6 p7 0 5 1 σ11) else (fl_X6_fitsOf_85 n n p1 p2 p3 p4 p5 p6 p7 0 9 1 σ11)) else (if p7 = 0 then (fl_X6_fitsOf_85 n n p1 p2 p3 p4 p5 p6 p7 0 5 0 σ11) else (fl_X6_fitsOf_85 n n p1 p2 p3 p4 p5 p6 p7 0 9 0 σ11))) else (am_b2 (f_X6_found n r10 σ11) fun r35 σ36 => some (r35, σ36))))
theorem tb_X6_fitsOf_133 {L n d : Nat} {Q : am_Post} {kh85 : Int → Int → Int → Int → Int → Int → Int → Int → Int → Int → am_Mem → Option (Int × am_Mem)} {x1 : Int} {x2 : Int} {x3 : Int} {x4 : Int} {x5 : Int} {x6 : Int} {x7 : Int} {x9 : Int} {x11 : Int} {x12 : Int} {o8 : Int} {o10 : Int} {σ σr : am_Mem} {rr : Int} (hd : 5 ≤ d) (hk85 : ∀ (y1 : Int) (y2 : Int) (y3 : Int) (y4 : Int) (y5 : Int) (y6 : Int) (y7 : Int) (y9 : Int) (y11 : Int) (y12 : Int) (σ : am_Mem), kh85 y1 y2 y3 y4 y5 y6 y7 y9 y11 y12 σ = some (rr, σr) → ∀ (o8 : Int) (o10 : Int), xs_AW (xs_aw d) me_X6_fitsOf Q 85 [some (am_r 3), some (am_i y1), some (am_i y2), some (am_i y3), some (am_i y4), some (am_i y5), some (am_i y6), some (am_i y7), some (am_i o8), some (am_i y9), some (am_i o10), some (am_i y11), some (am_i y12)] [] (rm_h L σ)) (hQ : Q (some (am_i rr)) (rm_h L σr)) (h : fb_X6_fitsOf_133 n kh85 x1 x2 x3 x4 x5 x6 x7 x9 x11 x12 σ = some (rr, σr)) : xs_AW (xs_aw d) me_X6_fitsOf Q 133 [some (am_r 3), some (am_i x1), some (am_i x2), some (am_i x3), some (am_i x4), some (am_i x5), some (am_i x6), some (am_i x7), some (am_i o8), some (am_i x9), some (am_i o10), some (am_i x11), some (am_i x12)] [] (rm_h L σ) := by
  unfold fb_X6_fitsOf_133 at h
  refine rr_aload_n dX6_fitsOf_133 rfl ?_
  refine rr_iload_n dX6_fitsOf_134 rfl ?_
  refine rr_iload_n dX6_fitsOf_135 rfl ?_
  refine rr_iload dX6_fitsOf_136 rfl ?_
  refine rr_iload dX6_fitsOf_138 rfl ?_
  refine rr_iload dX6_fitsOf_140 rfl ?_
  obtain ⟨r24, σ25, e23, h⟩ := ab_2 h
  refine rr_Vi (as := [am_i x2, am_i x3, am_i x4, am_i x5, am_i x6]) (rest := []) dX6_fitsOf_142 ml_6_236 (sh_3 L) ⟨(by decide), by decide, by decide⟩ rfl rfl rfl (Nat.le_of_ble_eq_true rfl) ⟨rfl, rfl⟩ (Nat.le_of_ble_eq_true rfl) (fun _ k => t_X6_isSo (by omega) e23 k) ?_
  rcases ab_i h with ⟨c26, h⟩ | ⟨c26, h⟩
  · refine rr_if_eq_p (t := 157) dX6_fitsOf_145 (by decide) c26 ?_
    refine rr_iinc (ls' := [some (am_r 3), some (am_i x1), some (am_i x2), some (am_i x3), some (am_i x4), some (am_i x5), some (am_i x6), some (am_i x7), some (am_i o8), some (am_i x9), some (am_i o10), some (am_i x11), some (am_i (am_w (x12 + 1)))]) dX6_fitsOf_157 rfl (Nat.le_of_ble_eq_true rfl) rfl ?_
    refine rr_goto (t := 85) dX6_fitsOf_160 (by decide) ?_
    exact hk85 _ _ _ _ _ _ _ _ _ _ _ h _ _
  · refine rr_if_eq_n (t := 157) dX6_fitsOf_145 (by decide) c26 ?_
    refine rr_iload dX6_fitsOf_148 rfl ?_
    refine rr_iconst dX6_fitsOf_150 (by decide) ?_
    refine rr_iload dX6_fitsOf_151 rfl ?_
    refine rr_ishl dX6_fitsOf_153 ?_
    refine rr_ior dX6_fitsOf_154 ?_
    refine rr_istore (ls' := [some (am_r 3), some (am_i x1), some (am_i x2), some (am_i x3), some (am_i x4), some (am_i x5), some (am_i x6), some (am_i x7), some (am_i o8), some (am_i (am_or x9 (am_shl 1 x12))), some (am_i o10), some (am_i x11), some (am_i x12)]) dX6_fitsOf_155 (Nat.le_of_ble_eq_true rfl) rfl ?_
    refine rr_iinc (ls' := [some (am_r 3), some (am_i x1), some (am_i x2), some (am_i x3), some (am_i x4), some (am_i x5), some (am_i x6), some (am_i x7), some (am_i o8), some (am_i (am_or x9 (am_shl 1 x12))), some (am_i o10), some (am_i x11), some (am_i (am_w (x12 + 1)))]) dX6_fitsOf_157 rfl (Nat.le_of_ble_eq_true rfl) rfl ?_
    refine rr_goto (t := 85) dX6_fitsOf_160 (by decide) ?_
    exact hk85 _ _ _ _ _ _ _ _ _ _ _ h _ _
theorem tb_X6_fitsOf_85 {L n d : Nat} {Q : am_Post} {kh85 : Int → Int → Int → Int → Int → Int → Int → Int → Int → Int → am_Mem → Option (Int × am_Mem)} {x1 : Int} {x2 : Int} {x3 : Int} {x4 : Int} {x5 : Int} {x6 : Int} {x7 : Int} {x9 : Int} {x11 : Int} {x12 : Int} {o8 : Int} {o10 : Int} {σ σr : am_Mem} {rr : Int} (hd : 5 ≤ d) (hk85 : ∀ (y1 : Int) (y2 : Int) (y3 : Int) (y4 : Int) (y5 : Int) (y6 : Int) (y7 : Int) (y9 : Int) (y11 : Int) (y12 : Int) (σ : am_Mem), kh85 y1 y2 y3 y4 y5 y6 y7 y9 y11 y12 σ = some (rr, σr) → ∀ (o8 : Int) (o10 : Int), xs_AW (xs_aw d) me_X6_fitsOf Q 85 [some (am_r 3), some (am_i y1), some (am_i y2), some (am_i y3), some (am_i y4), some (am_i y5), some (am_i y6), some (am_i y7), some (am_i o8), some (am_i y9), some (am_i o10), some (am_i y11), some (am_i y12)] [] (rm_h L σ)) (hQ : Q (some (am_i rr)) (rm_h L σr)) (h : fb_X6_fitsOf_85 n kh85 x1 x2 x3 x4 x5 x6 x7 x9 x11 x12 σ = some (rr, σr)) : xs_AW (xs_aw d) me_X6_fitsOf Q 85 [some (am_r 3), some (am_i x1), some (am_i x2), some (am_i x3), some (am_i x4), some (am_i x5), some (am_i x6), some (am_i x7), some (am_i o8), some (am_i x9), some (am_i o10), some (am_i x11), some (am_i x12)] [] (rm_h L σ) := by
  unfold fb_X6_fitsOf_85 at h
  refine rr_iload dX6_fitsOf_85 rfl ?_
  refine rr_iload dX6_fitsOf_87 rfl ?_
  rcases ab_i h with ⟨c15, h⟩ | ⟨c15, h⟩
  · refine rr_icmp_gt_p (t := 163) dX6_fitsOf_89 (by decide) c15 ?_
    refine rr_aload_n dX6_fitsOf_92 rfl ?_
    refine rr_getr (t := 24) dX6_fitsOf_93 fl_6_30 (sh_3 L) ⟨(by decide), by decide⟩ rfl rfl ?_
    refine rr_aload_n dX6_fitsOf_96 rfl ?_
    refine rr_getr (t := 18) dX6_fitsOf_97 fl_6_26 (sh_3 L) ⟨(by decide), by decide⟩ rfl rfl ?_
    obtain ⟨σ18, e16, h⟩ := ab_1 h
    refine rr_Vv (as := [am_r 18]) (rest := []) dX6_fitsOf_100 ml_6_119 (sh_24 L) ⟨(by decide), by decide, by decide⟩ rfl rfl rfl (Nat.le_of_ble_eq_true rfl) ⟨rfl, rfl⟩ (Nat.le_of_ble_eq_true rfl) (fun _ k => t_X5_become (by omega) tw_24 tw_18 e16 k) ?_
    refine rr_iload dX6_fitsOf_103 rfl ?_
    rcases ab_i h with ⟨c19, h⟩ | ⟨c19, h⟩
    · refine rr_if_ne_p (t := 122) dX6_fitsOf_105 (by decide) c19 ?_
      refine rr_aload_n dX6_fitsOf_108 rfl ?_
      refine rr_getr (t := 24) dX6_fitsOf_109 fl_6_30 (sh_3 L) ⟨(by decide), by decide⟩ rfl rfl ?_
      refine rr_getr (t := 25) dX6_fitsOf_112 fl_6_240 (sh_24 L) ⟨(by decide), by decide⟩ rfl rfl ?_
      refine rr_iload_n dX6_fitsOf_115 rfl ?_
      refine rr_iload dX6_fitsOf_116 rfl ?_
      obtain ⟨g20, h⟩ := ab_g h
      refine rr_iast (nz := 6) dX6_fitsOf_118 (sh_25 L) (by decide) rfl g20 ?_
      obtain ⟨σ21, e22, h⟩ := ab_1 h
      refine ab_m e22 ?_
      refine rr_goto (t := 133) dX6_fitsOf_119 (by decide) ?_
      exact tb_X6_fitsOf_133 hd hk85 hQ h
    · refine rr_if_ne_n (t := 122) dX6_fitsOf_105 (by decide) c19 ?_
      refine rr_aload_n dX6_fitsOf_122 rfl ?_
      refine rr_getr (t := 24) dX6_fitsOf_123 fl_6_30 (sh_3 L) ⟨(by decide), by decide⟩ rfl rfl ?_
      refine rr_getr (t := 26) dX6_fitsOf_126 fl_6_159 (sh_24 L) ⟨(by decide), by decide⟩ rfl rfl ?_
      refine rr_iload_n dX6_fitsOf_129 rfl ?_
      refine rr_iload dX6_fitsOf_130 rfl ?_
      obtain ⟨g27, h⟩ := ab_g h
      refine rr_iast (nz := 6) dX6_fitsOf_132 (sh_26 L) (by decide) rfl g27 ?_
      obtain ⟨σ28, e29, h⟩ := ab_1 h
      refine ab_m e29 ?_
      exact tb_X6_fitsOf_133 hd hk85 hQ h
  · refine rr_icmp_gt_n (t := 163) dX6_fitsOf_89 (by decide) c15 ?_
    refine rr_aload_n dX6_fitsOf_163 rfl ?_
    refine rr_iload dX6_fitsOf_164 rfl ?_
    obtain ⟨r31, σ32, e30, h⟩ := ab_2 h
    refine rr_Vi (as := [am_i x9]) (rest := []) dX6_fitsOf_166 ml_6_78 (sh_3 L) ⟨(by decide), by decide, by decide⟩ rfl rfl rfl (Nat.le_of_ble_eq_true rfl) ⟨rfl, rfl⟩ (Nat.le_of_ble_eq_true rfl) (fun _ k => t_X6_unfound (by omega) e30 k) ?_
    obtain ⟨rfl, rfl⟩ := ab_r2 h
    exact rr_iret dX6_fitsOf_169 rfl hQ
theorem tl_X6_fitsOf_85 {L n d : Nat} {Q : am_Post} {σr : am_Mem} {rr : Int} (hd : 5 ≤ d) (hQ : Q (some (am_i rr)) (rm_h L σr)) : ∀ (m : Nat) (x1 : Int) (x2 : Int) (x3 : Int) (x4 : Int) (x5 : Int) (x6 : Int) (x7 : Int) (x9 : Int) (x11 : Int) (x12 : Int) (σ : am_Mem) (o8 : Int) (o10 : Int), fl_X6_fitsOf_85 n m x1 x2 x3 x4 x5 x6 x7 x9 x11 x12 σ = some (rr, σr) → xs_AW (xs_aw d) me_X6_fitsOf Q 85 [some (am_r 3), some (am_i x1), some (am_i x2), some (am_i x3), some (am_i x4), some (am_i x5), some (am_i x6), some (am_i x7), some (am_i o8), some (am_i x9), some (am_i o10), some (am_i x11), some (am_i x12)] [] (rm_h L σ) := by
  intro m
  induction m with
  | zero => intro x1 x2 x3 x4 x5 x6 x7 x9 x11 x12 σ o8 o10 h; cases h
  | succ m ih =>
    intro x1 x2 x3 x4 x5 x6 x7 x9 x11 x12 σ o8 o10 h
    exact tb_X6_fitsOf_85 hd (fun x1 x2 x3 x4 x5 x6 x7 x9 x11 x12 σ h o8 o10 => ih x1 x2 x3 x4 x5 x6 x7 x9 x11 x12 σ o8 o10 h) hQ h
theorem t_X6_fitsOf {L n d : Nat} {Q : am_Post} {p1 : Int} {p2 : Int} {p3 : Int} {p4 : Int} {p5 : Int} {p6 : Int} {p7 : Int} {σ σr : am_Mem} {rr : Int} (hd : 5 < d) (h : f_X6_fitsOf n p1 p2 p3 p4 p5 p6 p7 σ = some (rr, σr)) (hQ : Q (some (am_i rr)) (rm_h L σr)) : xs_aw d me_X6_fitsOf [am_r 3, am_i p1, am_i p2, am_i p3, am_i p4, am_i p5, am_i p6, am_i p7] (rm_h L σ) Q := by
  obtain ⟨d, rfl⟩ : ∃ k, d = k + 1 := ⟨d - 1, by omega⟩
  have hd : 5 ≤ d := by omega
  unfold f_X6_fitsOf at h
  show xs_AW (xs_aw d) me_X6_fitsOf Q 0 [some (am_r 3), some (am_i p1), some (am_i p2), some (am_i p3), some (am_i p4), some (am_i p5), some (am_i p6), some (am_i p7), none, none, none, none, none] [] (rm_h L σ)
  refine rr_aload_n dX6_fitsOf_0 rfl ?_
  refine rr_getr (t := 18) dX6_fitsOf_1 fl_6_26 (sh_3 L) ⟨(by decide), by decide⟩ rfl rfl ?_
  refine rr_iload_n dX6_fitsOf_4 rfl ?_
  obtain ⟨r2, σ3, e1, h⟩ := ab_2 h
  refine rr_Vi (as := [am_i p1]) (rest := []) dX6_fitsOf_5 ml_6_156 (sh_18 L) ⟨(by decide), by decide, by decide⟩ rfl rfl rfl (Nat.le_of_ble_eq_true rfl) ⟨rfl, rfl⟩ (Nat.le_of_ble_eq_true rfl) (fun _ k => t_X5_hasCorner (by omega) tw_18 e1 k) ?_
  rcases ab_i h with ⟨c4, h⟩ | ⟨c4, h⟩
  · refine rr_if_eq_p (t := 24) dX6_fitsOf_8 (by decide) c4 ?_
    refine rr_ldc dX6_fitsOf_24 cs_6_69 ?_
    obtain ⟨rfl, rfl⟩ := ab_r2 h
    exact rr_iret dX6_fitsOf_26 rfl hQ
  · refine rr_if_eq_n (t := 24) dX6_fitsOf_8 (by decide) c4 ?_
    refine rr_iload_n dX6_fitsOf_11 rfl ?_
    refine rr_iload dX6_fitsOf_12 rfl ?_
    refine rr_iload dX6_fitsOf_14 rfl ?_
    refine rr_iload dX6_fitsOf_16 rfl ?_
    obtain ⟨r6, σ7, e5, h⟩ := ab_2 h
    refine rr_Si (as := [am_i p2, am_i p4, am_i p6, am_i p7]) (rest := []) dX6_fitsOf_18 ml_6_226 (Or.inl rfl) rfl rfl (Nat.le_of_ble_eq_true rfl) ⟨rfl, rfl⟩ (Nat.le_of_ble_eq_true rfl) (fun _ k => t_X6_areFitting (by omega) e5 k) ?_
    rcases ab_i h with ⟨c8, h⟩ | ⟨c8, h⟩
    · refine rr_if_ne_p (t := 27) dX6_fitsOf_21 (by decide) c8 ?_
      refine rr_ldc dX6_fitsOf_24 cs_6_69 ?_
      obtain ⟨rfl, rfl⟩ := ab_r2 h
      exact rr_iret dX6_fitsOf_26 rfl hQ
    · refine rr_if_ne_n (t := 27) dX6_fitsOf_21 (by decide) c8 ?_
      refine rr_aload_n dX6_fitsOf_27 rfl ?_
      refine rr_iload_n dX6_fitsOf_28 rfl ?_
      refine rr_iload_n dX6_fitsOf_29 rfl ?_
      refine rr_iload dX6_fitsOf_30 rfl ?_
      refine rr_iload dX6_fitsOf_32 rfl ?_
      refine rr_iload dX6_fitsOf_34 rfl ?_
      obtain ⟨r10, σ11, e9, h⟩ := ab_2 h
      refine rr_Vi (as := [am_i p2, am_i p3, am_i p4, am_i p5, am_i p6]) (rest := []) dX6_fitsOf_36 ml_6_230 (sh_3 L) ⟨(by decide), by decide, by decide⟩ rfl rfl rfl (Nat.le_of_ble_eq_true rfl) ⟨rfl, rfl⟩ (Nat.le_of_ble_eq_true rfl) (fun _ k => t_X6_findingOfTwo (by omega) e9 k) ?_
      refine rr_istore (ls' := [some (am_r 3), some (am_i p1), some (am_i p2), some (am_i p3), some (am_i p4), some (am_i p5), some (am_i p6), some (am_i p7), some (am_i r10), none, none, none, none]) dX6_fitsOf_39 (Nat.le_of_ble_eq_true rfl) rfl ?_
      refine rr_iload dX6_fitsOf_41 rfl ?_
      rcases ab_i h with ⟨c12, h⟩ | ⟨c12, h⟩
      · refine rr_if_eq_p (t := 53) dX6_fitsOf_43 (by decide) c12 ?_
        refine rr_iconst dX6_fitsOf_53 (by decide) ?_
        refine rr_istore (ls' := [some (am_r 3), some (am_i p1), some (am_i p2), some (am_i p3), some (am_i p4), some (am_i p5), some (am_i p6), some (am_i p7), some (am_i r10), some (am_i 0), none, none, none]) dX6_fitsOf_54 (Nat.le_of_ble_eq_true rfl) rfl ?_
        refine rr_iload dX6_fitsOf_56 rfl ?_
        rcases ab_i h with ⟨c13, h⟩ | ⟨c13, h⟩
        · refine rr_if_ne_p (t := 65) dX6_fitsOf_58 (by decide) c13 ?_
          refine rr_iconst dX6_fitsOf_61 (by decide) ?_
          refine rr_goto (t := 66) dX6_fitsOf_62 (by decide) ?_
          refine rr_istore (ls' := [some (am_r 3), some (am_i p1), some (am_i p2), some (am_i p3), some (am_i p4), some (am_i p5), some (am_i p6), some (am_i p7), some (am_i r10), some (am_i 0), some (am_i 1), none, none]) dX6_fitsOf_66 (Nat.le_of_ble_eq_true rfl) rfl ?_
          refine rr_iload dX6_fitsOf_68 rfl ?_
          rcases ab_i h with ⟨c14, h⟩ | ⟨c14, h⟩
          · refine rr_if_ne_p (t := 77) dX6_fitsOf_70 (by decide) c14 ?_
            refine rr_iconst dX6_fitsOf_73 (by decide) ?_
            refine rr_goto (t := 79) dX6_fitsOf_74 (by decide) ?_
            refine rr_istore (ls' := [some (am_r 3), some (am_i p1), some (am_i p2), some (am_i p3), some (am_i p4), some (am_i p5), some (am_i p6), some (am_i p7), some (am_i r10), some (am_i 0), some (am_i 1), some (am_i 5), none]) dX6_fitsOf_79 (Nat.le_of_ble_eq_true rfl) rfl ?_
            refine rr_iload dX6_fitsOf_81 rfl ?_
            refine rr_istore (ls' := [some (am_r 3), some (am_i p1), some (am_i p2), some (am_i p3), some (am_i p4), some (am_i p5), some (am_i p6), some (am_i p7), some (am_i r10), some (am_i 0), some (am_i 1), some (am_i 5), some (am_i 1)]) dX6_fitsOf_83 (Nat.le_of_ble_eq_true rfl) rfl ?_
            exact tl_X6_fitsOf_85 hd hQ n _ _ _ _ _ _ _ _ _ _ _ _ _ h
          · refine rr_if_ne_n (t := 77) dX6_fitsOf_70 (by decide) c14 ?_
            refine rr_bipush dX6_fitsOf_77 (by decide) ?_
            refine rr_istore (ls' := [some (am_r 3), some (am_i p1), some (am_i p2), some (am_i p3), some (am_i p4), some (am_i p5), some (am_i p6), some (am_i p7), some (am_i r10), some (am_i 0), some (am_i 1), some (am_i 9), none]) dX6_fitsOf_79 (Nat.le_of_ble_eq_true rfl) rfl ?_
            refine rr_iload dX6_fitsOf_81 rfl ?_
            refine rr_istore (ls' := [some (am_r 3), some (am_i p1), some (am_i p2), some (am_i p3), some (am_i p4), some (am_i p5), some (am_i p6), some (am_i p7), some (am_i r10), some (am_i 0), some (am_i 1), some (am_i 9), some (am_i 1)]) dX6_fitsOf_83 (Nat.le_of_ble_eq_true rfl) rfl ?_
            exact tl_X6_fitsOf_85 hd hQ n _ _ _ _ _ _ _ _ _ _ _ _ _ h
        · refine rr_if_ne_n (t := 65) dX6_fitsOf_58 (by decide) c13 ?_
          refine rr_iconst dX6_fitsOf_65 (by decide) ?_
          refine rr_istore (ls' := [some (am_r 3), some (am_i p1), some (am_i p2), some (am_i p3), some (am_i p4), some (am_i p5), some (am_i p6), some (am_i p7), some (am_i r10), some (am_i 0), some (am_i 0), none, none]) dX6_fitsOf_66 (Nat.le_of_ble_eq_true rfl) rfl ?_
          refine rr_iload dX6_fitsOf_68 rfl ?_
          rcases ab_i h with ⟨c33, h⟩ | ⟨c33, h⟩
          · refine rr_if_ne_p (t := 77) dX6_fitsOf_70 (by decide) c33 ?_
            refine rr_iconst dX6_fitsOf_73 (by decide) ?_
            refine rr_goto (t := 79) dX6_fitsOf_74 (by decide) ?_
            refine rr_istore (ls' := [some (am_r 3), some (am_i p1), some (am_i p2), some (am_i p3), some (am_i p4), some (am_i p5), some (am_i p6), some (am_i p7), some (am_i r10), some (am_i 0), some (am_i 0), some (am_i 5), none]) dX6_fitsOf_79 (Nat.le_of_ble_eq_true rfl) rfl ?_
            refine rr_iload dX6_fitsOf_81 rfl ?_
            refine rr_istore (ls' := [some (am_r 3), some (am_i p1), some (am_i p2), some (am_i p3), some (am_i p4), some (am_i p5), some (am_i p6), some (am_i p7), some (am_i r10), some (am_i 0), some (am_i 0), some (am_i 5), some (am_i 0)]) dX6_fitsOf_83 (Nat.le_of_ble_eq_true rfl) rfl ?_
            exact tl_X6_fitsOf_85 hd hQ n _ _ _ _ _ _ _ _ _ _ _ _ _ h
          · refine rr_if_ne_n (t := 77) dX6_fitsOf_70 (by decide) c33 ?_
            refine rr_bipush dX6_fitsOf_77 (by decide) ?_
            refine rr_istore (ls' := [some (am_r 3), some (am_i p1), some (am_i p2), some (am_i p3), some (am_i p4), some (am_i p5), some (am_i p6), some (am_i p7), some (am_i r10), some (am_i 0), some (am_i 0), some (am_i 9), none]) dX6_fitsOf_79 (Nat.le_of_ble_eq_true rfl) rfl ?_
            refine rr_iload dX6_fitsOf_81 rfl ?_
            refine rr_istore (ls' := [some (am_r 3), some (am_i p1), some (am_i p2), some (am_i p3), some (am_i p4), some (am_i p5), some (am_i p6), some (am_i p7), some (am_i r10), some (am_i 0), some (am_i 0), some (am_i 9), some (am_i 0)]) dX6_fitsOf_83 (Nat.le_of_ble_eq_true rfl) rfl ?_
            exact tl_X6_fitsOf_85 hd hQ n _ _ _ _ _ _ _ _ _ _ _ _ _ h
      · refine rr_if_eq_n (t := 53) dX6_fitsOf_43 (by decide) c12 ?_
        refine rr_aload_n dX6_fitsOf_46 rfl ?_
        refine rr_iload dX6_fitsOf_47 rfl ?_
        obtain ⟨r35, σ36, e34, h⟩ := ab_2 h
        refine rr_Vi (as := [am_i r10]) (rest := []) dX6_fitsOf_49 ml_6_70 (sh_3 L) ⟨(by decide), by decide, by decide⟩ rfl rfl rfl (Nat.le_of_ble_eq_true rfl) ⟨rfl, rfl⟩ (Nat.le_of_ble_eq_true rfl) (fun _ k => t_X6_found (by omega) e34 k) ?_
        obtain ⟨rfl, rfl⟩ := ab_r2 h
        exact rr_iret dX6_fitsOf_52 rfl hQ
def nw_X6_fitsOf (a : Nat) : Prop := a ≠ 24 ∧ a ≠ 25 ∧ a ≠ 26 ∧ a ≠ 27 ∧ a ≠ 28 ∧ a ≠ 29 ∧ a ≠ 3
theorem wb_X6_fitsOf_133 {n : Nat} {kh85 : Int → Int → Int → Int → Int → Int → Int → Int → Int → Int → am_Mem → Option (Int × am_Mem)} {x1 : Int} {x2 : Int} {x3 : Int} {x4 : Int} {x5 : Int} {x6 : Int} {x7 : Int} {x9 : Int} {x11 : Int} {x12 : Int} {σ σr : am_Mem} {rr : Int} (hk85 : ∀ (y1 : Int) (y2 : Int) (y3 : Int) (y4 : Int) (y5 : Int) (y6 : Int) (y7 : Int) (y9 : Int) (y11 : Int) (y12 : Int) (σ : am_Mem), kh85 y1 y2 y3 y4 y5 y6 y7 y9 y11 y12 σ = some (rr, σr) → ∀ a : Nat, nw_X6_fitsOf a → σr a = σ a) (h : fb_X6_fitsOf_133 n kh85 x1 x2 x3 x4 x5 x6 x7 x9 x11 x12 σ = some (rr, σr)) : ∀ a : Nat, nw_X6_fitsOf a → σr a = σ a := by
  unfold fb_X6_fitsOf_133 at h
  have fr : ∀ a : Nat, nw_X6_fitsOf a → σ a = σ a := fun _ _ => rfl
  obtain ⟨r24, σ25, e23, h⟩ := ab_2 h
  have fr := fun (a : Nat) (ha : nw_X6_fitsOf a) => (w_X6_isSo e23 a (by unfold nw_X6_fitsOf at ha; unfold nw_X6_isSo; omega)).trans (fr a ha)
  rcases ab_i h with ⟨c26, h⟩ | ⟨c26, h⟩
  · exact fun a ha => (hk85 _ _ _ _ _ _ _ _ _ _ _ h a ha).trans (fr a ha)
  · exact fun a ha => (hk85 _ _ _ _ _ _ _ _ _ _ _ h a ha).trans (fr a ha)
theorem wb_X6_fitsOf_85 {n : Nat} {kh85 : Int → Int → Int → Int → Int → Int → Int → Int → Int → Int → am_Mem → Option (Int × am_Mem)} {x1 : Int} {x2 : Int} {x3 : Int} {x4 : Int} {x5 : Int} {x6 : Int} {x7 : Int} {x9 : Int} {x11 : Int} {x12 : Int} {σ σr : am_Mem} {rr : Int} (hk85 : ∀ (y1 : Int) (y2 : Int) (y3 : Int) (y4 : Int) (y5 : Int) (y6 : Int) (y7 : Int) (y9 : Int) (y11 : Int) (y12 : Int) (σ : am_Mem), kh85 y1 y2 y3 y4 y5 y6 y7 y9 y11 y12 σ = some (rr, σr) → ∀ a : Nat, nw_X6_fitsOf a → σr a = σ a) (h : fb_X6_fitsOf_85 n kh85 x1 x2 x3 x4 x5 x6 x7 x9 x11 x12 σ = some (rr, σr)) : ∀ a : Nat, nw_X6_fitsOf a → σr a = σ a := by
  unfold fb_X6_fitsOf_85 at h
  have fr : ∀ a : Nat, nw_X6_fitsOf a → σ a = σ a := fun _ _ => rfl
  rcases ab_i h with ⟨c15, h⟩ | ⟨c15, h⟩
  · obtain ⟨σ18, e16, h⟩ := ab_1 h
    have fr := fun (a : Nat) (ha : nw_X6_fitsOf a) => (w_X5_become e16 a (by unfold nw_X6_fitsOf at ha; unfold nw_X5_become; omega)).trans (fr a ha)
    rcases ab_i h with ⟨c19, h⟩ | ⟨c19, h⟩
    · obtain ⟨g20, h⟩ := ab_g h
      obtain ⟨σ21, e22, h⟩ := ab_1 h
      have fr := fun (a : Nat) (ha : nw_X6_fitsOf a) => (ab_fu e22 (show a ≠ 25 by unfold nw_X6_fitsOf at ha; omega)).trans (fr a ha)
      exact fun a ha => (wb_X6_fitsOf_133 hk85 h a ha).trans (fr a ha)
    · obtain ⟨g27, h⟩ := ab_g h
      obtain ⟨σ28, e29, h⟩ := ab_1 h
      have fr := fun (a : Nat) (ha : nw_X6_fitsOf a) => (ab_fu e29 (show a ≠ 26 by unfold nw_X6_fitsOf at ha; omega)).trans (fr a ha)
      exact fun a ha => (wb_X6_fitsOf_133 hk85 h a ha).trans (fr a ha)
  · obtain ⟨r31, σ32, e30, h⟩ := ab_2 h
    have fr := fun (a : Nat) (ha : nw_X6_fitsOf a) => (w_X6_unfound e30 a (by unfold nw_X6_fitsOf at ha; unfold nw_X6_unfound; omega)).trans (fr a ha)
    obtain ⟨q1, q2⟩ := ab_r2 h
    exact fun a ha => (congrFun q2.symm a).trans (fr a ha)
theorem wl_X6_fitsOf_85 {n : Nat} {σr : am_Mem} {rr : Int} : ∀ (m : Nat) (x1 : Int) (x2 : Int) (x3 : Int) (x4 : Int) (x5 : Int) (x6 : Int) (x7 : Int) (x9 : Int) (x11 : Int) (x12 : Int) (σ : am_Mem), fl_X6_fitsOf_85 n m x1 x2 x3 x4 x5 x6 x7 x9 x11 x12 σ = some (rr, σr) → ∀ a : Nat, nw_X6_fitsOf a → σr a = σ a := by
  intro m
  induction m with
  | zero => intro x1 x2 x3 x4 x5 x6 x7 x9 x11 x12 σ h; cases h
  | succ m ih =>
    intro x1 x2 x3 x4 x5 x6 x7 x9 x11 x12 σ h
    exact wb_X6_fitsOf_85 (fun x1 x2 x3 x4 x5 x6 x7 x9 x11 x12 σ h => ih x1 x2 x3 x4 x5 x6 x7 x9 x11 x12 σ h) h
theorem w_X6_fitsOf {n : Nat} {p1 : Int} {p2 : Int} {p3 : Int} {p4 : Int} {p5 : Int} {p6 : Int} {p7 : Int} {σ σr : am_Mem} {rr : Int} (h : f_X6_fitsOf n p1 p2 p3 p4 p5 p6 p7 σ = some (rr, σr)) : ∀ a : Nat, nw_X6_fitsOf a → σr a = σ a := by
  unfold f_X6_fitsOf at h
  have fr : ∀ a : Nat, nw_X6_fitsOf a → σ a = σ a := fun _ _ => rfl
  obtain ⟨r2, σ3, e1, h⟩ := ab_2 h
  have fr := fun (a : Nat) (ha : nw_X6_fitsOf a) => (congrFun (u_X5_hasCorner e1) a).trans (fr a ha)
  rcases ab_i h with ⟨c4, h⟩ | ⟨c4, h⟩
  · obtain ⟨q1, q2⟩ := ab_r2 h
    exact fun a ha => (congrFun q2.symm a).trans (fr a ha)
  · obtain ⟨r6, σ7, e5, h⟩ := ab_2 h
    have fr := fun (a : Nat) (ha : nw_X6_fitsOf a) => (congrFun (u_X6_areFitting e5) a).trans (fr a ha)
    rcases ab_i h with ⟨c8, h⟩ | ⟨c8, h⟩
    · obtain ⟨q1, q2⟩ := ab_r2 h
      exact fun a ha => (congrFun q2.symm a).trans (fr a ha)
    · obtain ⟨r10, σ11, e9, h⟩ := ab_2 h
      have fr := fun (a : Nat) (ha : nw_X6_fitsOf a) => (congrFun (u_X6_findingOfTwo e9) a).trans (fr a ha)
      rcases ab_i h with ⟨c12, h⟩ | ⟨c12, h⟩
      · rcases ab_i h with ⟨c13, h⟩ | ⟨c13, h⟩
        · rcases ab_i h with ⟨c14, h⟩ | ⟨c14, h⟩
          · exact fun a ha => (wl_X6_fitsOf_85 n _ _ _ _ _ _ _ _ _ _ _ h a ha).trans (fr a ha)
          · exact fun a ha => (wl_X6_fitsOf_85 n _ _ _ _ _ _ _ _ _ _ _ h a ha).trans (fr a ha)
        · rcases ab_i h with ⟨c33, h⟩ | ⟨c33, h⟩
          · exact fun a ha => (wl_X6_fitsOf_85 n _ _ _ _ _ _ _ _ _ _ _ h a ha).trans (fr a ha)
          · exact fun a ha => (wl_X6_fitsOf_85 n _ _ _ _ _ _ _ _ _ _ _ h a ha).trans (fr a ha)
      · obtain ⟨r35, σ36, e34, h⟩ := ab_2 h
        have fr := fun (a : Nat) (ha : nw_X6_fitsOf a) => (w_X6_found e34 a (by unfold nw_X6_fitsOf at ha; unfold nw_X6_found; omega)).trans (fr a ha)
        obtain ⟨q1, q2⟩ := ab_r2 h
        exact fun a ha => (congrFun q2.symm a).trans (fr a ha)
/-! MoodFare.owedFrom -/
def fb_X6_owedFrom_17 (n : Nat) (kh17 : Int → Int → Int → Int → Int → Int → am_Mem → Option (Int × am_Mem)) (x1 : Int) (x2 : Int) (x3 : Int) (x4 : Int) (x5 : Int) (x6 : Int) (σ : am_Mem) : Option (Int × am_Mem) :=
  if x6 < x3 then (if (0 : Int) ≤ x1 ∧ x1 < 8 then if (0 : Int) ≤ am_w (x2 + x6) ∧ am_w (x2 + x6) < 40 then am_b2 (f_X5_leads n 24 (σ (8 + (x1).toNat) (am_w (x2 + x6))) σ) fun r8 σ9 => if r8 = 0 then (some ((-1000000), σ9)) else (if x6 < x4 then (am_b1 (f_X5_goBy n 24 (σ (8 + (x1).toNat) (am_w (x2 + x6))) σ9) fun σ14 => kh17 x1 x2 x3 x4 x5 (am_w (x6 + 1)) σ14) else (am_b2 (f_X5_costBy n 24 (σ (8 + (x1).toNat) (am_w (x2 + x6))) σ9) fun r16 σ17 => am_b1 (f_X5_goBy n 24 (σ (8 + (x1).toNat) (am_w (x2 + x6))) σ17) fun σ20 => kh17 x1 x2 x3 x4 (am_w (x5 + (am_w (Int.tdiv r16 2)))) (am_w (x6 + 1)) σ20)) else none else none) else (some (x5, σ))
def fl_X6_owedFrom_17 (n : Nat) : Nat → Int → Int → Int → Int → Int → Int → am_Mem → Option (Int × am_Mem)
  | 0, _, _, _, _, _, _, _ => none
  | m + 1, x1, x2, x3, x4, x5, x6, σ => fb_X6_owedFrom_17 n (fun yx1 yx2 yx3 yx4 yx5 yx6 σ => fl_X6_owedFrom_17 n m yx1 yx2 yx3 yx4 yx5 yx6 σ) x1 x2 x3 x4 x5 x6 σ
def f_X6_owedFrom (n : Nat) (p1 : Int) (p2 : Int) (p3 : Int) (p4 : Int) (σ : am_Mem) : Option (Int × am_Mem) :=
  am_b1 (f_X5_become n 24 18 σ) fun σ3 => fl_X6_owedFrom_17 n n p1 p2 p3 p4 0 0 σ3
theorem tb_X6_owedFrom_17 {L n d : Nat} {Q : am_Post} {kh17 : Int → Int → Int → Int → Int → Int → am_Mem → Option (Int × am_Mem)} {x1 : Int} {x2 : Int} {x3 : Int} {x4 : Int} {x5 : Int} {x6 : Int} {o7 : Option am_V} {σ σr : am_Mem} {rr : Int} (hd : 4 ≤ d) (hk17 : ∀ (y1 : Int) (y2 : Int) (y3 : Int) (y4 : Int) (y5 : Int) (y6 : Int) (σ : am_Mem), kh17 y1 y2 y3 y4 y5 y6 σ = some (rr, σr) → ∀ (o7 : Option am_V), xs_AW (xs_aw d) me_X6_owedFrom Q 17 [some (am_r 3), some (am_i y1), some (am_i y2), some (am_i y3), some (am_i y4), some (am_i y5), some (am_i y6), o7] [] (rm_h L σ)) (hQ : Q (some (am_i rr)) (rm_h L σr)) (h : fb_X6_owedFrom_17 n kh17 x1 x2 x3 x4 x5 x6 σ = some (rr, σr)) : xs_AW (xs_aw d) me_X6_owedFrom Q 17 [some (am_r 3), some (am_i x1), some (am_i x2), some (am_i x3), some (am_i x4), some (am_i x5), some (am_i x6), o7] [] (rm_h L σ) := by
  unfold fb_X6_owedFrom_17 at h
  refine rr_iload dX6_owedFrom_17 rfl ?_
  refine rr_iload_n dX6_owedFrom_19 rfl ?_
  rcases ab_i h with ⟨c4, h⟩ | ⟨c4, h⟩
  · refine rr_icmp_ge_p (t := 92) dX6_owedFrom_20 (by decide) c4 ?_
    refine rr_aload_n dX6_owedFrom_23 rfl ?_
    refine rr_getr (t := 4) dX6_owedFrom_24 fl_6_10 (sh_3 L) ⟨(by decide), by decide⟩ rfl rfl ?_
    refine rr_getr (t := 7) dX6_owedFrom_27 fl_6_301 (sh_4 L) ⟨(by decide), by decide⟩ rfl rfl ?_
    refine rr_iload_n dX6_owedFrom_30 rfl ?_
    obtain ⟨g5, h⟩ := ab_g h
    refine rr_aald (nz := 8) (t := (8 + (x1).toNat)) dX6_owedFrom_31 (sh_7 L) ⟨(by decide), Or.inr rfl⟩ rfl g5 (er_7 g5) ?_
    refine rr_iload_n dX6_owedFrom_32 rfl ?_
    refine rr_iload dX6_owedFrom_33 rfl ?_
    refine rr_iadd dX6_owedFrom_35 ?_
    obtain ⟨g6, h⟩ := ab_g h
    refine rr_iald (nz := 40) dX6_owedFrom_36 (el_7 g5 L) rfl g6 ?_
    refine rr_istore (ls' := [some (am_r 3), some (am_i x1), some (am_i x2), some (am_i x3), some (am_i x4), some (am_i x5), some (am_i x6), some (am_i (σ (8 + (x1).toNat) (am_w (x2 + x6))))]) dX6_owedFrom_37 (Nat.le_of_ble_eq_true rfl) rfl ?_
    refine rr_aload_n dX6_owedFrom_39 rfl ?_
    refine rr_getr (t := 24) dX6_owedFrom_40 fl_6_30 (sh_3 L) ⟨(by decide), by decide⟩ rfl rfl ?_
    refine rr_iload dX6_owedFrom_43 rfl ?_
    obtain ⟨r8, σ9, e7, h⟩ := ab_2 h
    refine rr_Vi (as := [am_i (σ (8 + (x1).toNat) (am_w (x2 + x6)))]) (rest := []) dX6_owedFrom_45 ml_6_132 (sh_24 L) ⟨(by decide), by decide, by decide⟩ rfl rfl rfl (Nat.le_of_ble_eq_true rfl) ⟨rfl, rfl⟩ (Nat.le_of_ble_eq_true rfl) (fun _ k => t_X5_leads (by omega) tw_24 e7 k) ?_
    rcases ab_i h with ⟨c10, h⟩ | ⟨c10, h⟩
    · refine rr_if_ne_p (t := 54) dX6_owedFrom_48 (by decide) c10 ?_
      refine rr_ldc dX6_owedFrom_51 cs_6_198 ?_
      obtain ⟨rfl, rfl⟩ := ab_r2 h
      exact rr_iret dX6_owedFrom_53 rfl hQ
    · refine rr_if_ne_n (t := 54) dX6_owedFrom_48 (by decide) c10 ?_
      refine rr_iload dX6_owedFrom_54 rfl ?_
      refine rr_iload dX6_owedFrom_56 rfl ?_
      rcases ab_i h with ⟨c11, h⟩ | ⟨c11, h⟩
      · refine rr_icmp_lt_p (t := 77) dX6_owedFrom_58 (by decide) c11 ?_
        refine rr_aload_n dX6_owedFrom_77 rfl ?_
        refine rr_getr (t := 24) dX6_owedFrom_78 fl_6_30 (sh_3 L) ⟨(by decide), by decide⟩ rfl rfl ?_
        refine rr_iload dX6_owedFrom_81 rfl ?_
        obtain ⟨σ14, e12, h⟩ := ab_1 h
        refine rr_Vv (as := [am_i (σ (8 + (x1).toNat) (am_w (x2 + x6)))]) (rest := []) dX6_owedFrom_83 ml_6_152 (sh_24 L) ⟨(by decide), by decide, by decide⟩ rfl rfl rfl (Nat.le_of_ble_eq_true rfl) ⟨rfl, rfl⟩ (Nat.le_of_ble_eq_true rfl) (fun _ k => t_X5_goBy (by omega) tw_24 e12 k) ?_
        refine rr_iinc (ls' := [some (am_r 3), some (am_i x1), some (am_i x2), some (am_i x3), some (am_i x4), some (am_i x5), some (am_i (am_w (x6 + 1))), some (am_i (σ (8 + (x1).toNat) (am_w (x2 + x6))))]) dX6_owedFrom_86 rfl (Nat.le_of_ble_eq_true rfl) rfl ?_
        refine rr_goto (t := 17) dX6_owedFrom_89 (by decide) ?_
        exact hk17 _ _ _ _ _ _ _ h _
      · refine rr_icmp_lt_n (t := 77) dX6_owedFrom_58 (by decide) c11 ?_
        refine rr_iload dX6_owedFrom_61 rfl ?_
        refine rr_aload_n dX6_owedFrom_63 rfl ?_
        refine rr_getr (t := 24) dX6_owedFrom_64 fl_6_30 (sh_3 L) ⟨(by decide), by decide⟩ rfl rfl ?_
        refine rr_iload dX6_owedFrom_67 rfl ?_
        obtain ⟨r16, σ17, e15, h⟩ := ab_2 h
        refine rr_Vi (as := [am_i (σ (8 + (x1).toNat) (am_w (x2 + x6)))]) (rest := [am_i x5]) dX6_owedFrom_69 ml_6_202 (sh_24 L) ⟨(by decide), by decide, by decide⟩ rfl rfl rfl (Nat.le_of_ble_eq_true rfl) ⟨rfl, rfl⟩ (Nat.le_of_ble_eq_true rfl) (fun _ k => t_X5_costBy (by omega) tw_24 e15 k) ?_
        refine rr_iconst dX6_owedFrom_72 (by decide) ?_
        refine rr_idiv dX6_owedFrom_73 (by decide) ?_
        refine rr_iadd dX6_owedFrom_74 ?_
        refine rr_istore (ls' := [some (am_r 3), some (am_i x1), some (am_i x2), some (am_i x3), some (am_i x4), some (am_i (am_w (x5 + (am_w (Int.tdiv r16 2))))), some (am_i x6), some (am_i (σ (8 + (x1).toNat) (am_w (x2 + x6))))]) dX6_owedFrom_75 (Nat.le_of_ble_eq_true rfl) rfl ?_
        refine rr_aload_n dX6_owedFrom_77 rfl ?_
        refine rr_getr (t := 24) dX6_owedFrom_78 fl_6_30 (sh_3 L) ⟨(by decide), by decide⟩ rfl rfl ?_
        refine rr_iload dX6_owedFrom_81 rfl ?_
        obtain ⟨σ20, e18, h⟩ := ab_1 h
        refine rr_Vv (as := [am_i (σ (8 + (x1).toNat) (am_w (x2 + x6)))]) (rest := []) dX6_owedFrom_83 ml_6_152 (sh_24 L) ⟨(by decide), by decide, by decide⟩ rfl rfl rfl (Nat.le_of_ble_eq_true rfl) ⟨rfl, rfl⟩ (Nat.le_of_ble_eq_true rfl) (fun _ k => t_X5_goBy (by omega) tw_24 e18 k) ?_
        refine rr_iinc (ls' := [some (am_r 3), some (am_i x1), some (am_i x2), some (am_i x3), some (am_i x4), some (am_i (am_w (x5 + (am_w (Int.tdiv r16 2))))), some (am_i (am_w (x6 + 1))), some (am_i (σ (8 + (x1).toNat) (am_w (x2 + x6))))]) dX6_owedFrom_86 rfl (Nat.le_of_ble_eq_true rfl) rfl ?_
        refine rr_goto (t := 17) dX6_owedFrom_89 (by decide) ?_
        exact hk17 _ _ _ _ _ _ _ h _
  · refine rr_icmp_ge_n (t := 92) dX6_owedFrom_20 (by decide) c4 ?_
    refine rr_iload dX6_owedFrom_92 rfl ?_
    obtain ⟨rfl, rfl⟩ := ab_r2 h
    exact rr_iret dX6_owedFrom_94 rfl hQ
theorem tl_X6_owedFrom_17 {L n d : Nat} {Q : am_Post} {σr : am_Mem} {rr : Int} (hd : 4 ≤ d) (hQ : Q (some (am_i rr)) (rm_h L σr)) : ∀ (m : Nat) (x1 : Int) (x2 : Int) (x3 : Int) (x4 : Int) (x5 : Int) (x6 : Int) (σ : am_Mem) (o7 : Option am_V), fl_X6_owedFrom_17 n m x1 x2 x3 x4 x5 x6 σ = some (rr, σr) → xs_AW (xs_aw d) me_X6_owedFrom Q 17 [some (am_r 3), some (am_i x1), some (am_i x2), some (am_i x3), some (am_i x4), some (am_i x5), some (am_i x6), o7] [] (rm_h L σ) := by
  intro m
  induction m with
  | zero => intro x1 x2 x3 x4 x5 x6 σ o7 h; cases h
  | succ m ih =>
    intro x1 x2 x3 x4 x5 x6 σ o7 h
    exact tb_X6_owedFrom_17 hd (fun x1 x2 x3 x4 x5 x6 σ h o7 => ih x1 x2 x3 x4 x5 x6 σ o7 h) hQ h
theorem t_X6_owedFrom {L n d : Nat} {Q : am_Post} {p1 : Int} {p2 : Int} {p3 : Int} {p4 : Int} {σ σr : am_Mem} {rr : Int} (hd : 4 < d) (h : f_X6_owedFrom n p1 p2 p3 p4 σ = some (rr, σr)) (hQ : Q (some (am_i rr)) (rm_h L σr)) : xs_aw d me_X6_owedFrom [am_r 3, am_i p1, am_i p2, am_i p3, am_i p4] (rm_h L σ) Q := by
  obtain ⟨d, rfl⟩ : ∃ k, d = k + 1 := ⟨d - 1, by omega⟩
  have hd : 4 ≤ d := by omega
  unfold f_X6_owedFrom at h
  show xs_AW (xs_aw d) me_X6_owedFrom Q 0 [some (am_r 3), some (am_i p1), some (am_i p2), some (am_i p3), some (am_i p4), none, none, none] [] (rm_h L σ)
  refine rr_aload_n dX6_owedFrom_0 rfl ?_
  refine rr_getr (t := 24) dX6_owedFrom_1 fl_6_30 (sh_3 L) ⟨(by decide), by decide⟩ rfl rfl ?_
  refine rr_aload_n dX6_owedFrom_4 rfl ?_
  refine rr_getr (t := 18) dX6_owedFrom_5 fl_6_26 (sh_3 L) ⟨(by decide), by decide⟩ rfl rfl ?_
  obtain ⟨σ3, e1, h⟩ := ab_1 h
  refine rr_Vv (as := [am_r 18]) (rest := []) dX6_owedFrom_8 ml_6_119 (sh_24 L) ⟨(by decide), by decide, by decide⟩ rfl rfl rfl (Nat.le_of_ble_eq_true rfl) ⟨rfl, rfl⟩ (Nat.le_of_ble_eq_true rfl) (fun _ k => t_X5_become (by omega) tw_24 tw_18 e1 k) ?_
  refine rr_iconst dX6_owedFrom_11 (by decide) ?_
  refine rr_istore (ls' := [some (am_r 3), some (am_i p1), some (am_i p2), some (am_i p3), some (am_i p4), some (am_i 0), none, none]) dX6_owedFrom_12 (Nat.le_of_ble_eq_true rfl) rfl ?_
  refine rr_iconst dX6_owedFrom_14 (by decide) ?_
  refine rr_istore (ls' := [some (am_r 3), some (am_i p1), some (am_i p2), some (am_i p3), some (am_i p4), some (am_i 0), some (am_i 0), none]) dX6_owedFrom_15 (Nat.le_of_ble_eq_true rfl) rfl ?_
  exact tl_X6_owedFrom_17 hd hQ n _ _ _ _ _ _ _ _ h
def nw_X6_owedFrom (a : Nat) : Prop := a ≠ 24 ∧ a ≠ 25 ∧ a ≠ 26 ∧ a ≠ 27 ∧ a ≠ 28 ∧ a ≠ 29
theorem wb_X6_owedFrom_17 {n : Nat} {kh17 : Int → Int → Int → Int → Int → Int → am_Mem → Option (Int × am_Mem)} {x1 : Int} {x2 : Int} {x3 : Int} {x4 : Int} {x5 : Int} {x6 : Int} {σ σr : am_Mem} {rr : Int} (hk17 : ∀ (y1 : Int) (y2 : Int) (y3 : Int) (y4 : Int) (y5 : Int) (y6 : Int) (σ : am_Mem), kh17 y1 y2 y3 y4 y5 y6 σ = some (rr, σr) → ∀ a : Nat, nw_X6_owedFrom a → σr a = σ a) (h : fb_X6_owedFrom_17 n kh17 x1 x2 x3 x4 x5 x6 σ = some (rr, σr)) : ∀ a : Nat, nw_X6_owedFrom a → σr a = σ a := by
  unfold fb_X6_owedFrom_17 at h
  have fr : ∀ a : Nat, nw_X6_owedFrom a → σ a = σ a := fun _ _ => rfl
  rcases ab_i h with ⟨c4, h⟩ | ⟨c4, h⟩
  · obtain ⟨g5, h⟩ := ab_g h
    obtain ⟨g6, h⟩ := ab_g h
    obtain ⟨r8, σ9, e7, h⟩ := ab_2 h
    have fr := fun (a : Nat) (ha : nw_X6_owedFrom a) => (congrFun (u_X5_leads e7) a).trans (fr a ha)
    rcases ab_i h with ⟨c10, h⟩ | ⟨c10, h⟩
    · obtain ⟨q1, q2⟩ := ab_r2 h
      exact fun a ha => (congrFun q2.symm a).trans (fr a ha)
    · rcases ab_i h with ⟨c11, h⟩ | ⟨c11, h⟩
      · obtain ⟨σ14, e12, h⟩ := ab_1 h
        have fr := fun (a : Nat) (ha : nw_X6_owedFrom a) => (w_X5_goBy e12 a (by unfold nw_X6_owedFrom at ha; unfold nw_X5_goBy; omega)).trans (fr a ha)
        exact fun a ha => (hk17 _ _ _ _ _ _ _ h a ha).trans (fr a ha)
      · obtain ⟨r16, σ17, e15, h⟩ := ab_2 h
        have fr := fun (a : Nat) (ha : nw_X6_owedFrom a) => (congrFun (u_X5_costBy e15) a).trans (fr a ha)
        obtain ⟨σ20, e18, h⟩ := ab_1 h
        have fr := fun (a : Nat) (ha : nw_X6_owedFrom a) => (w_X5_goBy e18 a (by unfold nw_X6_owedFrom at ha; unfold nw_X5_goBy; omega)).trans (fr a ha)
        exact fun a ha => (hk17 _ _ _ _ _ _ _ h a ha).trans (fr a ha)
  · obtain ⟨q1, q2⟩ := ab_r2 h
    exact fun a ha => (congrFun q2.symm a).trans (fr a ha)
theorem wl_X6_owedFrom_17 {n : Nat} {σr : am_Mem} {rr : Int} : ∀ (m : Nat) (x1 : Int) (x2 : Int) (x3 : Int) (x4 : Int) (x5 : Int) (x6 : Int) (σ : am_Mem), fl_X6_owedFrom_17 n m x1 x2 x3 x4 x5 x6 σ = some (rr, σr) → ∀ a : Nat, nw_X6_owedFrom a → σr a = σ a := by
  intro m
  induction m with
  | zero => intro x1 x2 x3 x4 x5 x6 σ h; cases h
  | succ m ih =>
    intro x1 x2 x3 x4 x5 x6 σ h
    exact wb_X6_owedFrom_17 (fun x1 x2 x3 x4 x5 x6 σ h => ih x1 x2 x3 x4 x5 x6 σ h) h
theorem w_X6_owedFrom {n : Nat} {p1 : Int} {p2 : Int} {p3 : Int} {p4 : Int} {σ σr : am_Mem} {rr : Int} (h : f_X6_owedFrom n p1 p2 p3 p4 σ = some (rr, σr)) : ∀ a : Nat, nw_X6_owedFrom a → σr a = σ a := by
  unfold f_X6_owedFrom at h
  have fr : ∀ a : Nat, nw_X6_owedFrom a → σ a = σ a := fun _ _ => rfl
  obtain ⟨σ3, e1, h⟩ := ab_1 h
  have fr := fun (a : Nat) (ha : nw_X6_owedFrom a) => (w_X5_become e1 a (by unfold nw_X6_owedFrom at ha; unfold nw_X5_become; omega)).trans (fr a ha)
  exact fun a ha => (wl_X6_owedFrom_17 n _ _ _ _ _ _ _ h a ha).trans (fr a ha)
/-! MoodFare.share -/
def f_X6_share (n : Nat) (p1 : Int) (p2 : Int) (p3 : Int) (p4 : Int) (σ : am_Mem) : Option (Int × am_Mem) :=
  am_b2 (f_X5_stands n 18 σ) fun r2 σ3 => if r2 = 0 then (some ((-1000002), σ3)) else (am_b2 (f_X2_isRow n p1 σ3) fun r6 σ7 => if r6 = 0 then (some ((-1000001), σ7)) else (if p3 < 1 then (some ((-1000001), σ7)) else (if p3 ≤ 8 then (if p4 < 0 then (some ((-1000001), σ7)) else (if p4 < p3 then (am_b2 (f_X2_findingOf n p1 p2 p3 σ7) fun r14 σ15 => if r14 = 0 then (am_b2 (f_X6_owedFrom n p1 p2 p3 p4 σ15) fun r18 σ19 => am_b2 (f_X6_unfound n r18 σ19) fun r21 σ22 => some (r21, σ22)) else (am_b2 (f_X6_found n r14 σ15) fun r24 σ25 => some (r24, σ25))) else (some ((-1000001), σ7)))) else (some ((-1000001), σ7)))))
theorem t_X6_share {L n d : Nat} {Q : am_Post} {p1 : Int} {p2 : Int} {p3 : Int} {p4 : Int} {σ σr : am_Mem} {rr : Int} (hd : 5 < d) (h : f_X6_share n p1 p2 p3 p4 σ = some (rr, σr)) (hQ : Q (some (am_i rr)) (rm_h L σr)) : xs_aw d me_X6_share [am_r 3, am_i p1, am_i p2, am_i p3, am_i p4] (rm_h L σ) Q := by
  obtain ⟨d, rfl⟩ : ∃ k, d = k + 1 := ⟨d - 1, by omega⟩
  have hd : 5 ≤ d := by omega
  unfold f_X6_share at h
  show xs_AW (xs_aw d) me_X6_share Q 0 [some (am_r 3), some (am_i p1), some (am_i p2), some (am_i p3), some (am_i p4), none] [] (rm_h L σ)
  refine rr_aload_n dX6_share_0 rfl ?_
  refine rr_getr (t := 18) dX6_share_1 fl_6_26 (sh_3 L) ⟨(by decide), by decide⟩ rfl rfl ?_
  obtain ⟨r2, σ3, e1, h⟩ := ab_2 h
  refine rr_Vi (as := []) (rest := []) dX6_share_4 ml_6_163 (sh_18 L) ⟨(by decide), by decide, by decide⟩ rfl rfl rfl (Nat.le_of_ble_eq_true rfl) ⟨rfl, rfl⟩ (Nat.le_of_ble_eq_true rfl) (fun _ k => t_X5_stands (by omega) tw_18 e1 k) ?_
  rcases ab_i h with ⟨c4, h⟩ | ⟨c4, h⟩
  · refine rr_if_ne_p (t := 13) dX6_share_7 (by decide) c4 ?_
    refine rr_ldc dX6_share_10 cs_6_135 ?_
    obtain ⟨rfl, rfl⟩ := ab_r2 h
    exact rr_iret dX6_share_12 rfl hQ
  · refine rr_if_ne_n (t := 13) dX6_share_7 (by decide) c4 ?_
    refine rr_iload_n dX6_share_13 rfl ?_
    obtain ⟨r6, σ7, e5, h⟩ := ab_2 h
    refine rr_Si (as := [am_i p1]) (rest := []) dX6_share_14 ml_6_65 (Or.inl rfl) rfl rfl (Nat.le_of_ble_eq_true rfl) ⟨rfl, rfl⟩ (Nat.le_of_ble_eq_true rfl) (fun _ k => t_X2_isRow (by omega) e5 k) ?_
    rcases ab_i h with ⟨c8, h⟩ | ⟨c8, h⟩
    · refine rr_if_eq_p (t := 42) dX6_share_17 (by decide) c8 ?_
      refine rr_ldc dX6_share_42 cs_6_69 ?_
      obtain ⟨rfl, rfl⟩ := ab_r2 h
      exact rr_iret dX6_share_44 rfl hQ
    · refine rr_if_eq_n (t := 42) dX6_share_17 (by decide) c8 ?_
      refine rr_iload_n dX6_share_20 rfl ?_
      refine rr_iconst dX6_share_21 (by decide) ?_
      rcases ab_i h with ⟨c9, h⟩ | ⟨c9, h⟩
      · refine rr_icmp_lt_p (t := 42) dX6_share_22 (by decide) c9 ?_
        refine rr_ldc dX6_share_42 cs_6_69 ?_
        obtain ⟨rfl, rfl⟩ := ab_r2 h
        exact rr_iret dX6_share_44 rfl hQ
      · refine rr_icmp_lt_n (t := 42) dX6_share_22 (by decide) c9 ?_
        refine rr_iload_n dX6_share_25 rfl ?_
        refine rr_bipush dX6_share_26 (by decide) ?_
        rcases ab_i h with ⟨c10, h⟩ | ⟨c10, h⟩
        · refine rr_icmp_gt_p (t := 42) dX6_share_28 (by decide) c10 ?_
          refine rr_iload dX6_share_31 rfl ?_
          rcases ab_i h with ⟨c11, h⟩ | ⟨c11, h⟩
          · refine rr_if_lt_p (t := 42) dX6_share_33 (by decide) c11 ?_
            refine rr_ldc dX6_share_42 cs_6_69 ?_
            obtain ⟨rfl, rfl⟩ := ab_r2 h
            exact rr_iret dX6_share_44 rfl hQ
          · refine rr_if_lt_n (t := 42) dX6_share_33 (by decide) c11 ?_
            refine rr_iload dX6_share_36 rfl ?_
            refine rr_iload_n dX6_share_38 rfl ?_
            rcases ab_i h with ⟨c12, h⟩ | ⟨c12, h⟩
            · refine rr_icmp_lt_p (t := 45) dX6_share_39 (by decide) c12 ?_
              refine rr_aload_n dX6_share_45 rfl ?_
              refine rr_getr (t := 4) dX6_share_46 fl_6_10 (sh_3 L) ⟨(by decide), by decide⟩ rfl rfl ?_
              refine rr_iload_n dX6_share_49 rfl ?_
              refine rr_iload_n dX6_share_50 rfl ?_
              refine rr_iload_n dX6_share_51 rfl ?_
              obtain ⟨r14, σ15, e13, h⟩ := ab_2 h
              refine rr_Vi (as := [am_i p1, am_i p2, am_i p3]) (rest := []) dX6_share_52 ml_6_81 (sh_4 L) ⟨(by decide), by decide, by decide⟩ rfl rfl rfl (Nat.le_of_ble_eq_true rfl) ⟨rfl, rfl⟩ (Nat.le_of_ble_eq_true rfl) (fun _ k => t_X2_findingOf (by omega) e13 k) ?_
              refine rr_istore (ls' := [some (am_r 3), some (am_i p1), some (am_i p2), some (am_i p3), some (am_i p4), some (am_i r14)]) dX6_share_55 (Nat.le_of_ble_eq_true rfl) rfl ?_
              refine rr_iload dX6_share_57 rfl ?_
              rcases ab_i h with ⟨c16, h⟩ | ⟨c16, h⟩
              · refine rr_if_eq_p (t := 69) dX6_share_59 (by decide) c16 ?_
                refine rr_aload_n dX6_share_69 rfl ?_
                refine rr_aload_n dX6_share_70 rfl ?_
                refine rr_iload_n dX6_share_71 rfl ?_
                refine rr_iload_n dX6_share_72 rfl ?_
                refine rr_iload_n dX6_share_73 rfl ?_
                refine rr_iload dX6_share_74 rfl ?_
                obtain ⟨r18, σ19, e17, h⟩ := ab_2 h
                refine rr_Vi (as := [am_i p1, am_i p2, am_i p3, am_i p4]) (rest := [am_r 3]) dX6_share_76 ml_6_243 (sh_3 L) ⟨(by decide), by decide, by decide⟩ rfl rfl rfl (Nat.le_of_ble_eq_true rfl) ⟨rfl, rfl⟩ (Nat.le_of_ble_eq_true rfl) (fun _ k => t_X6_owedFrom (by omega) e17 k) ?_
                obtain ⟨r21, σ22, e20, h⟩ := ab_2 h
                refine rr_Vi (as := [am_i r18]) (rest := []) dX6_share_79 ml_6_78 (sh_3 L) ⟨(by decide), by decide, by decide⟩ rfl rfl rfl (Nat.le_of_ble_eq_true rfl) ⟨rfl, rfl⟩ (Nat.le_of_ble_eq_true rfl) (fun _ k => t_X6_unfound (by omega) e20 k) ?_
                obtain ⟨rfl, rfl⟩ := ab_r2 h
                exact rr_iret dX6_share_82 rfl hQ
              · refine rr_if_eq_n (t := 69) dX6_share_59 (by decide) c16 ?_
                refine rr_aload_n dX6_share_62 rfl ?_
                refine rr_iload dX6_share_63 rfl ?_
                obtain ⟨r24, σ25, e23, h⟩ := ab_2 h
                refine rr_Vi (as := [am_i r14]) (rest := []) dX6_share_65 ml_6_70 (sh_3 L) ⟨(by decide), by decide, by decide⟩ rfl rfl rfl (Nat.le_of_ble_eq_true rfl) ⟨rfl, rfl⟩ (Nat.le_of_ble_eq_true rfl) (fun _ k => t_X6_found (by omega) e23 k) ?_
                obtain ⟨rfl, rfl⟩ := ab_r2 h
                exact rr_iret dX6_share_68 rfl hQ
            · refine rr_icmp_lt_n (t := 45) dX6_share_39 (by decide) c12 ?_
              refine rr_ldc dX6_share_42 cs_6_69 ?_
              obtain ⟨rfl, rfl⟩ := ab_r2 h
              exact rr_iret dX6_share_44 rfl hQ
        · refine rr_icmp_gt_n (t := 42) dX6_share_28 (by decide) c10 ?_
          refine rr_ldc dX6_share_42 cs_6_69 ?_
          obtain ⟨rfl, rfl⟩ := ab_r2 h
          exact rr_iret dX6_share_44 rfl hQ
def nw_X6_share (a : Nat) : Prop := a ≠ 24 ∧ a ≠ 25 ∧ a ≠ 26 ∧ a ≠ 27 ∧ a ≠ 28 ∧ a ≠ 29 ∧ a ≠ 3
theorem w_X6_share {n : Nat} {p1 : Int} {p2 : Int} {p3 : Int} {p4 : Int} {σ σr : am_Mem} {rr : Int} (h : f_X6_share n p1 p2 p3 p4 σ = some (rr, σr)) : ∀ a : Nat, nw_X6_share a → σr a = σ a := by
  unfold f_X6_share at h
  have fr : ∀ a : Nat, nw_X6_share a → σ a = σ a := fun _ _ => rfl
  obtain ⟨r2, σ3, e1, h⟩ := ab_2 h
  have fr := fun (a : Nat) (ha : nw_X6_share a) => (congrFun (u_X5_stands e1) a).trans (fr a ha)
  rcases ab_i h with ⟨c4, h⟩ | ⟨c4, h⟩
  · obtain ⟨q1, q2⟩ := ab_r2 h
    exact fun a ha => (congrFun q2.symm a).trans (fr a ha)
  · obtain ⟨r6, σ7, e5, h⟩ := ab_2 h
    have fr := fun (a : Nat) (ha : nw_X6_share a) => (congrFun (u_X2_isRow e5) a).trans (fr a ha)
    rcases ab_i h with ⟨c8, h⟩ | ⟨c8, h⟩
    · obtain ⟨q1, q2⟩ := ab_r2 h
      exact fun a ha => (congrFun q2.symm a).trans (fr a ha)
    · rcases ab_i h with ⟨c9, h⟩ | ⟨c9, h⟩
      · obtain ⟨q1, q2⟩ := ab_r2 h
        exact fun a ha => (congrFun q2.symm a).trans (fr a ha)
      · rcases ab_i h with ⟨c10, h⟩ | ⟨c10, h⟩
        · rcases ab_i h with ⟨c11, h⟩ | ⟨c11, h⟩
          · obtain ⟨q1, q2⟩ := ab_r2 h
            exact fun a ha => (congrFun q2.symm a).trans (fr a ha)
          · rcases ab_i h with ⟨c12, h⟩ | ⟨c12, h⟩
            · obtain ⟨r14, σ15, e13, h⟩ := ab_2 h
              have fr := fun (a : Nat) (ha : nw_X6_share a) => (congrFun (u_X2_findingOf e13) a).trans (fr a ha)
              rcases ab_i h with ⟨c16, h⟩ | ⟨c16, h⟩
              · obtain ⟨r18, σ19, e17, h⟩ := ab_2 h
                have fr := fun (a : Nat) (ha : nw_X6_share a) => (w_X6_owedFrom e17 a (by unfold nw_X6_share at ha; unfold nw_X6_owedFrom; omega)).trans (fr a ha)
                obtain ⟨r21, σ22, e20, h⟩ := ab_2 h
                have fr := fun (a : Nat) (ha : nw_X6_share a) => (w_X6_unfound e20 a (by unfold nw_X6_share at ha; unfold nw_X6_unfound; omega)).trans (fr a ha)
                obtain ⟨q1, q2⟩ := ab_r2 h
                exact fun a ha => (congrFun q2.symm a).trans (fr a ha)
              · obtain ⟨r24, σ25, e23, h⟩ := ab_2 h
                have fr := fun (a : Nat) (ha : nw_X6_share a) => (w_X6_found e23 a (by unfold nw_X6_share at ha; unfold nw_X6_found; omega)).trans (fr a ha)
                obtain ⟨q1, q2⟩ := ab_r2 h
                exact fun a ha => (congrFun q2.symm a).trans (fr a ha)
            · obtain ⟨q1, q2⟩ := ab_r2 h
              exact fun a ha => (congrFun q2.symm a).trans (fr a ha)
        · obtain ⟨q1, q2⟩ := ab_r2 h
          exact fun a ha => (congrFun q2.symm a).trans (fr a ha)
/-! MoodFare.commonDivisor -/
def fb_X6_commonDivisor_7 (n : Nat) (kh7 : Int → Int → Int → am_Mem → Option (Int × am_Mem)) (x2 : Int) (x3 : Int) (x4 : Int) (σ : am_Mem) : Option (Int × am_Mem) :=
  if x4 < 64 then (if x3 = 0 then (some (x2, σ)) else (if x3 ≠ 0 then kh7 x3 (Int.tmod x2 x3) (am_w (x4 + 1)) σ else none)) else (some (x2, σ))
def fl_X6_commonDivisor_7 (n : Nat) : Nat → Int → Int → Int → am_Mem → Option (Int × am_Mem)
  | 0, _, _, _, _ => none
  | m + 1, x2, x3, x4, σ => fb_X6_commonDivisor_7 n (fun yx2 yx3 yx4 σ => fl_X6_commonDivisor_7 n m yx2 yx3 yx4 σ) x2 x3 x4 σ
def f_X6_commonDivisor (n : Nat) (p0 : Int) (p1 : Int) (σ : am_Mem) : Option (Int × am_Mem) :=
  fl_X6_commonDivisor_7 n n p1 p0 0 σ
theorem tb_X6_commonDivisor_7 {L n d : Nat} {Q : am_Post} {kh7 : Int → Int → Int → am_Mem → Option (Int × am_Mem)} {x2 : Int} {x3 : Int} {x4 : Int} {o0 : Int} {o1 : Int} {o5 : Option am_V} {σ σr : am_Mem} {rr : Int} (hd : 0 ≤ d) (hk7 : ∀ (y2 : Int) (y3 : Int) (y4 : Int) (σ : am_Mem), kh7 y2 y3 y4 σ = some (rr, σr) → ∀ (o0 : Int) (o1 : Int) (o5 : Option am_V), xs_AW (xs_aw d) me_X6_commonDivisor Q 7 [some (am_i o0), some (am_i o1), some (am_i y2), some (am_i y3), some (am_i y4), o5] [] (rm_h L σ)) (hQ : Q (some (am_i rr)) (rm_h L σr)) (h : fb_X6_commonDivisor_7 n kh7 x2 x3 x4 σ = some (rr, σr)) : xs_AW (xs_aw d) me_X6_commonDivisor Q 7 [some (am_i o0), some (am_i o1), some (am_i x2), some (am_i x3), some (am_i x4), o5] [] (rm_h L σ) := by
  unfold fb_X6_commonDivisor_7 at h
  refine rr_iload dX6_commonDivisor_7 rfl ?_
  refine rr_bipush dX6_commonDivisor_9 (by decide) ?_
  rcases ab_i h with ⟨c1, h⟩ | ⟨c1, h⟩
  · refine rr_icmp_ge_p (t := 34) dX6_commonDivisor_11 (by decide) c1 ?_
    refine rr_iload_n dX6_commonDivisor_14 rfl ?_
    rcases ab_i h with ⟨c2, h⟩ | ⟨c2, h⟩
    · refine rr_if_eq_p (t := 34) dX6_commonDivisor_15 (by decide) c2 ?_
      refine rr_iload_n dX6_commonDivisor_34 rfl ?_
      obtain ⟨rfl, rfl⟩ := ab_r2 h
      exact rr_iret dX6_commonDivisor_35 rfl hQ
    · refine rr_if_eq_n (t := 34) dX6_commonDivisor_15 (by decide) c2 ?_
      refine rr_iload_n dX6_commonDivisor_18 rfl ?_
      refine rr_iload_n dX6_commonDivisor_19 rfl ?_
      obtain ⟨g3, h⟩ := ab_g h
      refine rr_irem dX6_commonDivisor_20 g3 ?_
      refine rr_istore (ls' := [some (am_i o0), some (am_i o1), some (am_i x2), some (am_i x3), some (am_i x4), some (am_i (Int.tmod x2 x3))]) dX6_commonDivisor_21 (Nat.le_of_ble_eq_true rfl) rfl ?_
      refine rr_iload_n dX6_commonDivisor_23 rfl ?_
      refine rr_istore_n (ls' := [some (am_i o0), some (am_i o1), some (am_i x3), some (am_i x3), some (am_i x4), some (am_i (Int.tmod x2 x3))]) dX6_commonDivisor_24 (Nat.le_of_ble_eq_true rfl) rfl ?_
      refine rr_iload dX6_commonDivisor_25 rfl ?_
      refine rr_istore_n (ls' := [some (am_i o0), some (am_i o1), some (am_i x3), some (am_i (Int.tmod x2 x3)), some (am_i x4), some (am_i (Int.tmod x2 x3))]) dX6_commonDivisor_27 (Nat.le_of_ble_eq_true rfl) rfl ?_
      refine rr_iinc (ls' := [some (am_i o0), some (am_i o1), some (am_i x3), some (am_i (Int.tmod x2 x3)), some (am_i (am_w (x4 + 1))), some (am_i (Int.tmod x2 x3))]) dX6_commonDivisor_28 rfl (Nat.le_of_ble_eq_true rfl) rfl ?_
      refine rr_goto (t := 7) dX6_commonDivisor_31 (by decide) ?_
      exact hk7 _ _ _ _ h _ _ _
  · refine rr_icmp_ge_n (t := 34) dX6_commonDivisor_11 (by decide) c1 ?_
    refine rr_iload_n dX6_commonDivisor_34 rfl ?_
    obtain ⟨rfl, rfl⟩ := ab_r2 h
    exact rr_iret dX6_commonDivisor_35 rfl hQ
theorem tl_X6_commonDivisor_7 {L n d : Nat} {Q : am_Post} {σr : am_Mem} {rr : Int} (hd : 0 ≤ d) (hQ : Q (some (am_i rr)) (rm_h L σr)) : ∀ (m : Nat) (x2 : Int) (x3 : Int) (x4 : Int) (σ : am_Mem) (o0 : Int) (o1 : Int) (o5 : Option am_V), fl_X6_commonDivisor_7 n m x2 x3 x4 σ = some (rr, σr) → xs_AW (xs_aw d) me_X6_commonDivisor Q 7 [some (am_i o0), some (am_i o1), some (am_i x2), some (am_i x3), some (am_i x4), o5] [] (rm_h L σ) := by
  intro m
  induction m with
  | zero => intro x2 x3 x4 σ o0 o1 o5 h; cases h
  | succ m ih =>
    intro x2 x3 x4 σ o0 o1 o5 h
    exact tb_X6_commonDivisor_7 hd (fun x2 x3 x4 σ h o0 o1 o5 => ih x2 x3 x4 σ o0 o1 o5 h) hQ h
theorem t_X6_commonDivisor {L n d : Nat} {Q : am_Post} {p0 : Int} {p1 : Int} {σ σr : am_Mem} {rr : Int} (hd : 0 < d) (h : f_X6_commonDivisor n p0 p1 σ = some (rr, σr)) (hQ : Q (some (am_i rr)) (rm_h L σr)) : xs_aw d me_X6_commonDivisor [am_i p0, am_i p1] (rm_h L σ) Q := by
  obtain ⟨d, rfl⟩ : ∃ k, d = k + 1 := ⟨d - 1, by omega⟩
  have hd : 0 ≤ d := by omega
  unfold f_X6_commonDivisor at h
  show xs_AW (xs_aw d) me_X6_commonDivisor Q 0 [some (am_i p0), some (am_i p1), none, none, none, none] [] (rm_h L σ)
  refine rr_iload_n dX6_commonDivisor_0 rfl ?_
  refine rr_istore_n (ls' := [some (am_i p0), some (am_i p1), some (am_i p1), none, none, none]) dX6_commonDivisor_1 (Nat.le_of_ble_eq_true rfl) rfl ?_
  refine rr_iload_n dX6_commonDivisor_2 rfl ?_
  refine rr_istore_n (ls' := [some (am_i p0), some (am_i p1), some (am_i p1), some (am_i p0), none, none]) dX6_commonDivisor_3 (Nat.le_of_ble_eq_true rfl) rfl ?_
  refine rr_iconst dX6_commonDivisor_4 (by decide) ?_
  refine rr_istore (ls' := [some (am_i p0), some (am_i p1), some (am_i p1), some (am_i p0), some (am_i 0), none]) dX6_commonDivisor_5 (Nat.le_of_ble_eq_true rfl) rfl ?_
  exact tl_X6_commonDivisor_7 hd hQ n _ _ _ _ _ _ _ h
theorem ub_X6_commonDivisor_7 {n : Nat} {kh7 : Int → Int → Int → am_Mem → Option (Int × am_Mem)} {x2 : Int} {x3 : Int} {x4 : Int} {σ σr : am_Mem} {rr : Int} (hk7 : ∀ (y2 : Int) (y3 : Int) (y4 : Int) (σ : am_Mem), kh7 y2 y3 y4 σ = some (rr, σr) → σr = σ) (h : fb_X6_commonDivisor_7 n kh7 x2 x3 x4 σ = some (rr, σr)) : σr = σ := by
  unfold fb_X6_commonDivisor_7 at h
  have fr : σ = σ := rfl
  rcases ab_i h with ⟨c1, h⟩ | ⟨c1, h⟩
  · rcases ab_i h with ⟨c2, h⟩ | ⟨c2, h⟩
    · obtain ⟨q1, q2⟩ := ab_r2 h
      exact q2.symm.trans fr
    · obtain ⟨g3, h⟩ := ab_g h
      exact (hk7 _ _ _ _ h).trans fr
  · obtain ⟨q1, q2⟩ := ab_r2 h
    exact q2.symm.trans fr
theorem ul_X6_commonDivisor_7 {n : Nat} {σr : am_Mem} {rr : Int} : ∀ (m : Nat) (x2 : Int) (x3 : Int) (x4 : Int) (σ : am_Mem), fl_X6_commonDivisor_7 n m x2 x3 x4 σ = some (rr, σr) → σr = σ := by
  intro m
  induction m with
  | zero => intro x2 x3 x4 σ h; cases h
  | succ m ih =>
    intro x2 x3 x4 σ h
    exact ub_X6_commonDivisor_7 (fun x2 x3 x4 σ h => ih x2 x3 x4 σ h) h
theorem u_X6_commonDivisor {n : Nat} {p0 : Int} {p1 : Int} {σ σr : am_Mem} {rr : Int} (h : f_X6_commonDivisor n p0 p1 σ = some (rr, σr)) : σr = σ := by
  unfold f_X6_commonDivisor at h
  have fr : σ = σ := rfl
  exact (ul_X6_commonDivisor_7 n _ _ _ _ h).trans fr
/-! MoodFare.shut -/
def f_X6_shut (n : Nat) (p1 : Int) (p2 : Int) (p3 : Int) (p4 : Int) (σ : am_Mem) : Option (Int × am_Mem) :=
  am_b2 (f_X5_hasCorner n 18 p1 σ) fun r2 σ3 => if r2 = 0 then (some ((-1000001), σ3)) else (if p2 < 0 then (some ((-1000001), σ3)) else (if p2 ≤ 999 then (if p3 < 0 then (some ((-1000001), σ3)) else (if p3 ≤ 10 then (if p4 < 0 then (some ((-1000001), σ3)) else (if p4 ≤ 1 then (am_b1 (f_X3_seekWithin n 18 p1 p2 σ3) fun σ13 => am_b2 (f_X3_weightOfEnough n (σ13 18 8) p3 σ13) fun r15 σ16 => am_b2 (f_J6_bitCount_0f7a4 n (σ16 18 8) σ16) fun r18 σ19 => am_b2 (f_X6_power n 10 r18 σ19) fun r21 σ22 => am_b2 (f_X6_commonDivisor n r15 r21 σ22) fun r24 σ25 => if p4 = 0 then (if (if 1 < r24 then r24 else 1) ≠ 0 then some (am_w (Int.tdiv r15 (if 1 < r24 then r24 else 1)), σ25) else none) else (if (if 1 < r24 then r24 else 1) ≠ 0 then some (am_w (Int.tdiv r21 (if 1 < r24 then r24 else 1)), σ25) else none)) else (some ((-1000001), σ3)))) else (some ((-1000001), σ3)))) else (some ((-1000001), σ3))))
theorem t_X6_shut {L n d : Nat} {Q : am_Post} {p1 : Int} {p2 : Int} {p3 : Int} {p4 : Int} {σ σr : am_Mem} {rr : Int} (hd : 15 < d) (h : f_X6_shut n p1 p2 p3 p4 σ = some (rr, σr)) (hQ : Q (some (am_i rr)) (rm_h L σr)) : xs_aw d me_X6_shut [am_r 3, am_i p1, am_i p2, am_i p3, am_i p4] (rm_h L σ) Q := by
  obtain ⟨d, rfl⟩ : ∃ k, d = k + 1 := ⟨d - 1, by omega⟩
  have hd : 15 ≤ d := by omega
  unfold f_X6_shut at h
  show xs_AW (xs_aw d) me_X6_shut Q 0 [some (am_r 3), some (am_i p1), some (am_i p2), some (am_i p3), some (am_i p4), none, none, none] [] (rm_h L σ)
  refine rr_aload_n dX6_shut_0 rfl ?_
  refine rr_getr (t := 18) dX6_shut_1 fl_6_26 (sh_3 L) ⟨(by decide), by decide⟩ rfl rfl ?_
  refine rr_iload_n dX6_shut_4 rfl ?_
  obtain ⟨r2, σ3, e1, h⟩ := ab_2 h
  refine rr_Vi (as := [am_i p1]) (rest := []) dX6_shut_5 ml_6_156 (sh_18 L) ⟨(by decide), by decide, by decide⟩ rfl rfl rfl (Nat.le_of_ble_eq_true rfl) ⟨rfl, rfl⟩ (Nat.le_of_ble_eq_true rfl) (fun _ k => t_X5_hasCorner (by omega) tw_18 e1 k) ?_
  rcases ab_i h with ⟨c4, h⟩ | ⟨c4, h⟩
  · refine rr_if_eq_p (t := 43) dX6_shut_8 (by decide) c4 ?_
    refine rr_ldc dX6_shut_43 cs_6_69 ?_
    obtain ⟨rfl, rfl⟩ := ab_r2 h
    exact rr_iret dX6_shut_45 rfl hQ
  · refine rr_if_eq_n (t := 43) dX6_shut_8 (by decide) c4 ?_
    refine rr_iload_n dX6_shut_11 rfl ?_
    rcases ab_i h with ⟨c5, h⟩ | ⟨c5, h⟩
    · refine rr_if_lt_p (t := 43) dX6_shut_12 (by decide) c5 ?_
      refine rr_ldc dX6_shut_43 cs_6_69 ?_
      obtain ⟨rfl, rfl⟩ := ab_r2 h
      exact rr_iret dX6_shut_45 rfl hQ
    · refine rr_if_lt_n (t := 43) dX6_shut_12 (by decide) c5 ?_
      refine rr_iload_n dX6_shut_15 rfl ?_
      refine rr_sipush dX6_shut_16 (by decide) ?_
      rcases ab_i h with ⟨c6, h⟩ | ⟨c6, h⟩
      · refine rr_icmp_gt_p (t := 43) dX6_shut_19 (by decide) c6 ?_
        refine rr_iload_n dX6_shut_22 rfl ?_
        rcases ab_i h with ⟨c7, h⟩ | ⟨c7, h⟩
        · refine rr_if_lt_p (t := 43) dX6_shut_23 (by decide) c7 ?_
          refine rr_ldc dX6_shut_43 cs_6_69 ?_
          obtain ⟨rfl, rfl⟩ := ab_r2 h
          exact rr_iret dX6_shut_45 rfl hQ
        · refine rr_if_lt_n (t := 43) dX6_shut_23 (by decide) c7 ?_
          refine rr_iload_n dX6_shut_26 rfl ?_
          refine rr_bipush dX6_shut_27 (by decide) ?_
          rcases ab_i h with ⟨c8, h⟩ | ⟨c8, h⟩
          · refine rr_icmp_gt_p (t := 43) dX6_shut_29 (by decide) c8 ?_
            refine rr_iload dX6_shut_32 rfl ?_
            rcases ab_i h with ⟨c9, h⟩ | ⟨c9, h⟩
            · refine rr_if_lt_p (t := 43) dX6_shut_34 (by decide) c9 ?_
              refine rr_ldc dX6_shut_43 cs_6_69 ?_
              obtain ⟨rfl, rfl⟩ := ab_r2 h
              exact rr_iret dX6_shut_45 rfl hQ
            · refine rr_if_lt_n (t := 43) dX6_shut_34 (by decide) c9 ?_
              refine rr_iload dX6_shut_37 rfl ?_
              refine rr_iconst dX6_shut_39 (by decide) ?_
              rcases ab_i h with ⟨c10, h⟩ | ⟨c10, h⟩
              · refine rr_icmp_le_p (t := 46) dX6_shut_40 (by decide) c10 ?_
                refine rr_aload_n dX6_shut_46 rfl ?_
                refine rr_getr (t := 69) dX6_shut_47 fl_6_47 (sh_3 L) ⟨(by decide), by decide⟩ rfl rfl ?_
                refine rr_aload_n dX6_shut_50 rfl ?_
                refine rr_getr (t := 18) dX6_shut_51 fl_6_26 (sh_3 L) ⟨(by decide), by decide⟩ rfl rfl ?_
                refine rr_iload_n dX6_shut_54 rfl ?_
                refine rr_iload_n dX6_shut_55 rfl ?_
                obtain ⟨σ13, e11, h⟩ := ab_1 h
                refine rr_Vv (as := [am_r 18, am_i p1, am_i p2]) (rest := []) dX6_shut_56 ml_6_247 (sh_69 L) ⟨(by decide), by decide, by decide⟩ rfl rfl rfl (Nat.le_of_ble_eq_true rfl) ⟨rfl, rfl⟩ (Nat.le_of_ble_eq_true rfl) (fun _ k => t_X3_seekWithin (by omega) tw_18 e11 k) ?_
                refine rr_aload_n dX6_shut_59 rfl ?_
                refine rr_getr (t := 69) dX6_shut_60 fl_6_47 (sh_3 L) ⟨(by decide), by decide⟩ rfl rfl ?_
                refine rr_aload_n dX6_shut_63 rfl ?_
                refine rr_getr (t := 18) dX6_shut_64 fl_6_26 (sh_3 L) ⟨(by decide), by decide⟩ rfl rfl ?_
                refine rr_geti (kz := 8) dX6_shut_67 fl_6_173 (sh_18 L) ⟨(by decide), by decide⟩ rfl rfl ?_
                refine rr_iload_n dX6_shut_70 rfl ?_
                obtain ⟨r15, σ16, e14, h⟩ := ab_2 h
                refine rr_Vi (as := [am_i (σ13 18 8), am_i p3]) (rest := []) dX6_shut_71 ml_6_251 (sh_69 L) ⟨(by decide), by decide, by decide⟩ rfl rfl rfl (Nat.le_of_ble_eq_true rfl) ⟨rfl, rfl⟩ (Nat.le_of_ble_eq_true rfl) (fun _ k => t_X3_weightOfEnough (by omega) e14 k) ?_
                refine rr_istore (ls' := [some (am_r 3), some (am_i p1), some (am_i p2), some (am_i p3), some (am_i p4), some (am_i r15), none, none]) dX6_shut_74 (Nat.le_of_ble_eq_true rfl) rfl ?_
                refine rr_bipush dX6_shut_76 (by decide) ?_
                refine rr_aload_n dX6_shut_78 rfl ?_
                refine rr_getr (t := 18) dX6_shut_79 fl_6_26 (sh_3 L) ⟨(by decide), by decide⟩ rfl rfl ?_
                refine rr_geti (kz := 8) dX6_shut_82 fl_6_173 (sh_18 L) ⟨(by decide), by decide⟩ rfl rfl ?_
                obtain ⟨r18, σ19, e17, h⟩ := ab_2 h
                refine rr_Si (as := [am_i (σ16 18 8)]) (rest := [am_i 10]) dX6_shut_85 ml_6_255 (Or.inl rfl) rfl rfl (Nat.le_of_ble_eq_true rfl) ⟨rfl, rfl⟩ (Nat.le_of_ble_eq_true rfl) (fun _ k => t_J6_bitCount_0f7a4 (by omega) e17 k) ?_
                obtain ⟨r21, σ22, e20, h⟩ := ab_2 h
                refine rr_Si (as := [am_i 10, am_i r18]) (rest := []) dX6_shut_88 ml_6_260 (Or.inl rfl) rfl rfl (Nat.le_of_ble_eq_true rfl) ⟨rfl, rfl⟩ (Nat.le_of_ble_eq_true rfl) (fun _ k => t_X6_power (by omega) e20 k) ?_
                refine rr_istore (ls' := [some (am_r 3), some (am_i p1), some (am_i p2), some (am_i p3), some (am_i p4), some (am_i r15), some (am_i r21), none]) dX6_shut_91 (Nat.le_of_ble_eq_true rfl) rfl ?_
                refine rr_iconst dX6_shut_93 (by decide) ?_
                refine rr_iload dX6_shut_94 rfl ?_
                refine rr_iload dX6_shut_96 rfl ?_
                obtain ⟨r24, σ25, e23, h⟩ := ab_2 h
                refine rr_Si (as := [am_i r15, am_i r21]) (rest := [am_i 1]) dX6_shut_98 ml_6_263 (Or.inl rfl) rfl rfl (Nat.le_of_ble_eq_true rfl) ⟨rfl, rfl⟩ (Nat.le_of_ble_eq_true rfl) (fun _ k => t_X6_commonDivisor (by omega) e23 k) ?_
                refine rr_max dX6_shut_101 ml_6_266 (Nat.le_of_ble_eq_true rfl) ?_
                refine rr_istore (ls' := [some (am_r 3), some (am_i p1), some (am_i p2), some (am_i p3), some (am_i p4), some (am_i r15), some (am_i r21), some (am_i (if 1 < r24 then r24 else 1))]) dX6_shut_104 (Nat.le_of_ble_eq_true rfl) rfl ?_
                refine rr_iload dX6_shut_106 rfl ?_
                rcases ab_i h with ⟨c26, h⟩ | ⟨c26, h⟩
                · refine rr_if_ne_p (t := 116) dX6_shut_108 (by decide) c26 ?_
                  refine rr_iload dX6_shut_111 rfl ?_
                  refine rr_goto (t := 118) dX6_shut_113 (by decide) ?_
                  refine rr_iload dX6_shut_118 rfl ?_
                  obtain ⟨g27, h⟩ := ab_g h
                  refine rr_idiv dX6_shut_120 g27 ?_
                  obtain ⟨rfl, rfl⟩ := ab_r2 h
                  exact rr_iret dX6_shut_121 rfl hQ
                · refine rr_if_ne_n (t := 116) dX6_shut_108 (by decide) c26 ?_
                  refine rr_iload dX6_shut_116 rfl ?_
                  refine rr_iload dX6_shut_118 rfl ?_
                  obtain ⟨g28, h⟩ := ab_g h
                  refine rr_idiv dX6_shut_120 g28 ?_
                  obtain ⟨rfl, rfl⟩ := ab_r2 h
                  exact rr_iret dX6_shut_121 rfl hQ
              · refine rr_icmp_le_n (t := 46) dX6_shut_40 (by decide) c10 ?_
                refine rr_ldc dX6_shut_43 cs_6_69 ?_
                obtain ⟨rfl, rfl⟩ := ab_r2 h
                exact rr_iret dX6_shut_45 rfl hQ
          · refine rr_icmp_gt_n (t := 43) dX6_shut_29 (by decide) c8 ?_
            refine rr_ldc dX6_shut_43 cs_6_69 ?_
            obtain ⟨rfl, rfl⟩ := ab_r2 h
            exact rr_iret dX6_shut_45 rfl hQ
      · refine rr_icmp_gt_n (t := 43) dX6_shut_19 (by decide) c6 ?_
        refine rr_ldc dX6_shut_43 cs_6_69 ?_
        obtain ⟨rfl, rfl⟩ := ab_r2 h
        exact rr_iret dX6_shut_45 rfl hQ
def nw_X6_shut (a : Nat) : Prop := a ≠ 69 ∧ a ≠ 70 ∧ a ≠ 71 ∧ a ≠ 72
theorem w_X6_shut {n : Nat} {p1 : Int} {p2 : Int} {p3 : Int} {p4 : Int} {σ σr : am_Mem} {rr : Int} (h : f_X6_shut n p1 p2 p3 p4 σ = some (rr, σr)) : ∀ a : Nat, nw_X6_shut a → σr a = σ a := by
  unfold f_X6_shut at h
  have fr : ∀ a : Nat, nw_X6_shut a → σ a = σ a := fun _ _ => rfl
  obtain ⟨r2, σ3, e1, h⟩ := ab_2 h
  have fr := fun (a : Nat) (ha : nw_X6_shut a) => (congrFun (u_X5_hasCorner e1) a).trans (fr a ha)
  rcases ab_i h with ⟨c4, h⟩ | ⟨c4, h⟩
  · obtain ⟨q1, q2⟩ := ab_r2 h
    exact fun a ha => (congrFun q2.symm a).trans (fr a ha)
  · rcases ab_i h with ⟨c5, h⟩ | ⟨c5, h⟩
    · obtain ⟨q1, q2⟩ := ab_r2 h
      exact fun a ha => (congrFun q2.symm a).trans (fr a ha)
    · rcases ab_i h with ⟨c6, h⟩ | ⟨c6, h⟩
      · rcases ab_i h with ⟨c7, h⟩ | ⟨c7, h⟩
        · obtain ⟨q1, q2⟩ := ab_r2 h
          exact fun a ha => (congrFun q2.symm a).trans (fr a ha)
        · rcases ab_i h with ⟨c8, h⟩ | ⟨c8, h⟩
          · rcases ab_i h with ⟨c9, h⟩ | ⟨c9, h⟩
            · obtain ⟨q1, q2⟩ := ab_r2 h
              exact fun a ha => (congrFun q2.symm a).trans (fr a ha)
            · rcases ab_i h with ⟨c10, h⟩ | ⟨c10, h⟩
              · obtain ⟨σ13, e11, h⟩ := ab_1 h
                have fr := fun (a : Nat) (ha : nw_X6_shut a) => (w_X3_seekWithin e11 a (by unfold nw_X6_shut at ha; unfold nw_X3_seekWithin; omega)).trans (fr a ha)
                obtain ⟨r15, σ16, e14, h⟩ := ab_2 h
                have fr := fun (a : Nat) (ha : nw_X6_shut a) => (congrFun (u_X3_weightOfEnough e14) a).trans (fr a ha)
                obtain ⟨r18, σ19, e17, h⟩ := ab_2 h
                have fr := fun (a : Nat) (ha : nw_X6_shut a) => (congrFun (u_J6_bitCount_0f7a4 e17) a).trans (fr a ha)
                obtain ⟨r21, σ22, e20, h⟩ := ab_2 h
                have fr := fun (a : Nat) (ha : nw_X6_shut a) => (congrFun (u_X6_power e20) a).trans (fr a ha)
                obtain ⟨r24, σ25, e23, h⟩ := ab_2 h
                have fr := fun (a : Nat) (ha : nw_X6_shut a) => (congrFun (u_X6_commonDivisor e23) a).trans (fr a ha)
                rcases ab_i h with ⟨c26, h⟩ | ⟨c26, h⟩
                · obtain ⟨g27, h⟩ := ab_g h
                  obtain ⟨q1, q2⟩ := ab_r2 h
                  exact fun a ha => (congrFun q2.symm a).trans (fr a ha)
                · obtain ⟨g28, h⟩ := ab_g h
                  obtain ⟨q1, q2⟩ := ab_r2 h
                  exact fun a ha => (congrFun q2.symm a).trans (fr a ha)
              · obtain ⟨q1, q2⟩ := ab_r2 h
                exact fun a ha => (congrFun q2.symm a).trans (fr a ha)
          · obtain ⟨q1, q2⟩ := ab_r2 h
            exact fun a ha => (congrFun q2.symm a).trans (fr a ha)
      · obtain ⟨q1, q2⟩ := ab_r2 h
        exact fun a ha => (congrFun q2.symm a).trans (fr a ha)
/-! MoodFare.drawn -/
def fb_X6_drawn_65 (n : Nat) (kh65 : Int → Int → Int → Int → am_Mem → Option (Int × am_Mem)) (x1 : Int) (x3 : Int) (x4 : Int) (x6 : Int) (σ : am_Mem) : Option (Int × am_Mem) :=
  if x6 < x1 then (am_b1 (f_X5_goByDraw n 24 (Int.tmod (am_wl (x4 * 16807)) 2147483647) σ) fun σ17 => kh65 x1 x3 (Int.tmod (am_wl (x4 * 16807)) 2147483647) (am_w (x6 + 1)) σ17) else (if x3 = 0 then (some (σ 24 11, σ)) else (some (σ 24 9, σ)))
def fl_X6_drawn_65 (n : Nat) : Nat → Int → Int → Int → Int → am_Mem → Option (Int × am_Mem)
  | 0, _, _, _, _, _ => none
  | m + 1, x1, x3, x4, x6, σ => fb_X6_drawn_65 n (fun yx1 yx3 yx4 yx6 σ => fl_X6_drawn_65 n m yx1 yx3 yx4 yx6 σ) x1 x3 x4 x6 σ
def f_X6_drawn (n : Nat) (p1 : Int) (p2 : Int) (p3 : Int) (σ : am_Mem) : Option (Int × am_Mem) :=
  am_b2 (f_X5_stands n 18 σ) fun r2 σ3 => if r2 = 0 then (some ((-1000002), σ3)) else (if p1 < 0 then (some ((-1000001), σ3)) else (if p1 ≤ 60 then (if p2 < 1 then (some ((-1000001), σ3)) else (if p2 ≤ 999999 then (if p3 < 0 then (some ((-1000001), σ3)) else (if p3 ≤ 1 then (am_b1 (f_X5_become n 24 18 σ3) fun σ13 => fl_X6_drawn_65 n n p1 p3 p2 0 σ13) else (some ((-1000001), σ3)))) else (some ((-1000001), σ3)))) else (some ((-1000001), σ3))))
theorem tb_X6_drawn_65 {L n d : Nat} {Q : am_Post} {kh65 : Int → Int → Int → Int → am_Mem → Option (Int × am_Mem)} {x1 : Int} {x3 : Int} {x4 : Int} {x6 : Int} {o2 : Int} {σ σr : am_Mem} {rr : Int} (hd : 5 ≤ d) (hk65 : ∀ (y1 : Int) (y3 : Int) (y4 : Int) (y6 : Int) (σ : am_Mem), kh65 y1 y3 y4 y6 σ = some (rr, σr) → ∀ (o2 : Int), xs_AW (xs_aw d) me_X6_drawn Q 65 [some (am_r 3), some (am_i y1), some (am_i o2), some (am_i y3), some (am_l y4), none, some (am_i y6)] [] (rm_h L σ)) (hQ : Q (some (am_i rr)) (rm_h L σr)) (h : fb_X6_drawn_65 n kh65 x1 x3 x4 x6 σ = some (rr, σr)) : xs_AW (xs_aw d) me_X6_drawn Q 65 [some (am_r 3), some (am_i x1), some (am_i o2), some (am_i x3), some (am_l x4), none, some (am_i x6)] [] (rm_h L σ) := by
  unfold fb_X6_drawn_65 at h
  refine rr_iload dX6_drawn_65 rfl ?_
  refine rr_iload_n dX6_drawn_67 rfl ?_
  rcases ab_i h with ⟨c14, h⟩ | ⟨c14, h⟩
  · refine rr_icmp_ge_p (t := 98) dX6_drawn_68 (by decide) c14 ?_
    refine rr_lload dX6_drawn_71 rfl ?_
    refine rr_ldc2_w dX6_drawn_73 cl_6_272 ?_
    refine rr_lmul dX6_drawn_76 ?_
    refine rr_ldc2_w dX6_drawn_77 cl_6_274 ?_
    refine rr_lrem dX6_drawn_80 (by decide) ?_
    refine rr_lstore (ls' := [some (am_r 3), some (am_i x1), some (am_i o2), some (am_i x3), some (am_l (Int.tmod (am_wl (x4 * 16807)) 2147483647)), none, some (am_i x6)]) dX6_drawn_81 (Nat.le_of_ble_eq_true rfl) rfl ?_
    refine rr_aload_n dX6_drawn_83 rfl ?_
    refine rr_getr (t := 24) dX6_drawn_84 fl_6_30 (sh_3 L) ⟨(by decide), by decide⟩ rfl rfl ?_
    refine rr_lload dX6_drawn_87 rfl ?_
    obtain ⟨σ17, e15, h⟩ := ab_1 h
    refine rr_Vv (as := [am_l (Int.tmod (am_wl (x4 * 16807)) 2147483647)]) (rest := []) dX6_drawn_89 ml_6_276 (sh_24 L) ⟨(by decide), by decide, by decide⟩ rfl rfl rfl (Nat.le_of_ble_eq_true rfl) ⟨rfl, rfl⟩ (Nat.le_of_ble_eq_true rfl) (fun _ k => t_X5_goByDraw (by omega) tw_24 e15 k) ?_
    refine rr_iinc (ls' := [some (am_r 3), some (am_i x1), some (am_i o2), some (am_i x3), some (am_l (Int.tmod (am_wl (x4 * 16807)) 2147483647)), none, some (am_i (am_w (x6 + 1)))]) dX6_drawn_92 rfl (Nat.le_of_ble_eq_true rfl) rfl ?_
    refine rr_goto (t := 65) dX6_drawn_95 (by decide) ?_
    exact hk65 _ _ _ _ _ h _
  · refine rr_icmp_ge_n (t := 98) dX6_drawn_68 (by decide) c14 ?_
    refine rr_iload_n dX6_drawn_98 rfl ?_
    rcases ab_i h with ⟨c18, h⟩ | ⟨c18, h⟩
    · refine rr_if_ne_p (t := 112) dX6_drawn_99 (by decide) c18 ?_
      refine rr_aload_n dX6_drawn_102 rfl ?_
      refine rr_getr (t := 24) dX6_drawn_103 fl_6_30 (sh_3 L) ⟨(by decide), by decide⟩ rfl rfl ?_
      refine rr_geti (kz := 11) dX6_drawn_106 fl_6_145 (sh_24 L) ⟨(by decide), by decide⟩ rfl rfl ?_
      refine rr_goto (t := 119) dX6_drawn_109 (by decide) ?_
      obtain ⟨rfl, rfl⟩ := ab_r2 h
      exact rr_iret dX6_drawn_119 rfl hQ
    · refine rr_if_ne_n (t := 112) dX6_drawn_99 (by decide) c18 ?_
      refine rr_aload_n dX6_drawn_112 rfl ?_
      refine rr_getr (t := 24) dX6_drawn_113 fl_6_30 (sh_3 L) ⟨(by decide), by decide⟩ rfl rfl ?_
      refine rr_geti (kz := 9) dX6_drawn_116 fl_6_139 (sh_24 L) ⟨(by decide), by decide⟩ rfl rfl ?_
      obtain ⟨rfl, rfl⟩ := ab_r2 h
      exact rr_iret dX6_drawn_119 rfl hQ
theorem tl_X6_drawn_65 {L n d : Nat} {Q : am_Post} {σr : am_Mem} {rr : Int} (hd : 5 ≤ d) (hQ : Q (some (am_i rr)) (rm_h L σr)) : ∀ (m : Nat) (x1 : Int) (x3 : Int) (x4 : Int) (x6 : Int) (σ : am_Mem) (o2 : Int), fl_X6_drawn_65 n m x1 x3 x4 x6 σ = some (rr, σr) → xs_AW (xs_aw d) me_X6_drawn Q 65 [some (am_r 3), some (am_i x1), some (am_i o2), some (am_i x3), some (am_l x4), none, some (am_i x6)] [] (rm_h L σ) := by
  intro m
  induction m with
  | zero => intro x1 x3 x4 x6 σ o2 h; cases h
  | succ m ih =>
    intro x1 x3 x4 x6 σ o2 h
    exact tb_X6_drawn_65 hd (fun x1 x3 x4 x6 σ h o2 => ih x1 x3 x4 x6 σ o2 h) hQ h
theorem t_X6_drawn {L n d : Nat} {Q : am_Post} {p1 : Int} {p2 : Int} {p3 : Int} {σ σr : am_Mem} {rr : Int} (hd : 5 < d) (h : f_X6_drawn n p1 p2 p3 σ = some (rr, σr)) (hQ : Q (some (am_i rr)) (rm_h L σr)) : xs_aw d me_X6_drawn [am_r 3, am_i p1, am_i p2, am_i p3] (rm_h L σ) Q := by
  obtain ⟨d, rfl⟩ : ∃ k, d = k + 1 := ⟨d - 1, by omega⟩
  have hd : 5 ≤ d := by omega
  unfold f_X6_drawn at h
  show xs_AW (xs_aw d) me_X6_drawn Q 0 [some (am_r 3), some (am_i p1), some (am_i p2), some (am_i p3), none, none, none] [] (rm_h L σ)
  refine rr_aload_n dX6_drawn_0 rfl ?_
  refine rr_getr (t := 18) dX6_drawn_1 fl_6_26 (sh_3 L) ⟨(by decide), by decide⟩ rfl rfl ?_
  obtain ⟨r2, σ3, e1, h⟩ := ab_2 h
  refine rr_Vi (as := []) (rest := []) dX6_drawn_4 ml_6_163 (sh_18 L) ⟨(by decide), by decide, by decide⟩ rfl rfl rfl (Nat.le_of_ble_eq_true rfl) ⟨rfl, rfl⟩ (Nat.le_of_ble_eq_true rfl) (fun _ k => t_X5_stands (by omega) tw_18 e1 k) ?_
  rcases ab_i h with ⟨c4, h⟩ | ⟨c4, h⟩
  · refine rr_if_ne_p (t := 13) dX6_drawn_7 (by decide) c4 ?_
    refine rr_ldc dX6_drawn_10 cs_6_135 ?_
    obtain ⟨rfl, rfl⟩ := ab_r2 h
    exact rr_iret dX6_drawn_12 rfl hQ
  · refine rr_if_ne_n (t := 13) dX6_drawn_7 (by decide) c4 ?_
    refine rr_iload_n dX6_drawn_13 rfl ?_
    rcases ab_i h with ⟨c5, h⟩ | ⟨c5, h⟩
    · refine rr_if_lt_p (t := 44) dX6_drawn_14 (by decide) c5 ?_
      refine rr_ldc dX6_drawn_44 cs_6_69 ?_
      obtain ⟨rfl, rfl⟩ := ab_r2 h
      exact rr_iret dX6_drawn_46 rfl hQ
    · refine rr_if_lt_n (t := 44) dX6_drawn_14 (by decide) c5 ?_
      refine rr_iload_n dX6_drawn_17 rfl ?_
      refine rr_bipush dX6_drawn_18 (by decide) ?_
      rcases ab_i h with ⟨c6, h⟩ | ⟨c6, h⟩
      · refine rr_icmp_gt_p (t := 44) dX6_drawn_20 (by decide) c6 ?_
        refine rr_iload_n dX6_drawn_23 rfl ?_
        refine rr_iconst dX6_drawn_24 (by decide) ?_
        rcases ab_i h with ⟨c7, h⟩ | ⟨c7, h⟩
        · refine rr_icmp_lt_p (t := 44) dX6_drawn_25 (by decide) c7 ?_
          refine rr_ldc dX6_drawn_44 cs_6_69 ?_
          obtain ⟨rfl, rfl⟩ := ab_r2 h
          exact rr_iret dX6_drawn_46 rfl hQ
        · refine rr_icmp_lt_n (t := 44) dX6_drawn_25 (by decide) c7 ?_
          refine rr_iload_n dX6_drawn_28 rfl ?_
          refine rr_ldc_w dX6_drawn_29 cs_6_271 ?_
          rcases ab_i h with ⟨c8, h⟩ | ⟨c8, h⟩
          · refine rr_icmp_gt_p (t := 44) dX6_drawn_32 (by decide) c8 ?_
            refine rr_iload_n dX6_drawn_35 rfl ?_
            rcases ab_i h with ⟨c9, h⟩ | ⟨c9, h⟩
            · refine rr_if_lt_p (t := 44) dX6_drawn_36 (by decide) c9 ?_
              refine rr_ldc dX6_drawn_44 cs_6_69 ?_
              obtain ⟨rfl, rfl⟩ := ab_r2 h
              exact rr_iret dX6_drawn_46 rfl hQ
            · refine rr_if_lt_n (t := 44) dX6_drawn_36 (by decide) c9 ?_
              refine rr_iload_n dX6_drawn_39 rfl ?_
              refine rr_iconst dX6_drawn_40 (by decide) ?_
              rcases ab_i h with ⟨c10, h⟩ | ⟨c10, h⟩
              · refine rr_icmp_le_p (t := 47) dX6_drawn_41 (by decide) c10 ?_
                refine rr_aload_n dX6_drawn_47 rfl ?_
                refine rr_getr (t := 24) dX6_drawn_48 fl_6_30 (sh_3 L) ⟨(by decide), by decide⟩ rfl rfl ?_
                refine rr_aload_n dX6_drawn_51 rfl ?_
                refine rr_getr (t := 18) dX6_drawn_52 fl_6_26 (sh_3 L) ⟨(by decide), by decide⟩ rfl rfl ?_
                obtain ⟨σ13, e11, h⟩ := ab_1 h
                refine rr_Vv (as := [am_r 18]) (rest := []) dX6_drawn_55 ml_6_119 (sh_24 L) ⟨(by decide), by decide, by decide⟩ rfl rfl rfl (Nat.le_of_ble_eq_true rfl) ⟨rfl, rfl⟩ (Nat.le_of_ble_eq_true rfl) (fun _ k => t_X5_become (by omega) tw_24 tw_18 e11 k) ?_
                refine rr_iload_n dX6_drawn_58 rfl ?_
                refine rr_i2l dX6_drawn_59 ?_
                refine rr_lstore (ls' := [some (am_r 3), some (am_i p1), some (am_i p2), some (am_i p3), some (am_l p2), none, none]) dX6_drawn_60 (Nat.le_of_ble_eq_true rfl) rfl ?_
                refine rr_iconst dX6_drawn_62 (by decide) ?_
                refine rr_istore (ls' := [some (am_r 3), some (am_i p1), some (am_i p2), some (am_i p3), some (am_l p2), none, some (am_i 0)]) dX6_drawn_63 (Nat.le_of_ble_eq_true rfl) rfl ?_
                exact tl_X6_drawn_65 hd hQ n _ _ _ _ _ _ h
              · refine rr_icmp_le_n (t := 47) dX6_drawn_41 (by decide) c10 ?_
                refine rr_ldc dX6_drawn_44 cs_6_69 ?_
                obtain ⟨rfl, rfl⟩ := ab_r2 h
                exact rr_iret dX6_drawn_46 rfl hQ
          · refine rr_icmp_gt_n (t := 44) dX6_drawn_32 (by decide) c8 ?_
            refine rr_ldc dX6_drawn_44 cs_6_69 ?_
            obtain ⟨rfl, rfl⟩ := ab_r2 h
            exact rr_iret dX6_drawn_46 rfl hQ
      · refine rr_icmp_gt_n (t := 44) dX6_drawn_20 (by decide) c6 ?_
        refine rr_ldc dX6_drawn_44 cs_6_69 ?_
        obtain ⟨rfl, rfl⟩ := ab_r2 h
        exact rr_iret dX6_drawn_46 rfl hQ
def nw_X6_drawn (a : Nat) : Prop := a ≠ 24 ∧ a ≠ 25 ∧ a ≠ 26 ∧ a ≠ 27 ∧ a ≠ 28 ∧ a ≠ 29
theorem wb_X6_drawn_65 {n : Nat} {kh65 : Int → Int → Int → Int → am_Mem → Option (Int × am_Mem)} {x1 : Int} {x3 : Int} {x4 : Int} {x6 : Int} {σ σr : am_Mem} {rr : Int} (hk65 : ∀ (y1 : Int) (y3 : Int) (y4 : Int) (y6 : Int) (σ : am_Mem), kh65 y1 y3 y4 y6 σ = some (rr, σr) → ∀ a : Nat, nw_X6_drawn a → σr a = σ a) (h : fb_X6_drawn_65 n kh65 x1 x3 x4 x6 σ = some (rr, σr)) : ∀ a : Nat, nw_X6_drawn a → σr a = σ a := by
  unfold fb_X6_drawn_65 at h
  have fr : ∀ a : Nat, nw_X6_drawn a → σ a = σ a := fun _ _ => rfl
  rcases ab_i h with ⟨c14, h⟩ | ⟨c14, h⟩
  · obtain ⟨σ17, e15, h⟩ := ab_1 h
    have fr := fun (a : Nat) (ha : nw_X6_drawn a) => (w_X5_goByDraw e15 a (by unfold nw_X6_drawn at ha; unfold nw_X5_goByDraw; omega)).trans (fr a ha)
    exact fun a ha => (hk65 _ _ _ _ _ h a ha).trans (fr a ha)
  · rcases ab_i h with ⟨c18, h⟩ | ⟨c18, h⟩
    · obtain ⟨q1, q2⟩ := ab_r2 h
      exact fun a ha => (congrFun q2.symm a).trans (fr a ha)
    · obtain ⟨q1, q2⟩ := ab_r2 h
      exact fun a ha => (congrFun q2.symm a).trans (fr a ha)
theorem wl_X6_drawn_65 {n : Nat} {σr : am_Mem} {rr : Int} : ∀ (m : Nat) (x1 : Int) (x3 : Int) (x4 : Int) (x6 : Int) (σ : am_Mem), fl_X6_drawn_65 n m x1 x3 x4 x6 σ = some (rr, σr) → ∀ a : Nat, nw_X6_drawn a → σr a = σ a := by
  intro m
  induction m with
  | zero => intro x1 x3 x4 x6 σ h; cases h
  | succ m ih =>
    intro x1 x3 x4 x6 σ h
    exact wb_X6_drawn_65 (fun x1 x3 x4 x6 σ h => ih x1 x3 x4 x6 σ h) h
theorem w_X6_drawn {n : Nat} {p1 : Int} {p2 : Int} {p3 : Int} {σ σr : am_Mem} {rr : Int} (h : f_X6_drawn n p1 p2 p3 σ = some (rr, σr)) : ∀ a : Nat, nw_X6_drawn a → σr a = σ a := by
  unfold f_X6_drawn at h
  have fr : ∀ a : Nat, nw_X6_drawn a → σ a = σ a := fun _ _ => rfl
  obtain ⟨r2, σ3, e1, h⟩ := ab_2 h
  have fr := fun (a : Nat) (ha : nw_X6_drawn a) => (congrFun (u_X5_stands e1) a).trans (fr a ha)
  rcases ab_i h with ⟨c4, h⟩ | ⟨c4, h⟩
  · obtain ⟨q1, q2⟩ := ab_r2 h
    exact fun a ha => (congrFun q2.symm a).trans (fr a ha)
  · rcases ab_i h with ⟨c5, h⟩ | ⟨c5, h⟩
    · obtain ⟨q1, q2⟩ := ab_r2 h
      exact fun a ha => (congrFun q2.symm a).trans (fr a ha)
    · rcases ab_i h with ⟨c6, h⟩ | ⟨c6, h⟩
      · rcases ab_i h with ⟨c7, h⟩ | ⟨c7, h⟩
        · obtain ⟨q1, q2⟩ := ab_r2 h
          exact fun a ha => (congrFun q2.symm a).trans (fr a ha)
        · rcases ab_i h with ⟨c8, h⟩ | ⟨c8, h⟩
          · rcases ab_i h with ⟨c9, h⟩ | ⟨c9, h⟩
            · obtain ⟨q1, q2⟩ := ab_r2 h
              exact fun a ha => (congrFun q2.symm a).trans (fr a ha)
            · rcases ab_i h with ⟨c10, h⟩ | ⟨c10, h⟩
              · obtain ⟨σ13, e11, h⟩ := ab_1 h
                have fr := fun (a : Nat) (ha : nw_X6_drawn a) => (w_X5_become e11 a (by unfold nw_X6_drawn at ha; unfold nw_X5_become; omega)).trans (fr a ha)
                exact fun a ha => (wl_X6_drawn_65 n _ _ _ _ _ h a ha).trans (fr a ha)
              · obtain ⟨q1, q2⟩ := ab_r2 h
                exact fun a ha => (congrFun q2.symm a).trans (fr a ha)
          · obtain ⟨q1, q2⟩ := ab_r2 h
            exact fun a ha => (congrFun q2.symm a).trans (fr a ha)
      · obtain ⟨q1, q2⟩ := ab_r2 h
        exact fun a ha => (congrFun q2.symm a).trans (fr a ha)
/-! MoodFare.image -/
def f_X6_image (n : Nat) (p1 : Int) (σ : am_Mem) : Option (Int × am_Mem) :=
  if p1 < 0 then (some ((-1000001), σ)) else (if p1 < 2 then (am_b2 (f_X5_stands n 18 σ) fun r4 σ5 => if r4 = 0 then (some ((-1000002), σ5)) else (if (0 : Int) ≤ p1 ∧ p1 < 2 then am_b1 (f_X5_become n (31 + 6 * (p1).toNat) 18 σ5) fun σ10 => some (1, σ10) else none)) else (some ((-1000001), σ)))
theorem t_X6_image {L n d : Nat} {Q : am_Post} {p1 : Int} {σ σr : am_Mem} {rr : Int} (hd : 1 < d) (h : f_X6_image n p1 σ = some (rr, σr)) (hQ : Q (some (am_i rr)) (rm_h L σr)) : xs_aw d me_X6_image [am_r 3, am_i p1] (rm_h L σ) Q := by
  obtain ⟨d, rfl⟩ : ∃ k, d = k + 1 := ⟨d - 1, by omega⟩
  have hd : 1 ≤ d := by omega
  unfold f_X6_image at h
  show xs_AW (xs_aw d) me_X6_image Q 0 [some (am_r 3), some (am_i p1)] [] (rm_h L σ)
  refine rr_iload_n dX6_image_0 rfl ?_
  rcases ab_i h with ⟨c1, h⟩ | ⟨c1, h⟩
  · refine rr_if_lt_p (t := 9) dX6_image_1 (by decide) c1 ?_
    refine rr_ldc dX6_image_9 cs_6_69 ?_
    obtain ⟨rfl, rfl⟩ := ab_r2 h
    exact rr_iret dX6_image_11 rfl hQ
  · refine rr_if_lt_n (t := 9) dX6_image_1 (by decide) c1 ?_
    refine rr_iload_n dX6_image_4 rfl ?_
    refine rr_iconst dX6_image_5 (by decide) ?_
    rcases ab_i h with ⟨c2, h⟩ | ⟨c2, h⟩
    · refine rr_icmp_lt_p (t := 12) dX6_image_6 (by decide) c2 ?_
      refine rr_aload_n dX6_image_12 rfl ?_
      refine rr_getr (t := 18) dX6_image_13 fl_6_26 (sh_3 L) ⟨(by decide), by decide⟩ rfl rfl ?_
      obtain ⟨r4, σ5, e3, h⟩ := ab_2 h
      refine rr_Vi (as := []) (rest := []) dX6_image_16 ml_6_163 (sh_18 L) ⟨(by decide), by decide, by decide⟩ rfl rfl rfl (Nat.le_of_ble_eq_true rfl) ⟨rfl, rfl⟩ (Nat.le_of_ble_eq_true rfl) (fun _ k => t_X5_stands (by omega) tw_18 e3 k) ?_
      rcases ab_i h with ⟨c6, h⟩ | ⟨c6, h⟩
      · refine rr_if_ne_p (t := 25) dX6_image_19 (by decide) c6 ?_
        refine rr_ldc dX6_image_22 cs_6_135 ?_
        obtain ⟨rfl, rfl⟩ := ab_r2 h
        exact rr_iret dX6_image_24 rfl hQ
      · refine rr_if_ne_n (t := 25) dX6_image_19 (by decide) c6 ?_
        refine rr_aload_n dX6_image_25 rfl ?_
        refine rr_getr (t := 30) dX6_image_26 fl_6_33 (sh_3 L) ⟨(by decide), by decide⟩ rfl rfl ?_
        refine rr_iload_n dX6_image_29 rfl ?_
        obtain ⟨g7, h⟩ := ab_g h
        refine rr_aald (nz := 2) (t := (31 + 6 * (p1).toNat)) dX6_image_30 (sh_30 L) ⟨(by decide), Or.inl rfl⟩ rfl g7 (er_30 g7) ?_
        refine rr_aload_n dX6_image_31 rfl ?_
        refine rr_getr (t := 18) dX6_image_32 fl_6_26 (sh_3 L) ⟨(by decide), by decide⟩ rfl rfl ?_
        obtain ⟨σ10, e8, h⟩ := ab_1 h
        refine rr_Vv (as := [am_r 18]) (rest := []) dX6_image_35 ml_6_119 (tw_sh (el_30 g7) L) ⟨(tw_ge (el_30 g7)), by decide, by decide⟩ rfl rfl rfl (Nat.le_of_ble_eq_true rfl) ⟨rfl, rfl⟩ (Nat.le_of_ble_eq_true rfl) (fun _ k => t_X5_become (by omega) (el_30 g7) tw_18 e8 k) ?_
        refine rr_iconst dX6_image_38 (by decide) ?_
        obtain ⟨rfl, rfl⟩ := ab_r2 h
        exact rr_iret dX6_image_39 rfl hQ
    · refine rr_icmp_lt_n (t := 12) dX6_image_6 (by decide) c2 ?_
      refine rr_ldc dX6_image_9 cs_6_69 ?_
      obtain ⟨rfl, rfl⟩ := ab_r2 h
      exact rr_iret dX6_image_11 rfl hQ
def nw_X6_image (a : Nat) : Prop := (a < 31 ∨ 43 ≤ a)
theorem w_X6_image {n : Nat} {p1 : Int} {σ σr : am_Mem} {rr : Int} (h : f_X6_image n p1 σ = some (rr, σr)) : ∀ a : Nat, nw_X6_image a → σr a = σ a := by
  unfold f_X6_image at h
  have fr : ∀ a : Nat, nw_X6_image a → σ a = σ a := fun _ _ => rfl
  rcases ab_i h with ⟨c1, h⟩ | ⟨c1, h⟩
  · obtain ⟨q1, q2⟩ := ab_r2 h
    exact fun a ha => (congrFun q2.symm a).trans (fr a ha)
  · rcases ab_i h with ⟨c2, h⟩ | ⟨c2, h⟩
    · obtain ⟨r4, σ5, e3, h⟩ := ab_2 h
      have fr := fun (a : Nat) (ha : nw_X6_image a) => (congrFun (u_X5_stands e3) a).trans (fr a ha)
      rcases ab_i h with ⟨c6, h⟩ | ⟨c6, h⟩
      · obtain ⟨q1, q2⟩ := ab_r2 h
        exact fun a ha => (congrFun q2.symm a).trans (fr a ha)
      · obtain ⟨g7, h⟩ := ab_g h
        obtain ⟨σ10, e8, h⟩ := ab_1 h
        have fr := fun (a : Nat) (ha : nw_X6_image a) => (w_X5_become e8 a (by unfold nw_X6_image at ha; unfold nw_X5_become; omega)).trans (fr a ha)
        obtain ⟨q1, q2⟩ := ab_r2 h
        exact fun a ha => (congrFun q2.symm a).trans (fr a ha)
    · obtain ⟨q1, q2⟩ := ab_r2 h
      exact fun a ha => (congrFun q2.symm a).trans (fr a ha)
/-! MoodFare.restore -/
def f_X6_restore (n : Nat) (p1 : Int) (σ : am_Mem) : Option (Int × am_Mem) :=
  if p1 < 0 then (some ((-1000001), σ)) else (if p1 < 2 then (if (0 : Int) ≤ p1 ∧ p1 < 2 then am_b2 (f_X5_stands n (31 + 6 * (p1).toNat) σ) fun r5 σ6 => if r5 = 0 then (some ((-1000002), σ6)) else (am_b1 (f_X5_become n 18 (31 + 6 * (p1).toNat) σ6) fun σ10 => am_b1 (f_X0_forget n σ10) fun σ13 => some (1, σ13)) else none) else (some ((-1000001), σ)))
theorem t_X6_restore {L n d : Nat} {Q : am_Post} {p1 : Int} {σ σr : am_Mem} {rr : Int} (hd : 1 < d) (h : f_X6_restore n p1 σ = some (rr, σr)) (hQ : Q (some (am_i rr)) (rm_h L σr)) : xs_aw d me_X6_restore [am_r 3, am_i p1] (rm_h L σ) Q := by
  obtain ⟨d, rfl⟩ : ∃ k, d = k + 1 := ⟨d - 1, by omega⟩
  have hd : 1 ≤ d := by omega
  unfold f_X6_restore at h
  show xs_AW (xs_aw d) me_X6_restore Q 0 [some (am_r 3), some (am_i p1)] [] (rm_h L σ)
  refine rr_iload_n dX6_restore_0 rfl ?_
  rcases ab_i h with ⟨c1, h⟩ | ⟨c1, h⟩
  · refine rr_if_lt_p (t := 9) dX6_restore_1 (by decide) c1 ?_
    refine rr_ldc dX6_restore_9 cs_6_69 ?_
    obtain ⟨rfl, rfl⟩ := ab_r2 h
    exact rr_iret dX6_restore_11 rfl hQ
  · refine rr_if_lt_n (t := 9) dX6_restore_1 (by decide) c1 ?_
    refine rr_iload_n dX6_restore_4 rfl ?_
    refine rr_iconst dX6_restore_5 (by decide) ?_
    rcases ab_i h with ⟨c2, h⟩ | ⟨c2, h⟩
    · refine rr_icmp_lt_p (t := 12) dX6_restore_6 (by decide) c2 ?_
      refine rr_aload_n dX6_restore_12 rfl ?_
      refine rr_getr (t := 30) dX6_restore_13 fl_6_33 (sh_3 L) ⟨(by decide), by decide⟩ rfl rfl ?_
      refine rr_iload_n dX6_restore_16 rfl ?_
      obtain ⟨g3, h⟩ := ab_g h
      refine rr_aald (nz := 2) (t := (31 + 6 * (p1).toNat)) dX6_restore_17 (sh_30 L) ⟨(by decide), Or.inl rfl⟩ rfl g3 (er_30 g3) ?_
      obtain ⟨r5, σ6, e4, h⟩ := ab_2 h
      refine rr_Vi (as := []) (rest := []) dX6_restore_18 ml_6_163 (tw_sh (el_30 g3) L) ⟨(tw_ge (el_30 g3)), by decide, by decide⟩ rfl rfl rfl (Nat.le_of_ble_eq_true rfl) ⟨rfl, rfl⟩ (Nat.le_of_ble_eq_true rfl) (fun _ k => t_X5_stands (by omega) (el_30 g3) e4 k) ?_
      rcases ab_i h with ⟨c7, h⟩ | ⟨c7, h⟩
      · refine rr_if_ne_p (t := 27) dX6_restore_21 (by decide) c7 ?_
        refine rr_ldc dX6_restore_24 cs_6_135 ?_
        obtain ⟨rfl, rfl⟩ := ab_r2 h
        exact rr_iret dX6_restore_26 rfl hQ
      · refine rr_if_ne_n (t := 27) dX6_restore_21 (by decide) c7 ?_
        refine rr_aload_n dX6_restore_27 rfl ?_
        refine rr_getr (t := 18) dX6_restore_28 fl_6_26 (sh_3 L) ⟨(by decide), by decide⟩ rfl rfl ?_
        refine rr_aload_n dX6_restore_31 rfl ?_
        refine rr_getr (t := 30) dX6_restore_32 fl_6_33 (sh_3 L) ⟨(by decide), by decide⟩ rfl rfl ?_
        refine rr_iload_n dX6_restore_35 rfl ?_
        refine rr_aald (nz := 2) (t := (31 + 6 * (p1).toNat)) dX6_restore_36 (sh_30 L) ⟨(by decide), Or.inl rfl⟩ rfl g3 (er_30 g3) ?_
        obtain ⟨σ10, e8, h⟩ := ab_1 h
        refine rr_Vv (as := [am_r (31 + 6 * (p1).toNat)]) (rest := []) dX6_restore_37 ml_6_119 (sh_18 L) ⟨(by decide), by decide, by decide⟩ rfl rfl rfl (Nat.le_of_ble_eq_true rfl) ⟨rfl, rfl⟩ (Nat.le_of_ble_eq_true rfl) (fun _ k => t_X5_become (by omega) tw_18 (el_30 g3) e8 k) ?_
        refine rr_aload_n dX6_restore_40 rfl ?_
        refine rr_getr (t := 43) dX6_restore_41 fl_6_40 (sh_3 L) ⟨(by decide), by decide⟩ rfl rfl ?_
        obtain ⟨σ13, e11, h⟩ := ab_1 h
        refine rr_Vv (as := []) (rest := []) dX6_restore_44 ml_6_123 (sh_43 L) ⟨(by decide), by decide, by decide⟩ rfl rfl rfl (Nat.le_of_ble_eq_true rfl) ⟨rfl, rfl⟩ (Nat.le_of_ble_eq_true rfl) (fun _ k => t_X0_forget (by omega) e11 k) ?_
        refine rr_iconst dX6_restore_47 (by decide) ?_
        obtain ⟨rfl, rfl⟩ := ab_r2 h
        exact rr_iret dX6_restore_48 rfl hQ
    · refine rr_icmp_lt_n (t := 12) dX6_restore_6 (by decide) c2 ?_
      refine rr_ldc dX6_restore_9 cs_6_69 ?_
      obtain ⟨rfl, rfl⟩ := ab_r2 h
      exact rr_iret dX6_restore_11 rfl hQ
def nw_X6_restore (a : Nat) : Prop := a ≠ 18 ∧ a ≠ 19 ∧ a ≠ 20 ∧ a ≠ 21 ∧ a ≠ 22 ∧ a ≠ 23 ∧ a ≠ 43
theorem w_X6_restore {n : Nat} {p1 : Int} {σ σr : am_Mem} {rr : Int} (h : f_X6_restore n p1 σ = some (rr, σr)) : ∀ a : Nat, nw_X6_restore a → σr a = σ a := by
  unfold f_X6_restore at h
  have fr : ∀ a : Nat, nw_X6_restore a → σ a = σ a := fun _ _ => rfl
  rcases ab_i h with ⟨c1, h⟩ | ⟨c1, h⟩
  · obtain ⟨q1, q2⟩ := ab_r2 h
    exact fun a ha => (congrFun q2.symm a).trans (fr a ha)
  · rcases ab_i h with ⟨c2, h⟩ | ⟨c2, h⟩
    · obtain ⟨g3, h⟩ := ab_g h
      obtain ⟨r5, σ6, e4, h⟩ := ab_2 h
      have fr := fun (a : Nat) (ha : nw_X6_restore a) => (congrFun (u_X5_stands e4) a).trans (fr a ha)
      rcases ab_i h with ⟨c7, h⟩ | ⟨c7, h⟩
      · obtain ⟨q1, q2⟩ := ab_r2 h
        exact fun a ha => (congrFun q2.symm a).trans (fr a ha)
      · obtain ⟨σ10, e8, h⟩ := ab_1 h
        have fr := fun (a : Nat) (ha : nw_X6_restore a) => (w_X5_become e8 a (by unfold nw_X6_restore at ha; unfold nw_X5_become; omega)).trans (fr a ha)
        obtain ⟨σ13, e11, h⟩ := ab_1 h
        have fr := fun (a : Nat) (ha : nw_X6_restore a) => (w_X0_forget e11 a (by unfold nw_X6_restore at ha; unfold nw_X0_forget; omega)).trans (fr a ha)
        obtain ⟨q1, q2⟩ := ab_r2 h
        exact fun a ha => (congrFun q2.symm a).trans (fr a ha)
    · obtain ⟨q1, q2⟩ := ab_r2 h
      exact fun a ha => (congrFun q2.symm a).trans (fr a ha)
/-! MoodFare.kind -/
def f_X6_kind (n : Nat) (p1 : Int) (σ : am_Mem) : Option (Int × am_Mem) :=
  am_b2 (f_X5_hasCorner n 18 p1 σ) fun r2 σ3 => if r2 = 0 then (some ((-1000001), σ3)) else (if (0 : Int) ≤ p1 ∧ p1 < 6 then some (σ3 19 p1, σ3) else none)
theorem t_X6_kind {L n d : Nat} {Q : am_Post} {p1 : Int} {σ σr : am_Mem} {rr : Int} (hd : 1 < d) (h : f_X6_kind n p1 σ = some (rr, σr)) (hQ : Q (some (am_i rr)) (rm_h L σr)) : xs_aw d me_X6_kind [am_r 3, am_i p1] (rm_h L σ) Q := by
  obtain ⟨d, rfl⟩ : ∃ k, d = k + 1 := ⟨d - 1, by omega⟩
  have hd : 1 ≤ d := by omega
  unfold f_X6_kind at h
  show xs_AW (xs_aw d) me_X6_kind Q 0 [some (am_r 3), some (am_i p1)] [] (rm_h L σ)
  refine rr_aload_n dX6_kind_0 rfl ?_
  refine rr_getr (t := 18) dX6_kind_1 fl_6_26 (sh_3 L) ⟨(by decide), by decide⟩ rfl rfl ?_
  refine rr_iload_n dX6_kind_4 rfl ?_
  obtain ⟨r2, σ3, e1, h⟩ := ab_2 h
  refine rr_Vi (as := [am_i p1]) (rest := []) dX6_kind_5 ml_6_156 (sh_18 L) ⟨(by decide), by decide, by decide⟩ rfl rfl rfl (Nat.le_of_ble_eq_true rfl) ⟨rfl, rfl⟩ (Nat.le_of_ble_eq_true rfl) (fun _ k => t_X5_hasCorner (by omega) tw_18 e1 k) ?_
  rcases ab_i h with ⟨c4, h⟩ | ⟨c4, h⟩
  · refine rr_if_eq_p (t := 23) dX6_kind_8 (by decide) c4 ?_
    refine rr_ldc dX6_kind_23 cs_6_69 ?_
    obtain ⟨rfl, rfl⟩ := ab_r2 h
    exact rr_iret dX6_kind_25 rfl hQ
  · refine rr_if_eq_n (t := 23) dX6_kind_8 (by decide) c4 ?_
    refine rr_aload_n dX6_kind_11 rfl ?_
    refine rr_getr (t := 18) dX6_kind_12 fl_6_26 (sh_3 L) ⟨(by decide), by decide⟩ rfl rfl ?_
    refine rr_getr (t := 19) dX6_kind_15 fl_6_240 (sh_18 L) ⟨(by decide), by decide⟩ rfl rfl ?_
    refine rr_iload_n dX6_kind_18 rfl ?_
    obtain ⟨g5, h⟩ := ab_g h
    refine rr_iald (nz := 6) dX6_kind_19 (sh_19 L) rfl g5 ?_
    refine rr_goto (t := 25) dX6_kind_20 (by decide) ?_
    obtain ⟨rfl, rfl⟩ := ab_r2 h
    exact rr_iret dX6_kind_25 rfl hQ
theorem u_X6_kind {n : Nat} {p1 : Int} {σ σr : am_Mem} {rr : Int} (h : f_X6_kind n p1 σ = some (rr, σr)) : σr = σ := by
  unfold f_X6_kind at h
  have fr : σ = σ := rfl
  obtain ⟨r2, σ3, e1, h⟩ := ab_2 h
  have fr := (u_X5_hasCorner e1).trans fr
  rcases ab_i h with ⟨c4, h⟩ | ⟨c4, h⟩
  · obtain ⟨q1, q2⟩ := ab_r2 h
    exact q2.symm.trans fr
  · obtain ⟨g5, h⟩ := ab_g h
    obtain ⟨q1, q2⟩ := ab_r2 h
    exact q2.symm.trans fr
/-! MoodFare.isOfKind -/
def f_X6_isOfKind (n : Nat) (p0 : Int) (p1 : Int) (σ : am_Mem) : Option (Int × am_Mem) :=
  if p1 = 0 then (some (1, σ)) else (if p1 = 1 then (if p0 = 1 then (some (1, σ)) else (if p0 = 2 then (some (1, σ)) else (if p0 = 3 then (some (1, σ)) else (some (0, σ))))) else (if p1 = 2 then (if p0 = p1 then (some (1, σ)) else (some (0, σ))) else (if p1 = 3 then (if p0 = p1 then (some (1, σ)) else (some (0, σ))) else (if p1 = 4 then (if p0 = 4 then (some (1, σ)) else (if p0 = 5 then (some (1, σ)) else (some (0, σ)))) else (if p0 = p1 then (some (1, σ)) else (some (0, σ)))))))
theorem t_X6_isOfKind {L n d : Nat} {Q : am_Post} {p0 : Int} {p1 : Int} {σ σr : am_Mem} {rr : Int} (hd : 0 < d) (h : f_X6_isOfKind n p0 p1 σ = some (rr, σr)) (hQ : Q (some (am_i rr)) (rm_h L σr)) : xs_aw d me_X6_isOfKind [am_i p0, am_i p1] (rm_h L σ) Q := by
  obtain ⟨d, rfl⟩ : ∃ k, d = k + 1 := ⟨d - 1, by omega⟩
  have hd : 0 ≤ d := by omega
  unfold f_X6_isOfKind at h
  show xs_AW (xs_aw d) me_X6_isOfKind Q 0 [some (am_i p0), some (am_i p1)] [] (rm_h L σ)
  refine rr_iload_n dX6_isOfKind_0 rfl ?_
  rcases ab_i h with ⟨c1, h⟩ | ⟨c1, h⟩
  · refine rr_tsw_in (off := 35) (t := 36) dX6_isOfKind_1 (by omega) (by rw [c1]; rfl) (by decide) ?_
    refine rr_iconst dX6_isOfKind_36 (by decide) ?_
    obtain ⟨rfl, rfl⟩ := ab_r2 h
    exact rr_zret dX6_isOfKind_37 rfl (Or.inr rfl) hQ
  rcases ab_i h with ⟨c2, h⟩ | ⟨c2, h⟩
  · refine rr_tsw_in (off := 37) (t := 38) dX6_isOfKind_1 (by omega) (by rw [c2]; rfl) (by decide) ?_
    refine rr_iload_n dX6_isOfKind_38 rfl ?_
    refine rr_iconst dX6_isOfKind_39 (by decide) ?_
    rcases ab_i h with ⟨c3, h⟩ | ⟨c3, h⟩
    · refine rr_icmp_eq_p (t := 53) dX6_isOfKind_40 (by decide) c3 ?_
      refine rr_iconst dX6_isOfKind_53 (by decide) ?_
      refine rr_goto (t := 58) dX6_isOfKind_54 (by decide) ?_
      obtain ⟨rfl, rfl⟩ := ab_r2 h
      exact rr_zret dX6_isOfKind_58 rfl (Or.inr rfl) hQ
    · refine rr_icmp_eq_n (t := 53) dX6_isOfKind_40 (by decide) c3 ?_
      refine rr_iload_n dX6_isOfKind_43 rfl ?_
      refine rr_iconst dX6_isOfKind_44 (by decide) ?_
      rcases ab_i h with ⟨c4, h⟩ | ⟨c4, h⟩
      · refine rr_icmp_eq_p (t := 53) dX6_isOfKind_45 (by decide) c4 ?_
        refine rr_iconst dX6_isOfKind_53 (by decide) ?_
        refine rr_goto (t := 58) dX6_isOfKind_54 (by decide) ?_
        obtain ⟨rfl, rfl⟩ := ab_r2 h
        exact rr_zret dX6_isOfKind_58 rfl (Or.inr rfl) hQ
      · refine rr_icmp_eq_n (t := 53) dX6_isOfKind_45 (by decide) c4 ?_
        refine rr_iload_n dX6_isOfKind_48 rfl ?_
        refine rr_iconst dX6_isOfKind_49 (by decide) ?_
        rcases ab_i h with ⟨c5, h⟩ | ⟨c5, h⟩
        · refine rr_icmp_ne_p (t := 57) dX6_isOfKind_50 (by decide) c5 ?_
          refine rr_iconst dX6_isOfKind_53 (by decide) ?_
          refine rr_goto (t := 58) dX6_isOfKind_54 (by decide) ?_
          obtain ⟨rfl, rfl⟩ := ab_r2 h
          exact rr_zret dX6_isOfKind_58 rfl (Or.inr rfl) hQ
        · refine rr_icmp_ne_n (t := 57) dX6_isOfKind_50 (by decide) c5 ?_
          refine rr_iconst dX6_isOfKind_57 (by decide) ?_
          obtain ⟨rfl, rfl⟩ := ab_r2 h
          exact rr_zret dX6_isOfKind_58 rfl (Or.inl rfl) hQ
  rcases ab_i h with ⟨c6, h⟩ | ⟨c6, h⟩
  · refine rr_tsw_in (off := 74) (t := 75) dX6_isOfKind_1 (by omega) (by rw [c6]; rfl) (by decide) ?_
    refine rr_iload_n dX6_isOfKind_75 rfl ?_
    refine rr_iload_n dX6_isOfKind_76 rfl ?_
    rcases ab_i h with ⟨c7, h⟩ | ⟨c7, h⟩
    · refine rr_icmp_ne_p (t := 84) dX6_isOfKind_77 (by decide) c7 ?_
      refine rr_iconst dX6_isOfKind_80 (by decide) ?_
      refine rr_goto (t := 85) dX6_isOfKind_81 (by decide) ?_
      obtain ⟨rfl, rfl⟩ := ab_r2 h
      exact rr_zret dX6_isOfKind_85 rfl (Or.inr rfl) hQ
    · refine rr_icmp_ne_n (t := 84) dX6_isOfKind_77 (by decide) c7 ?_
      refine rr_iconst dX6_isOfKind_84 (by decide) ?_
      obtain ⟨rfl, rfl⟩ := ab_r2 h
      exact rr_zret dX6_isOfKind_85 rfl (Or.inl rfl) hQ
  rcases ab_i h with ⟨c8, h⟩ | ⟨c8, h⟩
  · refine rr_tsw_in (off := 74) (t := 75) dX6_isOfKind_1 (by omega) (by rw [c8]; rfl) (by decide) ?_
    refine rr_iload_n dX6_isOfKind_75 rfl ?_
    refine rr_iload_n dX6_isOfKind_76 rfl ?_
    rcases ab_i h with ⟨c9, h⟩ | ⟨c9, h⟩
    · refine rr_icmp_ne_p (t := 84) dX6_isOfKind_77 (by decide) c9 ?_
      refine rr_iconst dX6_isOfKind_80 (by decide) ?_
      refine rr_goto (t := 85) dX6_isOfKind_81 (by decide) ?_
      obtain ⟨rfl, rfl⟩ := ab_r2 h
      exact rr_zret dX6_isOfKind_85 rfl (Or.inr rfl) hQ
    · refine rr_icmp_ne_n (t := 84) dX6_isOfKind_77 (by decide) c9 ?_
      refine rr_iconst dX6_isOfKind_84 (by decide) ?_
      obtain ⟨rfl, rfl⟩ := ab_r2 h
      exact rr_zret dX6_isOfKind_85 rfl (Or.inl rfl) hQ
  rcases ab_i h with ⟨c10, h⟩ | ⟨c10, h⟩
  · refine rr_tsw_in (off := 58) (t := 59) dX6_isOfKind_1 (by omega) (by rw [c10]; rfl) (by decide) ?_
    refine rr_iload_n dX6_isOfKind_59 rfl ?_
    refine rr_iconst dX6_isOfKind_60 (by decide) ?_
    rcases ab_i h with ⟨c11, h⟩ | ⟨c11, h⟩
    · refine rr_icmp_eq_p (t := 69) dX6_isOfKind_61 (by decide) c11 ?_
      refine rr_iconst dX6_isOfKind_69 (by decide) ?_
      refine rr_goto (t := 74) dX6_isOfKind_70 (by decide) ?_
      obtain ⟨rfl, rfl⟩ := ab_r2 h
      exact rr_zret dX6_isOfKind_74 rfl (Or.inr rfl) hQ
    · refine rr_icmp_eq_n (t := 69) dX6_isOfKind_61 (by decide) c11 ?_
      refine rr_iload_n dX6_isOfKind_64 rfl ?_
      refine rr_iconst dX6_isOfKind_65 (by decide) ?_
      rcases ab_i h with ⟨c12, h⟩ | ⟨c12, h⟩
      · refine rr_icmp_ne_p (t := 73) dX6_isOfKind_66 (by decide) c12 ?_
        refine rr_iconst dX6_isOfKind_69 (by decide) ?_
        refine rr_goto (t := 74) dX6_isOfKind_70 (by decide) ?_
        obtain ⟨rfl, rfl⟩ := ab_r2 h
        exact rr_zret dX6_isOfKind_74 rfl (Or.inr rfl) hQ
      · refine rr_icmp_ne_n (t := 73) dX6_isOfKind_66 (by decide) c12 ?_
        refine rr_iconst dX6_isOfKind_73 (by decide) ?_
        obtain ⟨rfl, rfl⟩ := ab_r2 h
        exact rr_zret dX6_isOfKind_74 rfl (Or.inl rfl) hQ
  refine rr_tsw_out (t := 75) dX6_isOfKind_1 (by omega) (by decide) ?_
  refine rr_iload_n dX6_isOfKind_75 rfl ?_
  refine rr_iload_n dX6_isOfKind_76 rfl ?_
  rcases ab_i h with ⟨c13, h⟩ | ⟨c13, h⟩
  · refine rr_icmp_ne_p (t := 84) dX6_isOfKind_77 (by decide) c13 ?_
    refine rr_iconst dX6_isOfKind_80 (by decide) ?_
    refine rr_goto (t := 85) dX6_isOfKind_81 (by decide) ?_
    obtain ⟨rfl, rfl⟩ := ab_r2 h
    exact rr_zret dX6_isOfKind_85 rfl (Or.inr rfl) hQ
  · refine rr_icmp_ne_n (t := 84) dX6_isOfKind_77 (by decide) c13 ?_
    refine rr_iconst dX6_isOfKind_84 (by decide) ?_
    obtain ⟨rfl, rfl⟩ := ab_r2 h
    exact rr_zret dX6_isOfKind_85 rfl (Or.inl rfl) hQ
theorem u_X6_isOfKind {n : Nat} {p0 : Int} {p1 : Int} {σ σr : am_Mem} {rr : Int} (h : f_X6_isOfKind n p0 p1 σ = some (rr, σr)) : σr = σ := by
  unfold f_X6_isOfKind at h
  have fr : σ = σ := rfl
  rcases ab_i h with ⟨c1, h⟩ | ⟨c1, h⟩
  · obtain ⟨q1, q2⟩ := ab_r2 h
    exact q2.symm.trans fr
  rcases ab_i h with ⟨c2, h⟩ | ⟨c2, h⟩
  · rcases ab_i h with ⟨c3, h⟩ | ⟨c3, h⟩
    · obtain ⟨q1, q2⟩ := ab_r2 h
      exact q2.symm.trans fr
    · rcases ab_i h with ⟨c4, h⟩ | ⟨c4, h⟩
      · obtain ⟨q1, q2⟩ := ab_r2 h
        exact q2.symm.trans fr
      · rcases ab_i h with ⟨c5, h⟩ | ⟨c5, h⟩
        · obtain ⟨q1, q2⟩ := ab_r2 h
          exact q2.symm.trans fr
        · obtain ⟨q1, q2⟩ := ab_r2 h
          exact q2.symm.trans fr
  rcases ab_i h with ⟨c6, h⟩ | ⟨c6, h⟩
  · rcases ab_i h with ⟨c7, h⟩ | ⟨c7, h⟩
    · obtain ⟨q1, q2⟩ := ab_r2 h
      exact q2.symm.trans fr
    · obtain ⟨q1, q2⟩ := ab_r2 h
      exact q2.symm.trans fr
  rcases ab_i h with ⟨c8, h⟩ | ⟨c8, h⟩
  · rcases ab_i h with ⟨c9, h⟩ | ⟨c9, h⟩
    · obtain ⟨q1, q2⟩ := ab_r2 h
      exact q2.symm.trans fr
    · obtain ⟨q1, q2⟩ := ab_r2 h
      exact q2.symm.trans fr
  rcases ab_i h with ⟨c10, h⟩ | ⟨c10, h⟩
  · rcases ab_i h with ⟨c11, h⟩ | ⟨c11, h⟩
    · obtain ⟨q1, q2⟩ := ab_r2 h
      exact q2.symm.trans fr
    · rcases ab_i h with ⟨c12, h⟩ | ⟨c12, h⟩
      · obtain ⟨q1, q2⟩ := ab_r2 h
        exact q2.symm.trans fr
      · obtain ⟨q1, q2⟩ := ab_r2 h
        exact q2.symm.trans fr
  rcases ab_i h with ⟨c13, h⟩ | ⟨c13, h⟩
  · obtain ⟨q1, q2⟩ := ab_r2 h
    exact q2.symm.trans fr
  · obtain ⟨q1, q2⟩ := ab_r2 h
    exact q2.symm.trans fr
/-! MoodFare.as -/
def f_X6_as (n : Nat) (p1 : Int) (p2 : Int) (σ : am_Mem) : Option (Int × am_Mem) :=
  am_b2 (f_X5_hasCorner n 18 p1 σ) fun r2 σ3 => if r2 = 0 then (some ((-1000001), σ3)) else (if p2 < 0 then (some ((-1000001), σ3)) else (if p2 ≤ 5 then (if (0 : Int) ≤ p1 ∧ p1 < 6 then am_b2 (f_X6_isOfKind n (σ3 19 p1) p2 σ3) fun r9 σ10 => if r9 = 0 then (am_b2 (f_X6_found n 3 σ10) fun r13 σ14 => some (r13, σ14)) else (am_b2 (f_X6_unfound n p1 σ10) fun r16 σ17 => some (r16, σ17)) else none) else (some ((-1000001), σ3))))
theorem t_X6_as {L n d : Nat} {Q : am_Post} {p1 : Int} {p2 : Int} {σ σr : am_Mem} {rr : Int} (hd : 1 < d) (h : f_X6_as n p1 p2 σ = some (rr, σr)) (hQ : Q (some (am_i rr)) (rm_h L σr)) : xs_aw d me_X6_as [am_r 3, am_i p1, am_i p2] (rm_h L σ) Q := by
  obtain ⟨d, rfl⟩ : ∃ k, d = k + 1 := ⟨d - 1, by omega⟩
  have hd : 1 ≤ d := by omega
  unfold f_X6_as at h
  show xs_AW (xs_aw d) me_X6_as Q 0 [some (am_r 3), some (am_i p1), some (am_i p2)] [] (rm_h L σ)
  refine rr_aload_n dX6_as_0 rfl ?_
  refine rr_getr (t := 18) dX6_as_1 fl_6_26 (sh_3 L) ⟨(by decide), by decide⟩ rfl rfl ?_
  refine rr_iload_n dX6_as_4 rfl ?_
  obtain ⟨r2, σ3, e1, h⟩ := ab_2 h
  refine rr_Vi (as := [am_i p1]) (rest := []) dX6_as_5 ml_6_156 (sh_18 L) ⟨(by decide), by decide, by decide⟩ rfl rfl rfl (Nat.le_of_ble_eq_true rfl) ⟨rfl, rfl⟩ (Nat.le_of_ble_eq_true rfl) (fun _ k => t_X5_hasCorner (by omega) tw_18 e1 k) ?_
  rcases ab_i h with ⟨c4, h⟩ | ⟨c4, h⟩
  · refine rr_if_eq_p (t := 20) dX6_as_8 (by decide) c4 ?_
    refine rr_ldc dX6_as_20 cs_6_69 ?_
    obtain ⟨rfl, rfl⟩ := ab_r2 h
    exact rr_iret dX6_as_22 rfl hQ
  · refine rr_if_eq_n (t := 20) dX6_as_8 (by decide) c4 ?_
    refine rr_iload_n dX6_as_11 rfl ?_
    rcases ab_i h with ⟨c5, h⟩ | ⟨c5, h⟩
    · refine rr_if_lt_p (t := 20) dX6_as_12 (by decide) c5 ?_
      refine rr_ldc dX6_as_20 cs_6_69 ?_
      obtain ⟨rfl, rfl⟩ := ab_r2 h
      exact rr_iret dX6_as_22 rfl hQ
    · refine rr_if_lt_n (t := 20) dX6_as_12 (by decide) c5 ?_
      refine rr_iload_n dX6_as_15 rfl ?_
      refine rr_iconst dX6_as_16 (by decide) ?_
      rcases ab_i h with ⟨c6, h⟩ | ⟨c6, h⟩
      · refine rr_icmp_le_p (t := 23) dX6_as_17 (by decide) c6 ?_
        refine rr_aload_n dX6_as_23 rfl ?_
        refine rr_getr (t := 18) dX6_as_24 fl_6_26 (sh_3 L) ⟨(by decide), by decide⟩ rfl rfl ?_
        refine rr_getr (t := 19) dX6_as_27 fl_6_240 (sh_18 L) ⟨(by decide), by decide⟩ rfl rfl ?_
        refine rr_iload_n dX6_as_30 rfl ?_
        obtain ⟨g7, h⟩ := ab_g h
        refine rr_iald (nz := 6) dX6_as_31 (sh_19 L) rfl g7 ?_
        refine rr_iload_n dX6_as_32 rfl ?_
        obtain ⟨r9, σ10, e8, h⟩ := ab_2 h
        refine rr_Si (as := [am_i (σ3 19 p1), am_i p2]) (rest := []) dX6_as_33 ml_6_280 (Or.inl rfl) rfl rfl (Nat.le_of_ble_eq_true rfl) ⟨rfl, rfl⟩ (Nat.le_of_ble_eq_true rfl) (fun _ k => t_X6_isOfKind (by omega) e8 k) ?_
        rcases ab_i h with ⟨c11, h⟩ | ⟨c11, h⟩
        · refine rr_if_ne_p (t := 45) dX6_as_36 (by decide) c11 ?_
          refine rr_aload_n dX6_as_39 rfl ?_
          refine rr_iconst dX6_as_40 (by decide) ?_
          obtain ⟨r13, σ14, e12, h⟩ := ab_2 h
          refine rr_Vi (as := [am_i 3]) (rest := []) dX6_as_41 ml_6_70 (sh_3 L) ⟨(by decide), by decide, by decide⟩ rfl rfl rfl (Nat.le_of_ble_eq_true rfl) ⟨rfl, rfl⟩ (Nat.le_of_ble_eq_true rfl) (fun _ k => t_X6_found (by omega) e12 k) ?_
          obtain ⟨rfl, rfl⟩ := ab_r2 h
          exact rr_iret dX6_as_44 rfl hQ
        · refine rr_if_ne_n (t := 45) dX6_as_36 (by decide) c11 ?_
          refine rr_aload_n dX6_as_45 rfl ?_
          refine rr_iload_n dX6_as_46 rfl ?_
          obtain ⟨r16, σ17, e15, h⟩ := ab_2 h
          refine rr_Vi (as := [am_i p1]) (rest := []) dX6_as_47 ml_6_78 (sh_3 L) ⟨(by decide), by decide, by decide⟩ rfl rfl rfl (Nat.le_of_ble_eq_true rfl) ⟨rfl, rfl⟩ (Nat.le_of_ble_eq_true rfl) (fun _ k => t_X6_unfound (by omega) e15 k) ?_
          obtain ⟨rfl, rfl⟩ := ab_r2 h
          exact rr_iret dX6_as_50 rfl hQ
      · refine rr_icmp_le_n (t := 23) dX6_as_17 (by decide) c6 ?_
        refine rr_ldc dX6_as_20 cs_6_69 ?_
        obtain ⟨rfl, rfl⟩ := ab_r2 h
        exact rr_iret dX6_as_22 rfl hQ
def nw_X6_as (a : Nat) : Prop := a ≠ 3
theorem w_X6_as {n : Nat} {p1 : Int} {p2 : Int} {σ σr : am_Mem} {rr : Int} (h : f_X6_as n p1 p2 σ = some (rr, σr)) : ∀ a : Nat, nw_X6_as a → σr a = σ a := by
  unfold f_X6_as at h
  have fr : ∀ a : Nat, nw_X6_as a → σ a = σ a := fun _ _ => rfl
  obtain ⟨r2, σ3, e1, h⟩ := ab_2 h
  have fr := fun (a : Nat) (ha : nw_X6_as a) => (congrFun (u_X5_hasCorner e1) a).trans (fr a ha)
  rcases ab_i h with ⟨c4, h⟩ | ⟨c4, h⟩
  · obtain ⟨q1, q2⟩ := ab_r2 h
    exact fun a ha => (congrFun q2.symm a).trans (fr a ha)
  · rcases ab_i h with ⟨c5, h⟩ | ⟨c5, h⟩
    · obtain ⟨q1, q2⟩ := ab_r2 h
      exact fun a ha => (congrFun q2.symm a).trans (fr a ha)
    · rcases ab_i h with ⟨c6, h⟩ | ⟨c6, h⟩
      · obtain ⟨g7, h⟩ := ab_g h
        obtain ⟨r9, σ10, e8, h⟩ := ab_2 h
        have fr := fun (a : Nat) (ha : nw_X6_as a) => (congrFun (u_X6_isOfKind e8) a).trans (fr a ha)
        rcases ab_i h with ⟨c11, h⟩ | ⟨c11, h⟩
        · obtain ⟨r13, σ14, e12, h⟩ := ab_2 h
          have fr := fun (a : Nat) (ha : nw_X6_as a) => (w_X6_found e12 a (by unfold nw_X6_as at ha; unfold nw_X6_found; omega)).trans (fr a ha)
          obtain ⟨q1, q2⟩ := ab_r2 h
          exact fun a ha => (congrFun q2.symm a).trans (fr a ha)
        · obtain ⟨r16, σ17, e15, h⟩ := ab_2 h
          have fr := fun (a : Nat) (ha : nw_X6_as a) => (w_X6_unfound e15 a (by unfold nw_X6_as at ha; unfold nw_X6_unfound; omega)).trans (fr a ha)
          obtain ⟨q1, q2⟩ := ab_r2 h
          exact fun a ha => (congrFun q2.symm a).trans (fr a ha)
      · obtain ⟨q1, q2⟩ := ab_r2 h
        exact fun a ha => (congrFun q2.symm a).trans (fr a ha)
/-! MoodFare.ask -/
def f_X6_ask (n : Nat) (p1 : Int) (p2 : Int) (σ : am_Mem) : Option (Int × am_Mem) :=
  am_b2 (f_X5_hasCorner n 18 p1 σ) fun r2 σ3 => if r2 = 0 then (some ((-1000001), σ3)) else (if p2 < 0 then (some ((-1000001), σ3)) else (if p2 ≤ 1 then (am_b2 (f_X1_answerOf n 18 p1 p2 σ3) fun r8 σ9 => some (r8, σ9)) else (some ((-1000001), σ3))))
theorem t_X6_ask {L n d : Nat} {Q : am_Post} {p1 : Int} {p2 : Int} {σ σr : am_Mem} {rr : Int} (hd : 20 < d) (h : f_X6_ask n p1 p2 σ = some (rr, σr)) (hQ : Q (some (am_i rr)) (rm_h L σr)) : xs_aw d me_X6_ask [am_r 3, am_i p1, am_i p2] (rm_h L σ) Q := by
  obtain ⟨d, rfl⟩ : ∃ k, d = k + 1 := ⟨d - 1, by omega⟩
  have hd : 20 ≤ d := by omega
  unfold f_X6_ask at h
  show xs_AW (xs_aw d) me_X6_ask Q 0 [some (am_r 3), some (am_i p1), some (am_i p2)] [] (rm_h L σ)
  refine rr_aload_n dX6_ask_0 rfl ?_
  refine rr_getr (t := 18) dX6_ask_1 fl_6_26 (sh_3 L) ⟨(by decide), by decide⟩ rfl rfl ?_
  refine rr_iload_n dX6_ask_4 rfl ?_
  obtain ⟨r2, σ3, e1, h⟩ := ab_2 h
  refine rr_Vi (as := [am_i p1]) (rest := []) dX6_ask_5 ml_6_156 (sh_18 L) ⟨(by decide), by decide, by decide⟩ rfl rfl rfl (Nat.le_of_ble_eq_true rfl) ⟨rfl, rfl⟩ (Nat.le_of_ble_eq_true rfl) (fun _ k => t_X5_hasCorner (by omega) tw_18 e1 k) ?_
  rcases ab_i h with ⟨c4, h⟩ | ⟨c4, h⟩
  · refine rr_if_eq_p (t := 20) dX6_ask_8 (by decide) c4 ?_
    refine rr_ldc dX6_ask_20 cs_6_69 ?_
    obtain ⟨rfl, rfl⟩ := ab_r2 h
    exact rr_iret dX6_ask_22 rfl hQ
  · refine rr_if_eq_n (t := 20) dX6_ask_8 (by decide) c4 ?_
    refine rr_iload_n dX6_ask_11 rfl ?_
    rcases ab_i h with ⟨c5, h⟩ | ⟨c5, h⟩
    · refine rr_if_lt_p (t := 20) dX6_ask_12 (by decide) c5 ?_
      refine rr_ldc dX6_ask_20 cs_6_69 ?_
      obtain ⟨rfl, rfl⟩ := ab_r2 h
      exact rr_iret dX6_ask_22 rfl hQ
    · refine rr_if_lt_n (t := 20) dX6_ask_12 (by decide) c5 ?_
      refine rr_iload_n dX6_ask_15 rfl ?_
      refine rr_iconst dX6_ask_16 (by decide) ?_
      rcases ab_i h with ⟨c6, h⟩ | ⟨c6, h⟩
      · refine rr_icmp_le_p (t := 23) dX6_ask_17 (by decide) c6 ?_
        refine rr_aload_n dX6_ask_23 rfl ?_
        refine rr_getr (t := 73) dX6_ask_24 fl_6_54 (sh_3 L) ⟨(by decide), by decide⟩ rfl rfl ?_
        refine rr_aload_n dX6_ask_27 rfl ?_
        refine rr_getr (t := 18) dX6_ask_28 fl_6_26 (sh_3 L) ⟨(by decide), by decide⟩ rfl rfl ?_
        refine rr_iload_n dX6_ask_31 rfl ?_
        refine rr_iload_n dX6_ask_32 rfl ?_
        obtain ⟨r8, σ9, e7, h⟩ := ab_2 h
        refine rr_Vi (as := [am_r 18, am_i p1, am_i p2]) (rest := []) dX6_ask_33 ml_6_284 (sh_73 L) ⟨(by decide), by decide, by decide⟩ rfl rfl rfl (Nat.le_of_ble_eq_true rfl) ⟨rfl, rfl⟩ (Nat.le_of_ble_eq_true rfl) (fun _ k => t_X1_answerOf (by omega) tw_18 e7 k) ?_
        obtain ⟨rfl, rfl⟩ := ab_r2 h
        exact rr_iret dX6_ask_36 rfl hQ
      · refine rr_icmp_le_n (t := 23) dX6_ask_17 (by decide) c6 ?_
        refine rr_ldc dX6_ask_20 cs_6_69 ?_
        obtain ⟨rfl, rfl⟩ := ab_r2 h
        exact rr_iret dX6_ask_22 rfl hQ
def nw_X6_ask (a : Nat) : Prop := a ≠ 73 ∧ a ≠ 74
theorem w_X6_ask {n : Nat} {p1 : Int} {p2 : Int} {σ σr : am_Mem} {rr : Int} (h : f_X6_ask n p1 p2 σ = some (rr, σr)) : ∀ a : Nat, nw_X6_ask a → σr a = σ a := by
  unfold f_X6_ask at h
  have fr : ∀ a : Nat, nw_X6_ask a → σ a = σ a := fun _ _ => rfl
  obtain ⟨r2, σ3, e1, h⟩ := ab_2 h
  have fr := fun (a : Nat) (ha : nw_X6_ask a) => (congrFun (u_X5_hasCorner e1) a).trans (fr a ha)
  rcases ab_i h with ⟨c4, h⟩ | ⟨c4, h⟩
  · obtain ⟨q1, q2⟩ := ab_r2 h
    exact fun a ha => (congrFun q2.symm a).trans (fr a ha)
  · rcases ab_i h with ⟨c5, h⟩ | ⟨c5, h⟩
    · obtain ⟨q1, q2⟩ := ab_r2 h
      exact fun a ha => (congrFun q2.symm a).trans (fr a ha)
    · rcases ab_i h with ⟨c6, h⟩ | ⟨c6, h⟩
      · obtain ⟨r8, σ9, e7, h⟩ := ab_2 h
        have fr := fun (a : Nat) (ha : nw_X6_ask a) => (w_X1_answerOf e7 a (by unfold nw_X6_ask at ha; unfold nw_X1_answerOf; omega)).trans (fr a ha)
        obtain ⟨q1, q2⟩ := ab_r2 h
        exact fun a ha => (congrFun q2.symm a).trans (fr a ha)
      · obtain ⟨q1, q2⟩ := ab_r2 h
        exact fun a ha => (congrFun q2.symm a).trans (fr a ha)
/-! MoodFare.trace -/
def f_X6_trace (n : Nat) (p1 : Int) (σ : am_Mem) : Option (Int × am_Mem) :=
  if p1 < 0 then (some ((-1000000), σ)) else (if p1 < σ 73 1 then (if (0 : Int) ≤ p1 ∧ p1 < 16 then some (σ 74 p1, σ) else none) else (some ((-1000000), σ)))
theorem t_X6_trace {L n d : Nat} {Q : am_Post} {p1 : Int} {σ σr : am_Mem} {rr : Int} (hd : 0 < d) (h : f_X6_trace n p1 σ = some (rr, σr)) (hQ : Q (some (am_i rr)) (rm_h L σr)) : xs_aw d me_X6_trace [am_r 3, am_i p1] (rm_h L σ) Q := by
  obtain ⟨d, rfl⟩ : ∃ k, d = k + 1 := ⟨d - 1, by omega⟩
  have hd : 0 ≤ d := by omega
  unfold f_X6_trace at h
  show xs_AW (xs_aw d) me_X6_trace Q 0 [some (am_r 3), some (am_i p1)] [] (rm_h L σ)
  refine rr_iload_n dX6_trace_0 rfl ?_
  rcases ab_i h with ⟨c1, h⟩ | ⟨c1, h⟩
  · refine rr_if_lt_p (t := 15) dX6_trace_1 (by decide) c1 ?_
    refine rr_ldc dX6_trace_15 cs_6_198 ?_
    refine rr_goto (t := 29) dX6_trace_17 (by decide) ?_
    obtain ⟨rfl, rfl⟩ := ab_r2 h
    exact rr_iret dX6_trace_29 rfl hQ
  · refine rr_if_lt_n (t := 15) dX6_trace_1 (by decide) c1 ?_
    refine rr_iload_n dX6_trace_4 rfl ?_
    refine rr_aload_n dX6_trace_5 rfl ?_
    refine rr_getr (t := 73) dX6_trace_6 fl_6_54 (sh_3 L) ⟨(by decide), by decide⟩ rfl rfl ?_
    refine rr_geti (kz := 1) dX6_trace_9 fl_6_288 (sh_73 L) ⟨(by decide), by decide⟩ rfl rfl ?_
    rcases ab_i h with ⟨c2, h⟩ | ⟨c2, h⟩
    · refine rr_icmp_lt_p (t := 20) dX6_trace_12 (by decide) c2 ?_
      refine rr_aload_n dX6_trace_20 rfl ?_
      refine rr_getr (t := 73) dX6_trace_21 fl_6_54 (sh_3 L) ⟨(by decide), by decide⟩ rfl rfl ?_
      refine rr_getr (t := 74) dX6_trace_24 fl_6_291 (sh_73 L) ⟨(by decide), by decide⟩ rfl rfl ?_
      refine rr_iload_n dX6_trace_27 rfl ?_
      obtain ⟨g3, h⟩ := ab_g h
      refine rr_iald (nz := 16) dX6_trace_28 (sh_74 L) rfl g3 ?_
      obtain ⟨rfl, rfl⟩ := ab_r2 h
      exact rr_iret dX6_trace_29 rfl hQ
    · refine rr_icmp_lt_n (t := 20) dX6_trace_12 (by decide) c2 ?_
      refine rr_ldc dX6_trace_15 cs_6_198 ?_
      refine rr_goto (t := 29) dX6_trace_17 (by decide) ?_
      obtain ⟨rfl, rfl⟩ := ab_r2 h
      exact rr_iret dX6_trace_29 rfl hQ
theorem u_X6_trace {n : Nat} {p1 : Int} {σ σr : am_Mem} {rr : Int} (h : f_X6_trace n p1 σ = some (rr, σr)) : σr = σ := by
  unfold f_X6_trace at h
  have fr : σ = σ := rfl
  rcases ab_i h with ⟨c1, h⟩ | ⟨c1, h⟩
  · obtain ⟨q1, q2⟩ := ab_r2 h
    exact q2.symm.trans fr
  · rcases ab_i h with ⟨c2, h⟩ | ⟨c2, h⟩
    · obtain ⟨g3, h⟩ := ab_g h
      obtain ⟨q1, q2⟩ := ab_r2 h
      exact q2.symm.trans fr
    · obtain ⟨q1, q2⟩ := ab_r2 h
      exact q2.symm.trans fr
/-! MoodFare.count -/
def f_X6_count (n : Nat) (p1 : Int) (σ : am_Mem) : Option (Int × am_Mem) :=
  if p1 = 0 then (am_b2 (f_X2_howMany n σ) fun r3 σ4 => some (r3, σ4)) else (if p1 = 1 then (some (σ 18 5, σ)) else (if p1 = 2 then (some (σ 18 6, σ)) else (if p1 = 3 then (some (σ 18 12, σ)) else (if p1 = 4 then (some (σ 18 9, σ)) else (if p1 = 5 then (some (σ 18 10, σ)) else (if p1 = 6 then (some (σ 43 2, σ)) else (if p1 = 7 then (some (σ 16 1, σ)) else (if p1 = 8 then (some (σ 18 11, σ)) else (if p1 = 9 then (some (σ 18 8, σ)) else (some ((-1000001), σ)))))))))))
theorem t_X6_count {L n d : Nat} {Q : am_Post} {p1 : Int} {σ σr : am_Mem} {rr : Int} (hd : 2 < d) (h : f_X6_count n p1 σ = some (rr, σr)) (hQ : Q (some (am_i rr)) (rm_h L σr)) : xs_aw d me_X6_count [am_r 3, am_i p1] (rm_h L σ) Q := by
  obtain ⟨d, rfl⟩ : ∃ k, d = k + 1 := ⟨d - 1, by omega⟩
  have hd : 2 ≤ d := by omega
  unfold f_X6_count at h
  show xs_AW (xs_aw d) me_X6_count Q 0 [some (am_r 3), some (am_i p1)] [] (rm_h L σ)
  refine rr_iload_n dX6_count_0 rfl ?_
  rcases ab_i h with ⟨c1, h⟩ | ⟨c1, h⟩
  · refine rr_tsw_in (off := 55) (t := 56) dX6_count_1 (by omega) (by rw [c1]; rfl) (by decide) ?_
    refine rr_aload_n dX6_count_56 rfl ?_
    refine rr_getr (t := 4) dX6_count_57 fl_6_10 (sh_3 L) ⟨(by decide), by decide⟩ rfl rfl ?_
    obtain ⟨r3, σ4, e2, h⟩ := ab_2 h
    refine rr_Vi (as := []) (rest := []) dX6_count_60 ml_6_294 (sh_4 L) ⟨(by decide), by decide, by decide⟩ rfl rfl rfl (Nat.le_of_ble_eq_true rfl) ⟨rfl, rfl⟩ (Nat.le_of_ble_eq_true rfl) (fun _ k => t_X2_howMany (by omega) e2 k) ?_
    obtain ⟨rfl, rfl⟩ := ab_r2 h
    exact rr_iret dX6_count_63 rfl hQ
  rcases ab_i h with ⟨c5, h⟩ | ⟨c5, h⟩
  · refine rr_tsw_in (off := 63) (t := 64) dX6_count_1 (by omega) (by rw [c5]; rfl) (by decide) ?_
    refine rr_aload_n dX6_count_64 rfl ?_
    refine rr_getr (t := 18) dX6_count_65 fl_6_26 (sh_3 L) ⟨(by decide), by decide⟩ rfl rfl ?_
    refine rr_geti (kz := 5) dX6_count_68 fl_6_297 (sh_18 L) ⟨(by decide), by decide⟩ rfl rfl ?_
    obtain ⟨rfl, rfl⟩ := ab_r2 h
    exact rr_iret dX6_count_71 rfl hQ
  rcases ab_i h with ⟨c6, h⟩ | ⟨c6, h⟩
  · refine rr_tsw_in (off := 71) (t := 72) dX6_count_1 (by omega) (by rw [c6]; rfl) (by decide) ?_
    refine rr_aload_n dX6_count_72 rfl ?_
    refine rr_getr (t := 18) dX6_count_73 fl_6_26 (sh_3 L) ⟨(by decide), by decide⟩ rfl rfl ?_
    refine rr_geti (kz := 6) dX6_count_76 fl_6_126 (sh_18 L) ⟨(by decide), by decide⟩ rfl rfl ?_
    obtain ⟨rfl, rfl⟩ := ab_r2 h
    exact rr_iret dX6_count_79 rfl hQ
  rcases ab_i h with ⟨c7, h⟩ | ⟨c7, h⟩
  · refine rr_tsw_in (off := 79) (t := 80) dX6_count_1 (by omega) (by rw [c7]; rfl) (by decide) ?_
    refine rr_aload_n dX6_count_80 rfl ?_
    refine rr_getr (t := 18) dX6_count_81 fl_6_26 (sh_3 L) ⟨(by decide), by decide⟩ rfl rfl ?_
    refine rr_geti (kz := 12) dX6_count_84 fl_6_136 (sh_18 L) ⟨(by decide), by decide⟩ rfl rfl ?_
    obtain ⟨rfl, rfl⟩ := ab_r2 h
    exact rr_iret dX6_count_87 rfl hQ
  rcases ab_i h with ⟨c8, h⟩ | ⟨c8, h⟩
  · refine rr_tsw_in (off := 87) (t := 88) dX6_count_1 (by omega) (by rw [c8]; rfl) (by decide) ?_
    refine rr_aload_n dX6_count_88 rfl ?_
    refine rr_getr (t := 18) dX6_count_89 fl_6_26 (sh_3 L) ⟨(by decide), by decide⟩ rfl rfl ?_
    refine rr_geti (kz := 9) dX6_count_92 fl_6_139 (sh_18 L) ⟨(by decide), by decide⟩ rfl rfl ?_
    obtain ⟨rfl, rfl⟩ := ab_r2 h
    exact rr_iret dX6_count_95 rfl hQ
  rcases ab_i h with ⟨c9, h⟩ | ⟨c9, h⟩
  · refine rr_tsw_in (off := 95) (t := 96) dX6_count_1 (by omega) (by rw [c9]; rfl) (by decide) ?_
    refine rr_aload_n dX6_count_96 rfl ?_
    refine rr_getr (t := 18) dX6_count_97 fl_6_26 (sh_3 L) ⟨(by decide), by decide⟩ rfl rfl ?_
    refine rr_geti (kz := 10) dX6_count_100 fl_6_142 (sh_18 L) ⟨(by decide), by decide⟩ rfl rfl ?_
    obtain ⟨rfl, rfl⟩ := ab_r2 h
    exact rr_iret dX6_count_103 rfl hQ
  rcases ab_i h with ⟨c10, h⟩ | ⟨c10, h⟩
  · refine rr_tsw_in (off := 103) (t := 104) dX6_count_1 (by omega) (by rw [c10]; rfl) (by decide) ?_
    refine rr_aload_n dX6_count_104 rfl ?_
    refine rr_getr (t := 43) dX6_count_105 fl_6_40 (sh_3 L) ⟨(by decide), by decide⟩ rfl rfl ?_
    refine rr_geti (kz := 2) dX6_count_108 fl_6_176 (sh_43 L) ⟨(by decide), by decide⟩ rfl rfl ?_
    obtain ⟨rfl, rfl⟩ := ab_r2 h
    exact rr_iret dX6_count_111 rfl hQ
  rcases ab_i h with ⟨c11, h⟩ | ⟨c11, h⟩
  · refine rr_tsw_in (off := 111) (t := 112) dX6_count_1 (by omega) (by rw [c11]; rfl) (by decide) ?_
    refine rr_aload_n dX6_count_112 rfl ?_
    refine rr_getr (t := 16) dX6_count_113 fl_6_19 (sh_3 L) ⟨(by decide), by decide⟩ rfl rfl ?_
    refine rr_geti (kz := 1) dX6_count_116 fl_6_102 (sh_16 L) ⟨(by decide), by decide⟩ rfl rfl ?_
    obtain ⟨rfl, rfl⟩ := ab_r2 h
    exact rr_iret dX6_count_119 rfl hQ
  rcases ab_i h with ⟨c12, h⟩ | ⟨c12, h⟩
  · refine rr_tsw_in (off := 119) (t := 120) dX6_count_1 (by omega) (by rw [c12]; rfl) (by decide) ?_
    refine rr_aload_n dX6_count_120 rfl ?_
    refine rr_getr (t := 18) dX6_count_121 fl_6_26 (sh_3 L) ⟨(by decide), by decide⟩ rfl rfl ?_
    refine rr_geti (kz := 11) dX6_count_124 fl_6_145 (sh_18 L) ⟨(by decide), by decide⟩ rfl rfl ?_
    obtain ⟨rfl, rfl⟩ := ab_r2 h
    exact rr_iret dX6_count_127 rfl hQ
  rcases ab_i h with ⟨c13, h⟩ | ⟨c13, h⟩
  · refine rr_tsw_in (off := 127) (t := 128) dX6_count_1 (by omega) (by rw [c13]; rfl) (by decide) ?_
    refine rr_aload_n dX6_count_128 rfl ?_
    refine rr_getr (t := 18) dX6_count_129 fl_6_26 (sh_3 L) ⟨(by decide), by decide⟩ rfl rfl ?_
    refine rr_geti (kz := 8) dX6_count_132 fl_6_173 (sh_18 L) ⟨(by decide), by decide⟩ rfl rfl ?_
    obtain ⟨rfl, rfl⟩ := ab_r2 h
    exact rr_iret dX6_count_135 rfl hQ
  refine rr_tsw_out (t := 136) dX6_count_1 (by omega) (by decide) ?_
  refine rr_ldc dX6_count_136 cs_6_69 ?_
  obtain ⟨rfl, rfl⟩ := ab_r2 h
  exact rr_iret dX6_count_138 rfl hQ
theorem u_X6_count {n : Nat} {p1 : Int} {σ σr : am_Mem} {rr : Int} (h : f_X6_count n p1 σ = some (rr, σr)) : σr = σ := by
  unfold f_X6_count at h
  have fr : σ = σ := rfl
  rcases ab_i h with ⟨c1, h⟩ | ⟨c1, h⟩
  · obtain ⟨r3, σ4, e2, h⟩ := ab_2 h
    have fr := (u_X2_howMany e2).trans fr
    obtain ⟨q1, q2⟩ := ab_r2 h
    exact q2.symm.trans fr
  rcases ab_i h with ⟨c5, h⟩ | ⟨c5, h⟩
  · obtain ⟨q1, q2⟩ := ab_r2 h
    exact q2.symm.trans fr
  rcases ab_i h with ⟨c6, h⟩ | ⟨c6, h⟩
  · obtain ⟨q1, q2⟩ := ab_r2 h
    exact q2.symm.trans fr
  rcases ab_i h with ⟨c7, h⟩ | ⟨c7, h⟩
  · obtain ⟨q1, q2⟩ := ab_r2 h
    exact q2.symm.trans fr
  rcases ab_i h with ⟨c8, h⟩ | ⟨c8, h⟩
  · obtain ⟨q1, q2⟩ := ab_r2 h
    exact q2.symm.trans fr
  rcases ab_i h with ⟨c9, h⟩ | ⟨c9, h⟩
  · obtain ⟨q1, q2⟩ := ab_r2 h
    exact q2.symm.trans fr
  rcases ab_i h with ⟨c10, h⟩ | ⟨c10, h⟩
  · obtain ⟨q1, q2⟩ := ab_r2 h
    exact q2.symm.trans fr
  rcases ab_i h with ⟨c11, h⟩ | ⟨c11, h⟩
  · obtain ⟨q1, q2⟩ := ab_r2 h
    exact q2.symm.trans fr
  rcases ab_i h with ⟨c12, h⟩ | ⟨c12, h⟩
  · obtain ⟨q1, q2⟩ := ab_r2 h
    exact q2.symm.trans fr
  rcases ab_i h with ⟨c13, h⟩ | ⟨c13, h⟩
  · obtain ⟨q1, q2⟩ := ab_r2 h
    exact q2.symm.trans fr
  obtain ⟨q1, q2⟩ := ab_r2 h
  exact q2.symm.trans fr
/-! MoodFare.status -/
def f_X6_status (n : Nat) (σ : am_Mem) : Option (Int × am_Mem) :=
  some (σ 3 8, σ)
theorem t_X6_status {L n d : Nat} {Q : am_Post} {σ σr : am_Mem} {rr : Int} (hd : 0 < d) (h : f_X6_status n σ = some (rr, σr)) (hQ : Q (some (am_i rr)) (rm_h L σr)) : xs_aw d me_X6_status [am_r 3] (rm_h L σ) Q := by
  obtain ⟨d, rfl⟩ : ∃ k, d = k + 1 := ⟨d - 1, by omega⟩
  have hd : 0 ≤ d := by omega
  unfold f_X6_status at h
  show xs_AW (xs_aw d) me_X6_status Q 0 [some (am_r 3)] [] (rm_h L σ)
  refine rr_aload_n dX6_status_0 rfl ?_
  refine rr_geti (kz := 8) dX6_status_1 fl_6_58 (sh_3 L) ⟨(by decide), by decide⟩ rfl rfl ?_
  obtain ⟨rfl, rfl⟩ := ab_r2 h
  exact rr_iret dX6_status_4 rfl hQ
theorem u_X6_status {n : Nat} {σ σr : am_Mem} {rr : Int} (h : f_X6_status n σ = some (rr, σr)) : σr = σ := by
  unfold f_X6_status at h
  have fr : σ = σ := rfl
  obtain ⟨q1, q2⟩ := ab_r2 h
  exact q2.symm.trans fr
