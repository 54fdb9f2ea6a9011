/-! MoodFareModel.undo -/
def f_X7_undo (n : Nat) (σ : am_Mem) : Option (Int × am_Mem) :=
  if σ 75 17 = 0 then (some ((-1000002), σ)) else (am_b1 (some (am_up σ 75 17 (am_w ((σ 75 17) - 1)))) fun σ2 => am_b1 (f_X7_copies n 84 1008 81 42 (am_w (42 * (σ2 75 17))) 0 σ2) fun σ6 => some (σ6 75 17, σ6))
theorem t_X7_undo {L n d : Nat} {Q : am_Post} {σ σr : am_Mem} {rr : Int} (hd : 1 < d) (h : f_X7_undo n σ = some (rr, σr)) (hQ : Q (some (am_i rr)) (rm_h L σr)) : xs_aw d me_X7_undo [am_r 75] (rm_h L σ) Q := by
  obtain ⟨d, rfl⟩ : ∃ k, d = k + 1 := ⟨d - 1, by omega⟩
  have hd : 1 ≤ d := by omega
  unfold f_X7_undo at h
  show xs_AW (xs_aw d) me_X7_undo Q 0 [some (am_r 75)] [] (rm_h L σ)
  refine rr_aload_n dX7_undo_0 rfl ?_
  refine rr_geti (kz := 17) dX7_undo_1 fl_7_160 (sh_75 L) ⟨(by decide), by decide⟩ rfl rfl ?_
  rcases ab_i h with ⟨c1, h⟩ | ⟨c1, h⟩
  · refine rr_if_ne_p (t := 10) dX7_undo_4 (by decide) c1 ?_
    refine rr_ldc dX7_undo_7 cs_7_180 ?_
    obtain ⟨rfl, rfl⟩ := ab_r2 h
    exact rr_iret dX7_undo_9 rfl hQ
  · refine rr_if_ne_n (t := 10) dX7_undo_4 (by decide) c1 ?_
    refine rr_aload_n dX7_undo_10 rfl ?_
    refine rr_dup dX7_undo_11 rfl ?_
    refine rr_geti (kz := 17) dX7_undo_12 fl_7_160 (sh_75 L) ⟨(by decide), by decide⟩ rfl rfl ?_
    refine rr_iconst dX7_undo_15 (by decide) ?_
    refine rr_isub dX7_undo_16 ?_
    obtain ⟨σ2, e3, h⟩ := ab_1 h
    refine rr_puti (kz := 17) dX7_undo_17 fl_7_160 (sh_75 L) ⟨(by decide), by decide⟩ ⟨rfl, rfl⟩ rfl (ab_m e3 ?_)
    refine rr_aload_n dX7_undo_20 rfl ?_
    refine rr_getr (t := 84) dX7_undo_21 fl_7_34 (sh_75 L) ⟨(by decide), by decide⟩ rfl rfl ?_
    refine rr_bipush dX7_undo_24 (by decide) ?_
    refine rr_aload_n dX7_undo_26 rfl ?_
    refine rr_geti (kz := 17) dX7_undo_27 fl_7_160 (sh_75 L) ⟨(by decide), by decide⟩ rfl rfl ?_
    refine rr_imul dX7_undo_30 ?_
    refine rr_aload_n dX7_undo_31 rfl ?_
    refine rr_getr (t := 81) dX7_undo_32 fl_7_25 (sh_75 L) ⟨(by decide), by decide⟩ rfl rfl ?_
    refine rr_iconst dX7_undo_35 (by decide) ?_
    obtain ⟨σ6, e4, h⟩ := ab_1 h
    refine rr_Sv (as := [am_r 84, am_i (am_w (42 * (σ2 75 17))), am_r 81, am_i 0]) (rest := []) dX7_undo_36 ml_7_156 (Or.inl rfl) rfl rfl (Nat.le_of_ble_eq_true rfl) ⟨rfl, rfl⟩ (Nat.le_of_ble_eq_true rfl) (fun _ k => t_X7_copies (by omega) (sh_84 L) (by decide) (sh_81 L) (by decide) e4 k) ?_
    refine rr_aload_n dX7_undo_39 rfl ?_
    refine rr_geti (kz := 17) dX7_undo_40 fl_7_160 (sh_75 L) ⟨(by decide), by decide⟩ rfl rfl ?_
    obtain ⟨rfl, rfl⟩ := ab_r2 h
    exact rr_iret dX7_undo_43 rfl hQ
def nw_X7_undo (a : Nat) : Prop := a ≠ 75 ∧ a ≠ 81
theorem w_X7_undo {n : Nat} {σ σr : am_Mem} {rr : Int} (h : f_X7_undo n σ = some (rr, σr)) : ∀ a : Nat, nw_X7_undo a → σr a = σ a := by
  unfold f_X7_undo at h
  have fr : ∀ a : Nat, nw_X7_undo a → σ a = σ a := fun _ _ => rfl
  rcases ab_i h with ⟨c1, h⟩ | ⟨c1, h⟩
  · obtain ⟨q1, q2⟩ := ab_r2 h
    exact fun a ha => (congrFun q2.symm a).trans (fr a ha)
  · obtain ⟨σ2, e3, h⟩ := ab_1 h
    have fr := fun (a : Nat) (ha : nw_X7_undo a) => (ab_fu e3 (show a ≠ 75 by unfold nw_X7_undo at ha; omega)).trans (fr a ha)
    obtain ⟨σ6, e4, h⟩ := ab_1 h
    have fr := fun (a : Nat) (ha : nw_X7_undo a) => (w_X7_copies e4 a (by unfold nw_X7_undo at ha; unfold nw_X7_copies; omega)).trans (fr a ha)
    obtain ⟨q1, q2⟩ := ab_r2 h
    exact fun a ha => (congrFun q2.symm a).trans (fr a ha)
/-! MoodFareModel.ends -/
def fb_X7_ends_5 (n : Nat) (kh5 : Int → Int → Int → Int → am_Mem → Option (Int × am_Mem)) (x1 : Int) (x2 : Int) (x3 : Int) (x4 : Int) (σ : am_Mem) : Option (Int × am_Mem) :=
  if x4 < σ 81 25 then (if (0 : Int) ≤ am_w ((am_w (26 + (am_w (2 * x4)))) + x2) ∧ am_w ((am_w (26 + (am_w (2 * x4)))) + x2) < 42 then if σ 81 (am_w ((am_w (26 + (am_w (2 * x4)))) + x2)) = x1 then (kh5 x1 x2 (am_or x3 (am_shl 1 x4)) (am_w (x4 + 1)) σ) else (kh5 x1 x2 (am_or x3 0) (am_w (x4 + 1)) σ) else none) else (some (x3, σ))
def fl_X7_ends_5 (n : Nat) : Nat → Int → Int → Int → Int → am_Mem → Option (Int × am_Mem)
  | 0, _, _, _, _, _ => none
  | m + 1, x1, x2, x3, x4, σ => fb_X7_ends_5 n (fun yx1 yx2 yx3 yx4 σ => fl_X7_ends_5 n m yx1 yx2 yx3 yx4 σ) x1 x2 x3 x4 σ
def f_X7_ends (n : Nat) (p1 : Int) (p2 : Int) (σ : am_Mem) : Option (Int × am_Mem) :=
  fl_X7_ends_5 n n p1 p2 0 0 σ
theorem tb_X7_ends_5 {L n d : Nat} {Q : am_Post} {kh5 : Int → Int → Int → Int → am_Mem → Option (Int × am_Mem)} {x1 : Int} {x2 : Int} {x3 : Int} {x4 : Int} {σ σr : am_Mem} {rr : Int} (hd : 0 ≤ d) (hk5 : ∀ (y1 : Int) (y2 : Int) (y3 : Int) (y4 : Int) (σ : am_Mem), kh5 y1 y2 y3 y4 σ = some (rr, σr) → xs_AW (xs_aw d) me_X7_ends Q 5 [some (am_r 75), some (am_i y1), some (am_i y2), some (am_i y3), some (am_i y4)] [] (rm_h L σ)) (hQ : Q (some (am_i rr)) (rm_h L σr)) (h : fb_X7_ends_5 n kh5 x1 x2 x3 x4 σ = some (rr, σr)) : xs_AW (xs_aw d) me_X7_ends Q 5 [some (am_r 75), some (am_i x1), some (am_i x2), some (am_i x3), some (am_i x4)] [] (rm_h L σ) := by
  unfold fb_X7_ends_5 at h
  refine rr_iload dX7_ends_5 rfl ?_
  refine rr_aload_n dX7_ends_7 rfl ?_
  refine rr_getr (t := 81) dX7_ends_8 fl_7_25 (sh_75 L) ⟨(by decide), by decide⟩ rfl rfl ?_
  refine rr_bipush dX7_ends_11 (by decide) ?_
  refine rr_iald (nz := 42) dX7_ends_13 (sh_81 L) rfl ⟨by decide, by decide⟩ ?_
  rcases ab_i h with ⟨c1, h⟩ | ⟨c1, h⟩
  · refine rr_icmp_ge_p (t := 52) dX7_ends_14 (by decide) c1 ?_
    refine rr_iload_n dX7_ends_17 rfl ?_
    refine rr_aload_n dX7_ends_18 rfl ?_
    refine rr_getr (t := 81) dX7_ends_19 fl_7_25 (sh_75 L) ⟨(by decide), by decide⟩ rfl rfl ?_
    refine rr_bipush dX7_ends_22 (by decide) ?_
    refine rr_iconst dX7_ends_24 (by decide) ?_
    refine rr_iload dX7_ends_25 rfl ?_
    refine rr_imul dX7_ends_27 ?_
    refine rr_iadd dX7_ends_28 ?_
    refine rr_iload_n dX7_ends_29 rfl ?_
    refine rr_iadd dX7_ends_30 ?_
    obtain ⟨g2, h⟩ := ab_g h
    refine rr_iald (nz := 42) dX7_ends_31 (sh_81 L) rfl g2 ?_
    refine rr_iload_n dX7_ends_32 rfl ?_
    rcases ab_i h with ⟨c3, h⟩ | ⟨c3, h⟩
    · refine rr_icmp_ne_p (t := 43) dX7_ends_33 (by decide) c3 ?_
      refine rr_iconst dX7_ends_36 (by decide) ?_
      refine rr_iload dX7_ends_37 rfl ?_
      refine rr_ishl dX7_ends_39 ?_
      refine rr_goto (t := 44) dX7_ends_40 (by decide) ?_
      refine rr_ior dX7_ends_44 ?_
      refine rr_istore_n (ls' := [some (am_r 75), some (am_i x1), some (am_i x2), some (am_i (am_or x3 (am_shl 1 x4))), some (am_i x4)]) dX7_ends_45 (Nat.le_of_ble_eq_true rfl) rfl ?_
      refine rr_iinc (ls' := [some (am_r 75), some (am_i x1), some (am_i x2), some (am_i (am_or x3 (am_shl 1 x4))), some (am_i (am_w (x4 + 1)))]) dX7_ends_46 rfl (Nat.le_of_ble_eq_true rfl) rfl ?_
      refine rr_goto (t := 5) dX7_ends_49 (by decide) ?_
      exact hk5 _ _ _ _ _ h
    · refine rr_icmp_ne_n (t := 43) dX7_ends_33 (by decide) c3 ?_
      refine rr_iconst dX7_ends_43 (by decide) ?_
      refine rr_ior dX7_ends_44 ?_
      refine rr_istore_n (ls' := [some (am_r 75), some (am_i x1), some (am_i x2), some (am_i (am_or x3 0)), some (am_i x4)]) dX7_ends_45 (Nat.le_of_ble_eq_true rfl) rfl ?_
      refine rr_iinc (ls' := [some (am_r 75), some (am_i x1), some (am_i x2), some (am_i (am_or x3 0)), some (am_i (am_w (x4 + 1)))]) dX7_ends_46 rfl (Nat.le_of_ble_eq_true rfl) rfl ?_
      refine rr_goto (t := 5) dX7_ends_49 (by decide) ?_
      exact hk5 _ _ _ _ _ h
  · refine rr_icmp_ge_n (t := 52) dX7_ends_14 (by decide) c1 ?_
    refine rr_iload_n dX7_ends_52 rfl ?_
    obtain ⟨rfl, rfl⟩ := ab_r2 h
    exact rr_iret dX7_ends_53 rfl hQ
theorem tl_X7_ends_5 {L n d : Nat} {Q : am_Post} {σr : am_Mem} {rr : Int} (hd : 0 ≤ d) (hQ : Q (some (am_i rr)) (rm_h L σr)) : ∀ (m : Nat) (x1 : Int) (x2 : Int) (x3 : Int) (x4 : Int) (σ : am_Mem), fl_X7_ends_5 n m x1 x2 x3 x4 σ = some (rr, σr) → xs_AW (xs_aw d) me_X7_ends Q 5 [some (am_r 75), some (am_i x1), some (am_i x2), some (am_i x3), some (am_i x4)] [] (rm_h L σ) := by
  intro m
  induction m with
  | zero => intro x1 x2 x3 x4 σ h; cases h
  | succ m ih =>
    intro x1 x2 x3 x4 σ h
    exact tb_X7_ends_5 hd (fun x1 x2 x3 x4 σ h => ih x1 x2 x3 x4 σ h) hQ h
theorem t_X7_ends {L n d : Nat} {Q : am_Post} {p1 : Int} {p2 : Int} {σ σr : am_Mem} {rr : Int} (hd : 0 < d) (h : f_X7_ends n p1 p2 σ = some (rr, σr)) (hQ : Q (some (am_i rr)) (rm_h L σr)) : xs_aw d me_X7_ends [am_r 75, am_i p1, am_i p2] (rm_h L σ) Q := by
  obtain ⟨d, rfl⟩ : ∃ k, d = k + 1 := ⟨d - 1, by omega⟩
  have hd : 0 ≤ d := by omega
  unfold f_X7_ends at h
  show xs_AW (xs_aw d) me_X7_ends Q 0 [some (am_r 75), some (am_i p1), some (am_i p2), none, none] [] (rm_h L σ)
  refine rr_iconst dX7_ends_0 (by decide) ?_
  refine rr_istore_n (ls' := [some (am_r 75), some (am_i p1), some (am_i p2), some (am_i 0), none]) dX7_ends_1 (Nat.le_of_ble_eq_true rfl) rfl ?_
  refine rr_iconst dX7_ends_2 (by decide) ?_
  refine rr_istore (ls' := [some (am_r 75), some (am_i p1), some (am_i p2), some (am_i 0), some (am_i 0)]) dX7_ends_3 (Nat.le_of_ble_eq_true rfl) rfl ?_
  exact tl_X7_ends_5 hd hQ n _ _ _ _ _ h
theorem ub_X7_ends_5 {n : Nat} {kh5 : Int → Int → Int → Int → am_Mem → Option (Int × am_Mem)} {x1 : Int} {x2 : Int} {x3 : Int} {x4 : Int} {σ σr : am_Mem} {rr : Int} (hk5 : ∀ (y1 : Int) (y2 : Int) (y3 : Int) (y4 : Int) (σ : am_Mem), kh5 y1 y2 y3 y4 σ = some (rr, σr) → σr = σ) (h : fb_X7_ends_5 n kh5 x1 x2 x3 x4 σ = some (rr, σr)) : σr = σ := by
  unfold fb_X7_ends_5 at h
  have fr : σ = σ := rfl
  rcases ab_i h with ⟨c1, h⟩ | ⟨c1, h⟩
  · obtain ⟨g2, h⟩ := ab_g h
    rcases ab_i h with ⟨c3, h⟩ | ⟨c3, h⟩
    · exact (hk5 _ _ _ _ _ h).trans fr
    · exact (hk5 _ _ _ _ _ h).trans fr
  · obtain ⟨q1, q2⟩ := ab_r2 h
    exact q2.symm.trans fr
theorem ul_X7_ends_5 {n : Nat} {σr : am_Mem} {rr : Int} : ∀ (m : Nat) (x1 : Int) (x2 : Int) (x3 : Int) (x4 : Int) (σ : am_Mem), fl_X7_ends_5 n m x1 x2 x3 x4 σ = some (rr, σr) → σr = σ := by
  intro m
  induction m with
  | zero => intro x1 x2 x3 x4 σ h; cases h
  | succ m ih =>
    intro x1 x2 x3 x4 σ h
    exact ub_X7_ends_5 (fun x1 x2 x3 x4 σ h => ih x1 x2 x3 x4 σ h) h
theorem u_X7_ends {n : Nat} {p1 : Int} {p2 : Int} {σ σr : am_Mem} {rr : Int} (h : f_X7_ends n p1 p2 σ = some (rr, σr)) : σr = σ := by
  unfold f_X7_ends at h
  have fr : σ = σ := rfl
  exact (ul_X7_ends_5 n _ _ _ _ _ h).trans fr
/-! MoodFareModel.corner -/
def f_X7_corner (n : Nat) (p1 : Int) (p2 : Int) (σ : am_Mem) : Option (Int × am_Mem) :=
  am_b2 (f_X7_isCorner n p1 σ) fun r2 σ3 => if r2 = 0 then (some ((-1000001), σ3)) else (if p2 = 0 then (if (0 : Int) ≤ am_w ((am_w (7 + (am_w (3 * p1)))) + 1) ∧ am_w ((am_w (7 + (am_w (3 * p1)))) + 1) < 42 then some (σ3 81 (am_w ((am_w (7 + (am_w (3 * p1)))) + 1)), σ3) else none) else (if p2 = 1 then (if (0 : Int) ≤ am_w ((am_w (7 + (am_w (3 * p1)))) + 2) ∧ am_w ((am_w (7 + (am_w (3 * p1)))) + 2) < 42 then some (σ3 81 (am_w ((am_w (7 + (am_w (3 * p1)))) + 2)), σ3) else none) else (if p2 = 2 then (am_b2 (f_X7_ends n p1 0 σ3) fun r11 σ12 => some (r11, σ12)) else (if p2 = 3 then (am_b2 (f_X7_ends n p1 1 σ3) fun r15 σ16 => some (r15, σ16)) else (if p2 = 4 then (am_b2 (f_X7_passed n 81 42 p1 (σ3 81 1) (σ3 81 3) σ3) fun r19 σ20 => some (r19, σ20)) else (some ((-1000001), σ3)))))))
theorem t_X7_corner {L n d : Nat} {Q : am_Post} {p1 : Int} {p2 : Int} {σ σr : am_Mem} {rr : Int} (hd : 2 < d) (h : f_X7_corner n p1 p2 σ = some (rr, σr)) (hQ : Q (some (am_i rr)) (rm_h L σr)) : xs_aw d me_X7_corner [am_r 75, am_i p1, am_i p2] (rm_h L σ) Q := by
  obtain ⟨d, rfl⟩ : ∃ k, d = k + 1 := ⟨d - 1, by omega⟩
  have hd : 2 ≤ d := by omega
  unfold f_X7_corner at h
  show xs_AW (xs_aw d) me_X7_corner Q 0 [some (am_r 75), some (am_i p1), some (am_i p2)] [] (rm_h L σ)
  refine rr_aload_n dX7_corner_0 rfl ?_
  refine rr_iload_n dX7_corner_1 rfl ?_
  obtain ⟨r2, σ3, e1, h⟩ := ab_2 h
  refine rr_Vi (as := [am_i p1]) (rest := []) dX7_corner_2 ml_7_188 (sh_75 L) ⟨(by decide), by decide, by decide⟩ rfl rfl rfl (Nat.le_of_ble_eq_true rfl) ⟨rfl, rfl⟩ (Nat.le_of_ble_eq_true rfl) (fun _ k => t_X7_isCorner (by omega) e1 k) ?_
  rcases ab_i h with ⟨c4, h⟩ | ⟨c4, h⟩
  · refine rr_if_ne_p (t := 11) dX7_corner_5 (by decide) c4 ?_
    refine rr_ldc dX7_corner_8 cs_7_79 ?_
    obtain ⟨rfl, rfl⟩ := ab_r2 h
    exact rr_iret dX7_corner_10 rfl hQ
  · refine rr_if_ne_n (t := 11) dX7_corner_5 (by decide) c4 ?_
    refine rr_iload_n dX7_corner_11 rfl ?_
    rcases ab_i h with ⟨c5, h⟩ | ⟨c5, h⟩
    · refine rr_tsw_in (off := 36) (t := 48) dX7_corner_12 (by omega) (by rw [c5]; rfl) (by decide) ?_
      refine rr_aload_n dX7_corner_48 rfl ?_
      refine rr_getr (t := 81) dX7_corner_49 fl_7_25 (sh_75 L) ⟨(by decide), by decide⟩ rfl rfl ?_
      refine rr_bipush dX7_corner_52 (by decide) ?_
      refine rr_iconst dX7_corner_54 (by decide) ?_
      refine rr_iload_n dX7_corner_55 rfl ?_
      refine rr_imul dX7_corner_56 ?_
      refine rr_iadd dX7_corner_57 ?_
      refine rr_iconst dX7_corner_58 (by decide) ?_
      refine rr_iadd dX7_corner_59 ?_
      obtain ⟨g6, h⟩ := ab_g h
      refine rr_iald (nz := 42) dX7_corner_60 (sh_81 L) rfl g6 ?_
      obtain ⟨rfl, rfl⟩ := ab_r2 h
      exact rr_iret dX7_corner_61 rfl hQ
    rcases ab_i h with ⟨c7, h⟩ | ⟨c7, h⟩
    · refine rr_tsw_in (off := 50) (t := 62) dX7_corner_12 (by omega) (by rw [c7]; rfl) (by decide) ?_
      refine rr_aload_n dX7_corner_62 rfl ?_
      refine rr_getr (t := 81) dX7_corner_63 fl_7_25 (sh_75 L) ⟨(by decide), by decide⟩ rfl rfl ?_
      refine rr_bipush dX7_corner_66 (by decide) ?_
      refine rr_iconst dX7_corner_68 (by decide) ?_
      refine rr_iload_n dX7_corner_69 rfl ?_
      refine rr_imul dX7_corner_70 ?_
      refine rr_iadd dX7_corner_71 ?_
      refine rr_iconst dX7_corner_72 (by decide) ?_
      refine rr_iadd dX7_corner_73 ?_
      obtain ⟨g8, h⟩ := ab_g h
      refine rr_iald (nz := 42) dX7_corner_74 (sh_81 L) rfl g8 ?_
      obtain ⟨rfl, rfl⟩ := ab_r2 h
      exact rr_iret dX7_corner_75 rfl hQ
    rcases ab_i h with ⟨c9, h⟩ | ⟨c9, h⟩
    · refine rr_tsw_in (off := 64) (t := 76) dX7_corner_12 (by omega) (by rw [c9]; rfl) (by decide) ?_
      refine rr_aload_n dX7_corner_76 rfl ?_
      refine rr_iload_n dX7_corner_77 rfl ?_
      refine rr_iconst dX7_corner_78 (by decide) ?_
      obtain ⟨r11, σ12, e10, h⟩ := ab_2 h
      refine rr_Vi (as := [am_i p1, am_i 0]) (rest := []) dX7_corner_79 ml_7_194 (sh_75 L) ⟨(by decide), by decide, by decide⟩ rfl rfl rfl (Nat.le_of_ble_eq_true rfl) ⟨rfl, rfl⟩ (Nat.le_of_ble_eq_true rfl) (fun _ k => t_X7_ends (by omega) e10 k) ?_
      obtain ⟨rfl, rfl⟩ := ab_r2 h
      exact rr_iret dX7_corner_82 rfl hQ
    rcases ab_i h with ⟨c13, h⟩ | ⟨c13, h⟩
    · refine rr_tsw_in (off := 71) (t := 83) dX7_corner_12 (by omega) (by rw [c13]; rfl) (by decide) ?_
      refine rr_aload_n dX7_corner_83 rfl ?_
      refine rr_iload_n dX7_corner_84 rfl ?_
      refine rr_iconst dX7_corner_85 (by decide) ?_
      obtain ⟨r15, σ16, e14, h⟩ := ab_2 h
      refine rr_Vi (as := [am_i p1, am_i 1]) (rest := []) dX7_corner_86 ml_7_194 (sh_75 L) ⟨(by decide), by decide, by decide⟩ rfl rfl rfl (Nat.le_of_ble_eq_true rfl) ⟨rfl, rfl⟩ (Nat.le_of_ble_eq_true rfl) (fun _ k => t_X7_ends (by omega) e14 k) ?_
      obtain ⟨rfl, rfl⟩ := ab_r2 h
      exact rr_iret dX7_corner_89 rfl hQ
    rcases ab_i h with ⟨c17, h⟩ | ⟨c17, h⟩
    · refine rr_tsw_in (off := 78) (t := 90) dX7_corner_12 (by omega) (by rw [c17]; rfl) (by decide) ?_
      refine rr_aload_n dX7_corner_90 rfl ?_
      refine rr_getr (t := 81) dX7_corner_91 fl_7_25 (sh_75 L) ⟨(by decide), by decide⟩ rfl rfl ?_
      refine rr_iload_n dX7_corner_94 rfl ?_
      refine rr_aload_n dX7_corner_95 rfl ?_
      refine rr_getr (t := 81) dX7_corner_96 fl_7_25 (sh_75 L) ⟨(by decide), by decide⟩ rfl rfl ?_
      refine rr_iconst dX7_corner_99 (by decide) ?_
      refine rr_iald (nz := 42) dX7_corner_100 (sh_81 L) rfl ⟨by decide, by decide⟩ ?_
      refine rr_aload_n dX7_corner_101 rfl ?_
      refine rr_getr (t := 81) dX7_corner_102 fl_7_25 (sh_75 L) ⟨(by decide), by decide⟩ rfl rfl ?_
      refine rr_iconst dX7_corner_105 (by decide) ?_
      refine rr_iald (nz := 42) dX7_corner_106 (sh_81 L) rfl ⟨by decide, by decide⟩ ?_
      obtain ⟨r19, σ20, e18, h⟩ := ab_2 h
      refine rr_Si (as := [am_r 81, am_i p1, am_i (σ3 81 1), am_i (σ3 81 3)]) (rest := []) dX7_corner_107 ml_7_163 (Or.inl rfl) rfl rfl (Nat.le_of_ble_eq_true rfl) ⟨rfl, rfl⟩ (Nat.le_of_ble_eq_true rfl) (fun _ k => t_X7_passed (by omega) (sh_81 L) (by decide) e18 k) ?_
      obtain ⟨rfl, rfl⟩ := ab_r2 h
      exact rr_iret dX7_corner_110 rfl hQ
    refine rr_tsw_out (t := 111) dX7_corner_12 (by omega) (by decide) ?_
    refine rr_ldc dX7_corner_111 cs_7_79 ?_
    obtain ⟨rfl, rfl⟩ := ab_r2 h
    exact rr_iret dX7_corner_113 rfl hQ
theorem u_X7_corner {n : Nat} {p1 : Int} {p2 : Int} {σ σr : am_Mem} {rr : Int} (h : f_X7_corner n p1 p2 σ = some (rr, σr)) : σr = σ := by
  unfold f_X7_corner at h
  have fr : σ = σ := rfl
  obtain ⟨r2, σ3, e1, h⟩ := ab_2 h
  have fr := (u_X7_isCorner e1).trans fr
  rcases ab_i h with ⟨c4, h⟩ | ⟨c4, h⟩
  · obtain ⟨q1, q2⟩ := ab_r2 h
    exact q2.symm.trans fr
  · rcases ab_i h with ⟨c5, h⟩ | ⟨c5, h⟩
    · obtain ⟨g6, h⟩ := ab_g h
      obtain ⟨q1, q2⟩ := ab_r2 h
      exact q2.symm.trans fr
    rcases ab_i h with ⟨c7, h⟩ | ⟨c7, h⟩
    · obtain ⟨g8, h⟩ := ab_g h
      obtain ⟨q1, q2⟩ := ab_r2 h
      exact q2.symm.trans fr
    rcases ab_i h with ⟨c9, h⟩ | ⟨c9, h⟩
    · obtain ⟨r11, σ12, e10, h⟩ := ab_2 h
      have fr := (u_X7_ends e10).trans fr
      obtain ⟨q1, q2⟩ := ab_r2 h
      exact q2.symm.trans fr
    rcases ab_i h with ⟨c13, h⟩ | ⟨c13, h⟩
    · obtain ⟨r15, σ16, e14, h⟩ := ab_2 h
      have fr := (u_X7_ends e14).trans fr
      obtain ⟨q1, q2⟩ := ab_r2 h
      exact q2.symm.trans fr
    rcases ab_i h with ⟨c17, h⟩ | ⟨c17, h⟩
    · obtain ⟨r19, σ20, e18, h⟩ := ab_2 h
      have fr := (u_X7_passed e18).trans fr
      obtain ⟨q1, q2⟩ := ab_r2 h
      exact q2.symm.trans fr
    obtain ⟨q1, q2⟩ := ab_r2 h
    exact q2.symm.trans fr
/-! MoodFareModel.way -/
def f_X7_way (n : Nat) (p1 : Int) (p2 : Int) (σ : am_Mem) : Option (Int × am_Mem) :=
  am_b2 (f_X7_isStreet n p1 σ) fun r2 σ3 => if r2 = 0 then (some ((-1000001), σ3)) else (am_b2 (f_X7_in n p2 0 2 σ3) fun r6 σ7 => if r6 = 0 then (some ((-1000001), σ7)) else (if p2 < 2 then (if (0 : Int) ≤ am_w ((am_w (26 + (am_w (2 * p1)))) + p2) ∧ am_w ((am_w (26 + (am_w (2 * p1)))) + p2) < 42 then some (σ7 81 (am_w ((am_w (26 + (am_w (2 * p1)))) + p2)), σ7) else none) else (some (am_and (am_shr (σ7 81 5) p1) 1, σ7))))
theorem t_X7_way {L n d : Nat} {Q : am_Post} {p1 : Int} {p2 : Int} {σ σr : am_Mem} {rr : Int} (hd : 2 < d) (h : f_X7_way n p1 p2 σ = some (rr, σr)) (hQ : Q (some (am_i rr)) (rm_h L σr)) : xs_aw d me_X7_way [am_r 75, am_i p1, am_i p2] (rm_h L σ) Q := by
  obtain ⟨d, rfl⟩ : ∃ k, d = k + 1 := ⟨d - 1, by omega⟩
  have hd : 2 ≤ d := by omega
  unfold f_X7_way at h
  show xs_AW (xs_aw d) me_X7_way Q 0 [some (am_r 75), some (am_i p1), some (am_i p2)] [] (rm_h L σ)
  refine rr_aload_n dX7_way_0 rfl ?_
  refine rr_iload_n dX7_way_1 rfl ?_
  obtain ⟨r2, σ3, e1, h⟩ := ab_2 h
  refine rr_Vi (as := [am_i p1]) (rest := []) dX7_way_2 ml_7_173 (sh_75 L) ⟨(by decide), by decide, by decide⟩ rfl rfl rfl (Nat.le_of_ble_eq_true rfl) ⟨rfl, rfl⟩ (Nat.le_of_ble_eq_true rfl) (fun _ k => t_X7_isStreet (by omega) e1 k) ?_
  rcases ab_i h with ⟨c4, h⟩ | ⟨c4, h⟩
  · refine rr_if_eq_p (t := 17) dX7_way_5 (by decide) c4 ?_
    refine rr_ldc dX7_way_17 cs_7_79 ?_
    obtain ⟨rfl, rfl⟩ := ab_r2 h
    exact rr_iret dX7_way_19 rfl hQ
  · refine rr_if_eq_n (t := 17) dX7_way_5 (by decide) c4 ?_
    refine rr_iload_n dX7_way_8 rfl ?_
    refine rr_iconst dX7_way_9 (by decide) ?_
    refine rr_iconst dX7_way_10 (by decide) ?_
    obtain ⟨r6, σ7, e5, h⟩ := ab_2 h
    refine rr_Si (as := [am_i p2, am_i 0, am_i 2]) (rest := []) dX7_way_11 ml_7_71 (Or.inl rfl) rfl rfl (Nat.le_of_ble_eq_true rfl) ⟨rfl, rfl⟩ (Nat.le_of_ble_eq_true rfl) (fun _ k => t_X7_in (by omega) e5 k) ?_
    rcases ab_i h with ⟨c8, h⟩ | ⟨c8, h⟩
    · refine rr_if_ne_p (t := 20) dX7_way_14 (by decide) c8 ?_
      refine rr_ldc dX7_way_17 cs_7_79 ?_
      obtain ⟨rfl, rfl⟩ := ab_r2 h
      exact rr_iret dX7_way_19 rfl hQ
    · refine rr_if_ne_n (t := 20) dX7_way_14 (by decide) c8 ?_
      refine rr_iload_n dX7_way_20 rfl ?_
      refine rr_iconst dX7_way_21 (by decide) ?_
      rcases ab_i h with ⟨c9, h⟩ | ⟨c9, h⟩
      · refine rr_icmp_ge_p (t := 41) dX7_way_22 (by decide) c9 ?_
        refine rr_aload_n dX7_way_25 rfl ?_
        refine rr_getr (t := 81) dX7_way_26 fl_7_25 (sh_75 L) ⟨(by decide), by decide⟩ rfl rfl ?_
        refine rr_bipush dX7_way_29 (by decide) ?_
        refine rr_iconst dX7_way_31 (by decide) ?_
        refine rr_iload_n dX7_way_32 rfl ?_
        refine rr_imul dX7_way_33 ?_
        refine rr_iadd dX7_way_34 ?_
        refine rr_iload_n dX7_way_35 rfl ?_
        refine rr_iadd dX7_way_36 ?_
        obtain ⟨g10, h⟩ := ab_g h
        refine rr_iald (nz := 42) dX7_way_37 (sh_81 L) rfl g10 ?_
        refine rr_goto (t := 51) dX7_way_38 (by decide) ?_
        obtain ⟨rfl, rfl⟩ := ab_r2 h
        exact rr_iret dX7_way_51 rfl hQ
      · refine rr_icmp_ge_n (t := 41) dX7_way_22 (by decide) c9 ?_
        refine rr_aload_n dX7_way_41 rfl ?_
        refine rr_getr (t := 81) dX7_way_42 fl_7_25 (sh_75 L) ⟨(by decide), by decide⟩ rfl rfl ?_
        refine rr_iconst dX7_way_45 (by decide) ?_
        refine rr_iald (nz := 42) dX7_way_46 (sh_81 L) rfl ⟨by decide, by decide⟩ ?_
        refine rr_iload_n dX7_way_47 rfl ?_
        refine rr_ishr dX7_way_48 ?_
        refine rr_iconst dX7_way_49 (by decide) ?_
        refine rr_iand dX7_way_50 ?_
        obtain ⟨rfl, rfl⟩ := ab_r2 h
        exact rr_iret dX7_way_51 rfl hQ
theorem u_X7_way {n : Nat} {p1 : Int} {p2 : Int} {σ σr : am_Mem} {rr : Int} (h : f_X7_way n p1 p2 σ = some (rr, σr)) : σr = σ := by
  unfold f_X7_way at h
  have fr : σ = σ := rfl
  obtain ⟨r2, σ3, e1, h⟩ := ab_2 h
  have fr := (u_X7_isStreet e1).trans fr
  rcases ab_i h with ⟨c4, h⟩ | ⟨c4, h⟩
  · obtain ⟨q1, q2⟩ := ab_r2 h
    exact q2.symm.trans fr
  · obtain ⟨r6, σ7, e5, h⟩ := ab_2 h
    have fr := (u_X7_in e5).trans fr
    rcases ab_i h with ⟨c8, h⟩ | ⟨c8, h⟩
    · obtain ⟨q1, q2⟩ := ab_r2 h
      exact q2.symm.trans fr
    · rcases ab_i h with ⟨c9, h⟩ | ⟨c9, h⟩
      · obtain ⟨g10, h⟩ := ab_g h
        obtain ⟨q1, q2⟩ := ab_r2 h
        exact q2.symm.trans fr
      · obtain ⟨q1, q2⟩ := ab_r2 h
        exact q2.symm.trans fr
/-! MoodFareModel.would -/
def f_X7_would (n : Nat) (p1 : Int) (p2 : Int) (σ : am_Mem) : Option (Int × am_Mem) :=
  am_b2 (f_X7_isStreet n p1 σ) fun r2 σ3 => if r2 = 0 then (some ((-1000001), σ3)) else (am_b2 (f_X7_in n p2 0 1 σ3) fun r6 σ7 => if r6 = 0 then (some ((-1000001), σ7)) else (am_b2 (f_X7_goes n 81 42 p1 (σ7 81 4) σ7) fun r10 σ11 => if r10 = 0 then (some ((-1000000), σ11)) else (if (0 : Int) ≤ am_w ((am_w (26 + (am_w (2 * p1)))) + 1) ∧ am_w ((am_w (26 + (am_w (2 * p1)))) + 1) < 42 then if p2 = 0 then (am_b2 (f_X7_passed n 81 42 (σ11 81 (am_w ((am_w (26 + (am_w (2 * p1)))) + 1))) (σ11 81 1) (σ11 81 3) σ11) fun r16 σ17 => some (r16, σ17)) else (am_b2 (f_X7_cost n 81 42 (σ11 81 (am_w ((am_w (26 + (am_w (2 * p1)))) + 1))) (σ11 81 1) (σ11 81 3) σ11) fun r19 σ20 => some (r19, σ20)) else none)))
theorem t_X7_would {L n d : Nat} {Q : am_Post} {p1 : Int} {p2 : Int} {σ σr : am_Mem} {rr : Int} (hd : 2 < d) (h : f_X7_would n p1 p2 σ = some (rr, σr)) (hQ : Q (some (am_i rr)) (rm_h L σr)) : xs_aw d me_X7_would [am_r 75, am_i p1, am_i p2] (rm_h L σ) Q := by
  obtain ⟨d, rfl⟩ : ∃ k, d = k + 1 := ⟨d - 1, by omega⟩
  have hd : 2 ≤ d := by omega
  unfold f_X7_would at h
  show xs_AW (xs_aw d) me_X7_would Q 0 [some (am_r 75), some (am_i p1), some (am_i p2), none] [] (rm_h L σ)
  refine rr_aload_n dX7_would_0 rfl ?_
  refine rr_iload_n dX7_would_1 rfl ?_
  obtain ⟨r2, σ3, e1, h⟩ := ab_2 h
  refine rr_Vi (as := [am_i p1]) (rest := []) dX7_would_2 ml_7_173 (sh_75 L) ⟨(by decide), by decide, by decide⟩ rfl rfl rfl (Nat.le_of_ble_eq_true rfl) ⟨rfl, rfl⟩ (Nat.le_of_ble_eq_true rfl) (fun _ k => t_X7_isStreet (by omega) e1 k) ?_
  rcases ab_i h with ⟨c4, h⟩ | ⟨c4, h⟩
  · refine rr_if_eq_p (t := 17) dX7_would_5 (by decide) c4 ?_
    refine rr_ldc dX7_would_17 cs_7_79 ?_
    obtain ⟨rfl, rfl⟩ := ab_r2 h
    exact rr_iret dX7_would_19 rfl hQ
  · refine rr_if_eq_n (t := 17) dX7_would_5 (by decide) c4 ?_
    refine rr_iload_n dX7_would_8 rfl ?_
    refine rr_iconst dX7_would_9 (by decide) ?_
    refine rr_iconst dX7_would_10 (by decide) ?_
    obtain ⟨r6, σ7, e5, h⟩ := ab_2 h
    refine rr_Si (as := [am_i p2, am_i 0, am_i 1]) (rest := []) dX7_would_11 ml_7_71 (Or.inl rfl) rfl rfl (Nat.le_of_ble_eq_true rfl) ⟨rfl, rfl⟩ (Nat.le_of_ble_eq_true rfl) (fun _ k => t_X7_in (by omega) e5 k) ?_
    rcases ab_i h with ⟨c8, h⟩ | ⟨c8, h⟩
    · refine rr_if_ne_p (t := 20) dX7_would_14 (by decide) c8 ?_
      refine rr_ldc dX7_would_17 cs_7_79 ?_
      obtain ⟨rfl, rfl⟩ := ab_r2 h
      exact rr_iret dX7_would_19 rfl hQ
    · refine rr_if_ne_n (t := 20) dX7_would_14 (by decide) c8 ?_
      refine rr_aload_n dX7_would_20 rfl ?_
      refine rr_getr (t := 81) dX7_would_21 fl_7_25 (sh_75 L) ⟨(by decide), by decide⟩ rfl rfl ?_
      refine rr_iload_n dX7_would_24 rfl ?_
      refine rr_aload_n dX7_would_25 rfl ?_
      refine rr_getr (t := 81) dX7_would_26 fl_7_25 (sh_75 L) ⟨(by decide), by decide⟩ rfl rfl ?_
      refine rr_iconst dX7_would_29 (by decide) ?_
      refine rr_iald (nz := 42) dX7_would_30 (sh_81 L) rfl ⟨by decide, by decide⟩ ?_
      obtain ⟨r10, σ11, e9, h⟩ := ab_2 h
      refine rr_Si (as := [am_r 81, am_i p1, am_i (σ7 81 4)]) (rest := []) dX7_would_31 ml_7_176 (Or.inl rfl) rfl rfl (Nat.le_of_ble_eq_true rfl) ⟨rfl, rfl⟩ (Nat.le_of_ble_eq_true rfl) (fun _ k => t_X7_goes (by omega) (sh_81 L) (by decide) e9 k) ?_
      rcases ab_i h with ⟨c12, h⟩ | ⟨c12, h⟩
      · refine rr_if_ne_p (t := 40) dX7_would_34 (by decide) c12 ?_
        refine rr_ldc dX7_would_37 cs_7_65 ?_
        obtain ⟨rfl, rfl⟩ := ab_r2 h
        exact rr_iret dX7_would_39 rfl hQ
      · refine rr_if_ne_n (t := 40) dX7_would_34 (by decide) c12 ?_
        refine rr_aload_n dX7_would_40 rfl ?_
        refine rr_getr (t := 81) dX7_would_41 fl_7_25 (sh_75 L) ⟨(by decide), by decide⟩ rfl rfl ?_
        refine rr_bipush dX7_would_44 (by decide) ?_
        refine rr_iconst dX7_would_46 (by decide) ?_
        refine rr_iload_n dX7_would_47 rfl ?_
        refine rr_imul dX7_would_48 ?_
        refine rr_iadd dX7_would_49 ?_
        refine rr_iconst dX7_would_50 (by decide) ?_
        refine rr_iadd dX7_would_51 ?_
        obtain ⟨g13, h⟩ := ab_g h
        refine rr_iald (nz := 42) dX7_would_52 (sh_81 L) rfl g13 ?_
        refine rr_istore_n (ls' := [some (am_r 75), some (am_i p1), some (am_i p2), some (am_i (σ11 81 (am_w ((am_w (26 + (am_w (2 * p1)))) + 1))))]) dX7_would_53 (Nat.le_of_ble_eq_true rfl) rfl ?_
        refine rr_iload_n dX7_would_54 rfl ?_
        rcases ab_i h with ⟨c14, h⟩ | ⟨c14, h⟩
        · refine rr_if_ne_p (t := 81) dX7_would_55 (by decide) c14 ?_
          refine rr_aload_n dX7_would_58 rfl ?_
          refine rr_getr (t := 81) dX7_would_59 fl_7_25 (sh_75 L) ⟨(by decide), by decide⟩ rfl rfl ?_
          refine rr_iload_n dX7_would_62 rfl ?_
          refine rr_aload_n dX7_would_63 rfl ?_
          refine rr_getr (t := 81) dX7_would_64 fl_7_25 (sh_75 L) ⟨(by decide), by decide⟩ rfl rfl ?_
          refine rr_iconst dX7_would_67 (by decide) ?_
          refine rr_iald (nz := 42) dX7_would_68 (sh_81 L) rfl ⟨by decide, by decide⟩ ?_
          refine rr_aload_n dX7_would_69 rfl ?_
          refine rr_getr (t := 81) dX7_would_70 fl_7_25 (sh_75 L) ⟨(by decide), by decide⟩ rfl rfl ?_
          refine rr_iconst dX7_would_73 (by decide) ?_
          refine rr_iald (nz := 42) dX7_would_74 (sh_81 L) rfl ⟨by decide, by decide⟩ ?_
          obtain ⟨r16, σ17, e15, h⟩ := ab_2 h
          refine rr_Si (as := [am_r 81, am_i (σ11 81 (am_w ((am_w (26 + (am_w (2 * p1)))) + 1))), am_i (σ11 81 1), am_i (σ11 81 3)]) (rest := []) dX7_would_75 ml_7_163 (Or.inl rfl) rfl rfl (Nat.le_of_ble_eq_true rfl) ⟨rfl, rfl⟩ (Nat.le_of_ble_eq_true rfl) (fun _ k => t_X7_passed (by omega) (sh_81 L) (by decide) e15 k) ?_
          refine rr_goto (t := 101) dX7_would_78 (by decide) ?_
          obtain ⟨rfl, rfl⟩ := ab_r2 h
          exact rr_iret dX7_would_101 rfl hQ
        · refine rr_if_ne_n (t := 81) dX7_would_55 (by decide) c14 ?_
          refine rr_aload_n dX7_would_81 rfl ?_
          refine rr_getr (t := 81) dX7_would_82 fl_7_25 (sh_75 L) ⟨(by decide), by decide⟩ rfl rfl ?_
          refine rr_iload_n dX7_would_85 rfl ?_
          refine rr_aload_n dX7_would_86 rfl ?_
          refine rr_getr (t := 81) dX7_would_87 fl_7_25 (sh_75 L) ⟨(by decide), by decide⟩ rfl rfl ?_
          refine rr_iconst dX7_would_90 (by decide) ?_
          refine rr_iald (nz := 42) dX7_would_91 (sh_81 L) rfl ⟨by decide, by decide⟩ ?_
          refine rr_aload_n dX7_would_92 rfl ?_
          refine rr_getr (t := 81) dX7_would_93 fl_7_25 (sh_75 L) ⟨(by decide), by decide⟩ rfl rfl ?_
          refine rr_iconst dX7_would_96 (by decide) ?_
          refine rr_iald (nz := 42) dX7_would_97 (sh_81 L) rfl ⟨by decide, by decide⟩ ?_
          obtain ⟨r19, σ20, e18, h⟩ := ab_2 h
          refine rr_Si (as := [am_r 81, am_i (σ11 81 (am_w ((am_w (26 + (am_w (2 * p1)))) + 1))), am_i (σ11 81 1), am_i (σ11 81 3)]) (rest := []) dX7_would_98 ml_7_170 (Or.inl rfl) rfl rfl (Nat.le_of_ble_eq_true rfl) ⟨rfl, rfl⟩ (Nat.le_of_ble_eq_true rfl) (fun _ k => t_X7_cost (by omega) (sh_81 L) (by decide) e18 k) ?_
          obtain ⟨rfl, rfl⟩ := ab_r2 h
          exact rr_iret dX7_would_101 rfl hQ
theorem u_X7_would {n : Nat} {p1 : Int} {p2 : Int} {σ σr : am_Mem} {rr : Int} (h : f_X7_would n p1 p2 σ = some (rr, σr)) : σr = σ := by
  unfold f_X7_would at h
  have fr : σ = σ := rfl
  obtain ⟨r2, σ3, e1, h⟩ := ab_2 h
  have fr := (u_X7_isStreet e1).trans fr
  rcases ab_i h with ⟨c4, h⟩ | ⟨c4, h⟩
  · obtain ⟨q1, q2⟩ := ab_r2 h
    exact q2.symm.trans fr
  · obtain ⟨r6, σ7, e5, h⟩ := ab_2 h
    have fr := (u_X7_in e5).trans fr
    rcases ab_i h with ⟨c8, h⟩ | ⟨c8, h⟩
    · obtain ⟨q1, q2⟩ := ab_r2 h
      exact q2.symm.trans fr
    · obtain ⟨r10, σ11, e9, h⟩ := ab_2 h
      have fr := (u_X7_goes e9).trans fr
      rcases ab_i h with ⟨c12, h⟩ | ⟨c12, h⟩
      · obtain ⟨q1, q2⟩ := ab_r2 h
        exact q2.symm.trans fr
      · obtain ⟨g13, h⟩ := ab_g h
        rcases ab_i h with ⟨c14, h⟩ | ⟨c14, h⟩
        · obtain ⟨r16, σ17, e15, h⟩ := ab_2 h
          have fr := (u_X7_passed e15).trans fr
          obtain ⟨q1, q2⟩ := ab_r2 h
          exact q2.symm.trans fr
        · obtain ⟨r19, σ20, e18, h⟩ := ab_2 h
          have fr := (u_X7_cost e18).trans fr
          obtain ⟨q1, q2⟩ := ab_r2 h
          exact q2.symm.trans fr
/-! MoodFareModel.reach -/
def fb_X7_reach_29 (n : Nat) (kh21 : Int → Int → am_Mem → Option (Int × am_Mem)) (kh29 : Int → Int → Int → am_Mem → Option (Int × am_Mem)) (x1 : Int) (x2 : Int) (x3 : Int) (σ : am_Mem) : Option (Int × am_Mem) :=
  if x3 < σ 81 25 then (am_b2 (f_X7_has n (σ 81 5) x3 σ) fun r8 σ9 => if r8 = 0 then (kh29 (am_or x1 0) x2 (am_w (x3 + 1)) σ9) else (if (0 : Int) ≤ am_w (26 + (am_w (2 * x3))) ∧ am_w (26 + (am_w (2 * x3))) < 42 then am_b2 (f_X7_has n x1 (σ9 81 (am_w (26 + (am_w (2 * x3))))) σ9) fun r13 σ14 => if r13 = 0 then (kh29 (am_or x1 0) x2 (am_w (x3 + 1)) σ14) else (if (0 : Int) ≤ am_w ((am_w (26 + (am_w (2 * x3)))) + 1) ∧ am_w ((am_w (26 + (am_w (2 * x3)))) + 1) < 42 then kh29 (am_or x1 (am_shl 1 (σ14 81 (am_w ((am_w (26 + (am_w (2 * x3)))) + 1))))) x2 (am_w (x3 + 1)) σ14 else none) else none)) else (kh21 x1 (am_w (x2 + 1)) σ)
def fl_X7_reach_29 (n : Nat) (kh21 : Int → Int → am_Mem → Option (Int × am_Mem)) : Nat → Int → Int → Int → am_Mem → Option (Int × am_Mem)
  | 0, _, _, _, _ => none
  | m + 1, x1, x2, x3, σ => fb_X7_reach_29 n kh21 (fun yx1 yx2 yx3 σ => fl_X7_reach_29 n kh21 m yx1 yx2 yx3 σ) x1 x2 x3 σ
def fb_X7_reach_21 (n : Nat) (kh21 : Int → Int → am_Mem → Option (Int × am_Mem)) (x1 : Int) (x2 : Int) (σ : am_Mem) : Option (Int × am_Mem) :=
  if x2 < 6 then (fl_X7_reach_29 n kh21 n x1 x2 0 σ) else (some (x1, σ))
def fl_X7_reach_21 (n : Nat) : Nat → Int → Int → am_Mem → Option (Int × am_Mem)
  | 0, _, _, _ => none
  | m + 1, x1, x2, σ => fb_X7_reach_21 n (fun yx1 yx2 σ => fl_X7_reach_21 n m yx1 yx2 σ) x1 x2 σ
def f_X7_reach (n : Nat) (σ : am_Mem) : Option (Int × am_Mem) :=
  am_b2 (f_X7_isTown n σ) fun r2 σ3 => if r2 = 0 then (some ((-1000002), σ3)) else (fl_X7_reach_21 n n (am_shl 1 (σ3 81 4)) 0 σ3)
theorem tb_X7_reach_29 {L n d : Nat} {Q : am_Post} {kh21 : Int → Int → am_Mem → Option (Int × am_Mem)} {kh29 : Int → Int → Int → am_Mem → Option (Int × am_Mem)} {x1 : Int} {x2 : Int} {x3 : Int} {σ σr : am_Mem} {rr : Int} (hd : 1 ≤ d) (hk21 : ∀ (y1 : Int) (y2 : Int) (σ : am_Mem), kh21 y1 y2 σ = some (rr, σr) → ∀ (o3 : Option am_V), xs_AW (xs_aw d) me_X7_reach Q 21 [some (am_r 75), some (am_i y1), some (am_i y2), o3] [] (rm_h L σ)) (hk29 : ∀ (y1 : Int) (y2 : Int) (y3 : Int) (σ : am_Mem), kh29 y1 y2 y3 σ = some (rr, σr) → xs_AW (xs_aw d) me_X7_reach Q 29 [some (am_r 75), some (am_i y1), some (am_i y2), some (am_i y3)] [] (rm_h L σ)) (hQ : Q (some (am_i rr)) (rm_h L σr)) (h : fb_X7_reach_29 n kh21 kh29 x1 x2 x3 σ = some (rr, σr)) : xs_AW (xs_aw d) me_X7_reach Q 29 [some (am_r 75), some (am_i x1), some (am_i x2), some (am_i x3)] [] (rm_h L σ) := by
  unfold fb_X7_reach_29 at h
  refine rr_iload_n dX7_reach_29 rfl ?_
  refine rr_aload_n dX7_reach_30 rfl ?_
  refine rr_getr (t := 81) dX7_reach_31 fl_7_25 (sh_75 L) ⟨(by decide), by decide⟩ rfl rfl ?_
  refine rr_bipush dX7_reach_34 (by decide) ?_
  refine rr_iald (nz := 42) dX7_reach_36 (sh_81 L) rfl ⟨by decide, by decide⟩ ?_
  rcases ab_i h with ⟨c6, h⟩ | ⟨c6, h⟩
  · refine rr_icmp_ge_p (t := 99) dX7_reach_37 (by decide) c6 ?_
    refine rr_iload_n dX7_reach_40 rfl ?_
    refine rr_aload_n dX7_reach_41 rfl ?_
    refine rr_getr (t := 81) dX7_reach_42 fl_7_25 (sh_75 L) ⟨(by decide), by decide⟩ rfl rfl ?_
    refine rr_iconst dX7_reach_45 (by decide) ?_
    refine rr_iald (nz := 42) dX7_reach_46 (sh_81 L) rfl ⟨by decide, by decide⟩ ?_
    refine rr_iload_n dX7_reach_47 rfl ?_
    obtain ⟨r8, σ9, e7, h⟩ := ab_2 h
    refine rr_Si (as := [am_i (σ 81 5), am_i x3]) (rest := [am_i x1]) dX7_reach_48 ml_7_167 (Or.inl rfl) rfl rfl (Nat.le_of_ble_eq_true rfl) ⟨rfl, rfl⟩ (Nat.le_of_ble_eq_true rfl) (fun _ k => t_X7_has (by omega) e7 k) ?_
    rcases ab_i h with ⟨c10, h⟩ | ⟨c10, h⟩
    · refine rr_if_eq_p (t := 90) dX7_reach_51 (by decide) c10 ?_
      refine rr_iconst dX7_reach_90 (by decide) ?_
      refine rr_ior dX7_reach_91 ?_
      refine rr_istore_n (ls' := [some (am_r 75), some (am_i (am_or x1 0)), some (am_i x2), some (am_i x3)]) dX7_reach_92 (Nat.le_of_ble_eq_true rfl) rfl ?_
      refine rr_iinc (ls' := [some (am_r 75), some (am_i (am_or x1 0)), some (am_i x2), some (am_i (am_w (x3 + 1)))]) dX7_reach_93 rfl (Nat.le_of_ble_eq_true rfl) rfl ?_
      refine rr_goto (t := 29) dX7_reach_96 (by decide) ?_
      exact hk29 _ _ _ _ h
    · refine rr_if_eq_n (t := 90) dX7_reach_51 (by decide) c10 ?_
      refine rr_iload_n dX7_reach_54 rfl ?_
      refine rr_aload_n dX7_reach_55 rfl ?_
      refine rr_getr (t := 81) dX7_reach_56 fl_7_25 (sh_75 L) ⟨(by decide), by decide⟩ rfl rfl ?_
      refine rr_bipush dX7_reach_59 (by decide) ?_
      refine rr_iconst dX7_reach_61 (by decide) ?_
      refine rr_iload_n dX7_reach_62 rfl ?_
      refine rr_imul dX7_reach_63 ?_
      refine rr_iadd dX7_reach_64 ?_
      obtain ⟨g11, h⟩ := ab_g h
      refine rr_iald (nz := 42) dX7_reach_65 (sh_81 L) rfl g11 ?_
      obtain ⟨r13, σ14, e12, h⟩ := ab_2 h
      refine rr_Si (as := [am_i x1, am_i (σ9 81 (am_w (26 + (am_w (2 * x3)))))]) (rest := [am_i x1]) dX7_reach_66 ml_7_167 (Or.inl rfl) rfl rfl (Nat.le_of_ble_eq_true rfl) ⟨rfl, rfl⟩ (Nat.le_of_ble_eq_true rfl) (fun _ k => t_X7_has (by omega) e12 k) ?_
      rcases ab_i h with ⟨c15, h⟩ | ⟨c15, h⟩
      · refine rr_if_eq_p (t := 90) dX7_reach_69 (by decide) c15 ?_
        refine rr_iconst dX7_reach_90 (by decide) ?_
        refine rr_ior dX7_reach_91 ?_
        refine rr_istore_n (ls' := [some (am_r 75), some (am_i (am_or x1 0)), some (am_i x2), some (am_i x3)]) dX7_reach_92 (Nat.le_of_ble_eq_true rfl) rfl ?_
        refine rr_iinc (ls' := [some (am_r 75), some (am_i (am_or x1 0)), some (am_i x2), some (am_i (am_w (x3 + 1)))]) dX7_reach_93 rfl (Nat.le_of_ble_eq_true rfl) rfl ?_
        refine rr_goto (t := 29) dX7_reach_96 (by decide) ?_
        exact hk29 _ _ _ _ h
      · refine rr_if_eq_n (t := 90) dX7_reach_69 (by decide) c15 ?_
        refine rr_iconst dX7_reach_72 (by decide) ?_
        refine rr_aload_n dX7_reach_73 rfl ?_
        refine rr_getr (t := 81) dX7_reach_74 fl_7_25 (sh_75 L) ⟨(by decide), by decide⟩ rfl rfl ?_
        refine rr_bipush dX7_reach_77 (by decide) ?_
        refine rr_iconst dX7_reach_79 (by decide) ?_
        refine rr_iload_n dX7_reach_80 rfl ?_
        refine rr_imul dX7_reach_81 ?_
        refine rr_iadd dX7_reach_82 ?_
        refine rr_iconst dX7_reach_83 (by decide) ?_
        refine rr_iadd dX7_reach_84 ?_
        obtain ⟨g16, h⟩ := ab_g h
        refine rr_iald (nz := 42) dX7_reach_85 (sh_81 L) rfl g16 ?_
        refine rr_ishl dX7_reach_86 ?_
        refine rr_goto (t := 91) dX7_reach_87 (by decide) ?_
        refine rr_ior dX7_reach_91 ?_
        refine rr_istore_n (ls' := [some (am_r 75), some (am_i (am_or x1 (am_shl 1 (σ14 81 (am_w ((am_w (26 + (am_w (2 * x3)))) + 1)))))), some (am_i x2), some (am_i x3)]) dX7_reach_92 (Nat.le_of_ble_eq_true rfl) rfl ?_
        refine rr_iinc (ls' := [some (am_r 75), some (am_i (am_or x1 (am_shl 1 (σ14 81 (am_w ((am_w (26 + (am_w (2 * x3)))) + 1)))))), some (am_i x2), some (am_i (am_w (x3 + 1)))]) dX7_reach_93 rfl (Nat.le_of_ble_eq_true rfl) rfl ?_
        refine rr_goto (t := 29) dX7_reach_96 (by decide) ?_
        exact hk29 _ _ _ _ h
  · refine rr_icmp_ge_n (t := 99) dX7_reach_37 (by decide) c6 ?_
    refine rr_iinc (ls' := [some (am_r 75), some (am_i x1), some (am_i (am_w (x2 + 1))), some (am_i x3)]) dX7_reach_99 rfl (Nat.le_of_ble_eq_true rfl) rfl ?_
    refine rr_goto (t := 21) dX7_reach_102 (by decide) ?_
    exact hk21 _ _ _ h _
theorem tl_X7_reach_29 {L n d : Nat} {Q : am_Post} {kh21 : Int → Int → am_Mem → Option (Int × am_Mem)} {σr : am_Mem} {rr : Int} (hd : 1 ≤ d) (hk21 : ∀ (y1 : Int) (y2 : Int) (σ : am_Mem), kh21 y1 y2 σ = some (rr, σr) → ∀ (o3 : Option am_V), xs_AW (xs_aw d) me_X7_reach Q 21 [some (am_r 75), some (am_i y1), some (am_i y2), o3] [] (rm_h L σ)) (hQ : Q (some (am_i rr)) (rm_h L σr)) : ∀ (m : Nat) (x1 : Int) (x2 : Int) (x3 : Int) (σ : am_Mem), fl_X7_reach_29 n kh21 m x1 x2 x3 σ = some (rr, σr) → xs_AW (xs_aw d) me_X7_reach Q 29 [some (am_r 75), some (am_i x1), some (am_i x2), some (am_i x3)] [] (rm_h L σ) := by
  intro m
  induction m with
  | zero => intro x1 x2 x3 σ h; cases h
  | succ m ih =>
    intro x1 x2 x3 σ h
    exact tb_X7_reach_29 hd hk21 (fun x1 x2 x3 σ h => ih x1 x2 x3 σ h) hQ h
theorem tb_X7_reach_21 {L n d : Nat} {Q : am_Post} {kh21 : Int → Int → am_Mem → Option (Int × am_Mem)} {x1 : Int} {x2 : Int} {o3 : Option am_V} {σ σr : am_Mem} {rr : Int} (hd : 1 ≤ d) (hk21 : ∀ (y1 : Int) (y2 : Int) (σ : am_Mem), kh21 y1 y2 σ = some (rr, σr) → ∀ (o3 : Option am_V), xs_AW (xs_aw d) me_X7_reach Q 21 [some (am_r 75), some (am_i y1), some (am_i y2), o3] [] (rm_h L σ)) (hQ : Q (some (am_i rr)) (rm_h L σr)) (h : fb_X7_reach_21 n kh21 x1 x2 σ = some (rr, σr)) : xs_AW (xs_aw d) me_X7_reach Q 21 [some (am_r 75), some (am_i x1), some (am_i x2), o3] [] (rm_h L σ) := by
  unfold fb_X7_reach_21 at h
  refine rr_iload_n dX7_reach_21 rfl ?_
  refine rr_bipush dX7_reach_22 (by decide) ?_
  rcases ab_i h with ⟨c5, h⟩ | ⟨c5, h⟩
  · refine rr_icmp_ge_p (t := 105) dX7_reach_24 (by decide) c5 ?_
    refine rr_iconst dX7_reach_27 (by decide) ?_
    refine rr_istore_n (ls' := [some (am_r 75), some (am_i x1), some (am_i x2), some (am_i 0)]) dX7_reach_28 (Nat.le_of_ble_eq_true rfl) rfl ?_
    exact tl_X7_reach_29 hd hk21 hQ n _ _ _ _ h
  · refine rr_icmp_ge_n (t := 105) dX7_reach_24 (by decide) c5 ?_
    refine rr_iload_n dX7_reach_105 rfl ?_
    obtain ⟨rfl, rfl⟩ := ab_r2 h
    exact rr_iret dX7_reach_106 rfl hQ
theorem tl_X7_reach_21 {L n d : Nat} {Q : am_Post} {σr : am_Mem} {rr : Int} (hd : 1 ≤ d) (hQ : Q (some (am_i rr)) (rm_h L σr)) : ∀ (m : Nat) (x1 : Int) (x2 : Int) (σ : am_Mem) (o3 : Option am_V), fl_X7_reach_21 n m x1 x2 σ = some (rr, σr) → xs_AW (xs_aw d) me_X7_reach Q 21 [some (am_r 75), some (am_i x1), some (am_i x2), o3] [] (rm_h L σ) := by
  intro m
  induction m with
  | zero => intro x1 x2 σ o3 h; cases h
  | succ m ih =>
    intro x1 x2 σ o3 h
    exact tb_X7_reach_21 hd (fun x1 x2 σ h o3 => ih x1 x2 σ o3 h) hQ h
theorem t_X7_reach {L n d : Nat} {Q : am_Post} {σ σr : am_Mem} {rr : Int} (hd : 1 < d) (h : f_X7_reach n σ = some (rr, σr)) (hQ : Q (some (am_i rr)) (rm_h L σr)) : xs_aw d me_X7_reach [am_r 75] (rm_h L σ) Q := by
  obtain ⟨d, rfl⟩ : ∃ k, d = k + 1 := ⟨d - 1, by omega⟩
  have hd : 1 ≤ d := by omega
  unfold f_X7_reach at h
  show xs_AW (xs_aw d) me_X7_reach Q 0 [some (am_r 75), none, none, none] [] (rm_h L σ)
  refine rr_aload_n dX7_reach_0 rfl ?_
  obtain ⟨r2, σ3, e1, h⟩ := ab_2 h
  refine rr_Vi (as := []) (rest := []) dX7_reach_1 ml_7_191 (sh_75 L) ⟨(by decide), by decide, by decide⟩ rfl rfl rfl (Nat.le_of_ble_eq_true rfl) ⟨rfl, rfl⟩ (Nat.le_of_ble_eq_true rfl) (fun _ k => t_X7_isTown (by omega) e1 k) ?_
  rcases ab_i h with ⟨c4, h⟩ | ⟨c4, h⟩
  · refine rr_if_ne_p (t := 10) dX7_reach_4 (by decide) c4 ?_
    refine rr_ldc dX7_reach_7 cs_7_180 ?_
    obtain ⟨rfl, rfl⟩ := ab_r2 h
    exact rr_iret dX7_reach_9 rfl hQ
  · refine rr_if_ne_n (t := 10) dX7_reach_4 (by decide) c4 ?_
    refine rr_iconst dX7_reach_10 (by decide) ?_
    refine rr_aload_n dX7_reach_11 rfl ?_
    refine rr_getr (t := 81) dX7_reach_12 fl_7_25 (sh_75 L) ⟨(by decide), by decide⟩ rfl rfl ?_
    refine rr_iconst dX7_reach_15 (by decide) ?_
    refine rr_iald (nz := 42) dX7_reach_16 (sh_81 L) rfl ⟨by decide, by decide⟩ ?_
    refine rr_ishl dX7_reach_17 ?_
    refine rr_istore_n (ls' := [some (am_r 75), some (am_i (am_shl 1 (σ3 81 4))), none, none]) dX7_reach_18 (Nat.le_of_ble_eq_true rfl) rfl ?_
    refine rr_iconst dX7_reach_19 (by decide) ?_
    refine rr_istore_n (ls' := [some (am_r 75), some (am_i (am_shl 1 (σ3 81 4))), some (am_i 0), none]) dX7_reach_20 (Nat.le_of_ble_eq_true rfl) rfl ?_
    exact tl_X7_reach_21 hd hQ n _ _ _ _ h
theorem ub_X7_reach_29 {n : Nat} {kh21 : Int → Int → am_Mem → Option (Int × am_Mem)} {kh29 : Int → Int → Int → am_Mem → Option (Int × am_Mem)} {x1 : Int} {x2 : Int} {x3 : Int} {σ σr : am_Mem} {rr : Int} (hk21 : ∀ (y1 : Int) (y2 : Int) (σ : am_Mem), kh21 y1 y2 σ = some (rr, σr) → σr = σ) (hk29 : ∀ (y1 : Int) (y2 : Int) (y3 : Int) (σ : am_Mem), kh29 y1 y2 y3 σ = some (rr, σr) → σr = σ) (h : fb_X7_reach_29 n kh21 kh29 x1 x2 x3 σ = some (rr, σr)) : σr = σ := by
  unfold fb_X7_reach_29 at h
  have fr : σ = σ := rfl
  rcases ab_i h with ⟨c6, h⟩ | ⟨c6, h⟩
  · obtain ⟨r8, σ9, e7, h⟩ := ab_2 h
    have fr := (u_X7_has e7).trans fr
    rcases ab_i h with ⟨c10, h⟩ | ⟨c10, h⟩
    · exact (hk29 _ _ _ _ h).trans fr
    · obtain ⟨g11, h⟩ := ab_g h
      obtain ⟨r13, σ14, e12, h⟩ := ab_2 h
      have fr := (u_X7_has e12).trans fr
      rcases ab_i h with ⟨c15, h⟩ | ⟨c15, h⟩
      · exact (hk29 _ _ _ _ h).trans fr
      · obtain ⟨g16, h⟩ := ab_g h
        exact (hk29 _ _ _ _ h).trans fr
  · exact (hk21 _ _ _ h).trans fr
theorem ul_X7_reach_29 {n : Nat} {kh21 : Int → Int → am_Mem → Option (Int × am_Mem)} {σr : am_Mem} {rr : Int} (hk21 : ∀ (y1 : Int) (y2 : Int) (σ : am_Mem), kh21 y1 y2 σ = some (rr, σr) → σr = σ) : ∀ (m : Nat) (x1 : Int) (x2 : Int) (x3 : Int) (σ : am_Mem), fl_X7_reach_29 n kh21 m x1 x2 x3 σ = some (rr, σr) → σr = σ := by
  intro m
  induction m with
  | zero => intro x1 x2 x3 σ h; cases h
  | succ m ih =>
    intro x1 x2 x3 σ h
    exact ub_X7_reach_29 hk21 (fun x1 x2 x3 σ h => ih x1 x2 x3 σ h) h
theorem ub_X7_reach_21 {n : Nat} {kh21 : Int → Int → am_Mem → Option (Int × am_Mem)} {x1 : Int} {x2 : Int} {σ σr : am_Mem} {rr : Int} (hk21 : ∀ (y1 : Int) (y2 : Int) (σ : am_Mem), kh21 y1 y2 σ = some (rr, σr) → σr = σ) (h : fb_X7_reach_21 n kh21 x1 x2 σ = some (rr, σr)) : σr = σ := by
  unfold fb_X7_reach_21 at h
  have fr : σ = σ := rfl
  rcases ab_i h with ⟨c5, h⟩ | ⟨c5, h⟩
  · exact (ul_X7_reach_29 hk21 n _ _ _ _ h).trans fr
  · obtain ⟨q1, q2⟩ := ab_r2 h
    exact q2.symm.trans fr
theorem ul_X7_reach_21 {n : Nat} {σr : am_Mem} {rr : Int} : ∀ (m : Nat) (x1 : Int) (x2 : Int) (σ : am_Mem), fl_X7_reach_21 n m x1 x2 σ = some (rr, σr) → σr = σ := by
  intro m
  induction m with
  | zero => intro x1 x2 σ h; cases h
  | succ m ih =>
    intro x1 x2 σ h
    exact ub_X7_reach_21 (fun x1 x2 σ h => ih x1 x2 σ h) h
theorem u_X7_reach {n : Nat} {σ σr : am_Mem} {rr : Int} (h : f_X7_reach n σ = some (rr, σr)) : σr = σ := by
  unfold f_X7_reach at h
  have fr : σ = σ := rfl
  obtain ⟨r2, σ3, e1, h⟩ := ab_2 h
  have fr := (u_X7_isTown e1).trans fr
  rcases ab_i h with ⟨c4, h⟩ | ⟨c4, h⟩
  · obtain ⟨q1, q2⟩ := ab_r2 h
    exact q2.symm.trans fr
  · exact (ul_X7_reach_21 n _ _ _ h).trans fr
/-! MoodFareModel.begins -/
def f_X7_begins (n : Nat) (σ : am_Mem) : Option am_Mem :=
  am_b1 (f_X7_copies n 81 42 83 42 0 0 σ) fun σ3 => am_b1 (some (am_up σ3 75 20 0)) fun σ4 => am_b1 (some (am_up σ4 88 0 0)) fun σ6 => am_b1 (some (am_up σ6 89 0 (σ6 81 4))) fun σ8 => am_b1 (some (am_up σ8 90 0 (σ8 81 1))) fun σ10 => am_b1 (some (am_up σ10 91 0 0)) fun σ12 => some σ12
theorem t_X7_begins {L n d : Nat} {Q : am_Post} {σ σr : am_Mem} (hd : 1 < d) (h : f_X7_begins n σ = some σr) (hQ : Q none (rm_h L σr)) : xs_aw d me_X7_begins [am_r 75] (rm_h L σ) Q := by
  obtain ⟨d, rfl⟩ : ∃ k, d = k + 1 := ⟨d - 1, by omega⟩
  have hd : 1 ≤ d := by omega
  unfold f_X7_begins at h
  show xs_AW (xs_aw d) me_X7_begins Q 0 [some (am_r 75)] [] (rm_h L σ)
  refine rr_aload_n dX7_begins_0 rfl ?_
  refine rr_getr (t := 81) dX7_begins_1 fl_7_25 (sh_75 L) ⟨(by decide), by decide⟩ rfl rfl ?_
  refine rr_iconst dX7_begins_4 (by decide) ?_
  refine rr_aload_n dX7_begins_5 rfl ?_
  refine rr_getr (t := 83) dX7_begins_6 fl_7_31 (sh_75 L) ⟨(by decide), by decide⟩ rfl rfl ?_
  refine rr_iconst dX7_begins_9 (by decide) ?_
  obtain ⟨σ3, e1, h⟩ := ab_1 h
  refine rr_Sv (as := [am_r 81, am_i 0, am_r 83, am_i 0]) (rest := []) dX7_begins_10 ml_7_156 (Or.inl rfl) rfl rfl (Nat.le_of_ble_eq_true rfl) ⟨rfl, rfl⟩ (Nat.le_of_ble_eq_true rfl) (fun _ k => t_X7_copies (by omega) (sh_81 L) (by decide) (sh_83 L) (by decide) e1 k) ?_
  refine rr_aload_n dX7_begins_13 rfl ?_
  refine rr_iconst dX7_begins_14 (by decide) ?_
  obtain ⟨σ4, e5, h⟩ := ab_1 h
  refine rr_puti (kz := 20) dX7_begins_15 fl_7_197 (sh_75 L) ⟨(by decide), by decide⟩ ⟨rfl, rfl⟩ rfl (ab_m e5 ?_)
  refine rr_aload_n dX7_begins_18 rfl ?_
  refine rr_getr (t := 88) dX7_begins_19 fl_7_47 (sh_75 L) ⟨(by decide), by decide⟩ rfl rfl ?_
  refine rr_iconst dX7_begins_22 (by decide) ?_
  refine rr_iconst dX7_begins_23 (by decide) ?_
  refine rr_iast (nz := 9) dX7_begins_24 (sh_88 L) (by decide) rfl ⟨by decide, by decide⟩ ?_
  obtain ⟨σ6, e7, h⟩ := ab_1 h
  refine ab_m e7 ?_
  refine rr_aload_n dX7_begins_25 rfl ?_
  refine rr_getr (t := 89) dX7_begins_26 fl_7_50 (sh_75 L) ⟨(by decide), by decide⟩ rfl rfl ?_
  refine rr_iconst dX7_begins_29 (by decide) ?_
  refine rr_aload_n dX7_begins_30 rfl ?_
  refine rr_getr (t := 81) dX7_begins_31 fl_7_25 (sh_75 L) ⟨(by decide), by decide⟩ rfl rfl ?_
  refine rr_iconst dX7_begins_34 (by decide) ?_
  refine rr_iald (nz := 42) dX7_begins_35 (sh_81 L) rfl ⟨by decide, by decide⟩ ?_
  refine rr_iast (nz := 9) dX7_begins_36 (sh_89 L) (by decide) rfl ⟨by decide, by decide⟩ ?_
  obtain ⟨σ8, e9, h⟩ := ab_1 h
  refine ab_m e9 ?_
  refine rr_aload_n dX7_begins_37 rfl ?_
  refine rr_getr (t := 90) dX7_begins_38 fl_7_53 (sh_75 L) ⟨(by decide), by decide⟩ rfl rfl ?_
  refine rr_iconst dX7_begins_41 (by decide) ?_
  refine rr_aload_n dX7_begins_42 rfl ?_
  refine rr_getr (t := 81) dX7_begins_43 fl_7_25 (sh_75 L) ⟨(by decide), by decide⟩ rfl rfl ?_
  refine rr_iconst dX7_begins_46 (by decide) ?_
  refine rr_iald (nz := 42) dX7_begins_47 (sh_81 L) rfl ⟨by decide, by decide⟩ ?_
  refine rr_iast (nz := 9) dX7_begins_48 (sh_90 L) (by decide) rfl ⟨by decide, by decide⟩ ?_
  obtain ⟨σ10, e11, h⟩ := ab_1 h
  refine ab_m e11 ?_
  refine rr_aload_n dX7_begins_49 rfl ?_
  refine rr_getr (t := 91) dX7_begins_50 fl_7_56 (sh_75 L) ⟨(by decide), by decide⟩ rfl rfl ?_
  refine rr_iconst dX7_begins_53 (by decide) ?_
  refine rr_iconst dX7_begins_54 (by decide) ?_
  refine rr_iast (nz := 9) dX7_begins_55 (sh_91 L) (by decide) rfl ⟨by decide, by decide⟩ ?_
  obtain ⟨σ12, e13, h⟩ := ab_1 h
  refine ab_m e13 ?_
  obtain rfl := ab_r1 h
  exact rr_vret dX7_begins_56 rfl hQ
def nw_X7_begins (a : Nat) : Prop := a ≠ 75 ∧ a ≠ 83 ∧ a ≠ 88 ∧ a ≠ 89 ∧ a ≠ 90 ∧ a ≠ 91
theorem w_X7_begins {n : Nat} {σ σr : am_Mem} (h : f_X7_begins n σ = some σr) : ∀ a : Nat, nw_X7_begins a → σr a = σ a := by
  unfold f_X7_begins at h
  have fr : ∀ a : Nat, nw_X7_begins a → σ a = σ a := fun _ _ => rfl
  obtain ⟨σ3, e1, h⟩ := ab_1 h
  have fr := fun (a : Nat) (ha : nw_X7_begins a) => (w_X7_copies e1 a (by unfold nw_X7_begins at ha; unfold nw_X7_copies; omega)).trans (fr a ha)
  obtain ⟨σ4, e5, h⟩ := ab_1 h
  have fr := fun (a : Nat) (ha : nw_X7_begins a) => (ab_fu e5 (show a ≠ 75 by unfold nw_X7_begins at ha; omega)).trans (fr a ha)
  obtain ⟨σ6, e7, h⟩ := ab_1 h
  have fr := fun (a : Nat) (ha : nw_X7_begins a) => (ab_fu e7 (show a ≠ 88 by unfold nw_X7_begins at ha; omega)).trans (fr a ha)
  obtain ⟨σ8, e9, h⟩ := ab_1 h
  have fr := fun (a : Nat) (ha : nw_X7_begins a) => (ab_fu e9 (show a ≠ 89 by unfold nw_X7_begins at ha; omega)).trans (fr a ha)
  obtain ⟨σ10, e11, h⟩ := ab_1 h
  have fr := fun (a : Nat) (ha : nw_X7_begins a) => (ab_fu e11 (show a ≠ 90 by unfold nw_X7_begins at ha; omega)).trans (fr a ha)
  obtain ⟨σ12, e13, h⟩ := ab_1 h
  have fr := fun (a : Nat) (ha : nw_X7_begins a) => (ab_fu e13 (show a ≠ 91 by unfold nw_X7_begins at ha; omega)).trans (fr a ha)
  have q2 := ab_r1 h
  exact fun a ha => (congrFun q2.symm a).trans (fr a ha)
/-! MoodFareModel.adds -/
def f_X7_adds (n : Nat) (p1 : Int) (σ : am_Mem) : Option am_Mem :=
  if (0 : Int) ≤ am_w ((am_w (26 + (am_w (2 * p1)))) + 1) ∧ am_w ((am_w (26 + (am_w (2 * p1)))) + 1) < 42 then if (0 : Int) ≤ σ 75 20 ∧ σ 75 20 < 8 then am_b1 (some (am_up σ 87 (σ 75 20) p1)) fun σ3 => if (0 : Int) ≤ σ3 75 20 ∧ σ3 75 20 < 9 then am_b1 (some (am_up σ3 88 (σ3 75 20) (am_w (p1 + 1)))) fun σ6 => if (0 : Int) ≤ am_w ((σ6 75 20) + 1) ∧ am_w ((σ6 75 20) + 1) < 9 then am_b1 (some (am_up σ6 89 (am_w ((σ6 75 20) + 1)) (σ 83 (am_w ((am_w (26 + (am_w (2 * p1)))) + 1))))) fun σ9 => if (0 : Int) ≤ σ9 75 20 ∧ σ9 75 20 < 9 then am_b2 (f_X7_passed n 83 42 (σ 83 (am_w ((am_w (26 + (am_w (2 * p1)))) + 1))) (σ9 90 (σ9 75 20)) (am_w ((σ 83 3) + (σ 75 20))) σ9) fun r13 σ14 => if (0 : Int) ≤ am_w ((σ9 75 20) + 1) ∧ am_w ((σ9 75 20) + 1) < 9 then am_b1 (some (am_up σ14 90 (am_w ((σ9 75 20) + 1)) r13)) fun σ16 => if (0 : Int) ≤ σ16 75 20 ∧ σ16 75 20 < 9 then am_b2 (f_X7_cost n 83 42 (σ 83 (am_w ((am_w (26 + (am_w (2 * p1)))) + 1))) (σ16 90 (σ16 75 20)) (am_w ((σ 83 3) + (σ 75 20))) σ16) fun r20 σ21 => if (0 : Int) ≤ am_w ((σ16 75 20) + 1) ∧ am_w ((σ16 75 20) + 1) < 9 then am_b1 (some (am_up σ21 91 (am_w ((σ16 75 20) + 1)) (am_w ((σ16 91 (σ16 75 20)) + r20)))) fun σ23 => am_b1 (some (am_up σ23 75 20 (am_w ((σ23 75 20) + 1)))) fun σ25 => some σ25 else none else none else none else none else none else none else none else none
theorem t_X7_adds {L n d : Nat} {Q : am_Post} {p1 : Int} {σ σr : am_Mem} (hd : 2 < d) (h : f_X7_adds n p1 σ = some σr) (hQ : Q none (rm_h L σr)) : xs_aw d me_X7_adds [am_r 75, am_i p1] (rm_h L σ) Q := by
  obtain ⟨d, rfl⟩ : ∃ k, d = k + 1 := ⟨d - 1, by omega⟩
  have hd : 2 ≤ d := by omega
  unfold f_X7_adds at h
  show xs_AW (xs_aw d) me_X7_adds Q 0 [some (am_r 75), some (am_i p1), none, none] [] (rm_h L σ)
  refine rr_aload_n dX7_adds_0 rfl ?_
  refine rr_getr (t := 83) dX7_adds_1 fl_7_31 (sh_75 L) ⟨(by decide), by decide⟩ rfl rfl ?_
  refine rr_bipush dX7_adds_4 (by decide) ?_
  refine rr_iconst dX7_adds_6 (by decide) ?_
  refine rr_iload_n dX7_adds_7 rfl ?_
  refine rr_imul dX7_adds_8 ?_
  refine rr_iadd dX7_adds_9 ?_
  refine rr_iconst dX7_adds_10 (by decide) ?_
  refine rr_iadd dX7_adds_11 ?_
  obtain ⟨g1, h⟩ := ab_g h
  refine rr_iald (nz := 42) dX7_adds_12 (sh_83 L) rfl g1 ?_
  refine rr_istore_n (ls' := [some (am_r 75), some (am_i p1), some (am_i (σ 83 (am_w ((am_w (26 + (am_w (2 * p1)))) + 1)))), none]) dX7_adds_13 (Nat.le_of_ble_eq_true rfl) rfl ?_
  refine rr_aload_n dX7_adds_14 rfl ?_
  refine rr_getr (t := 83) dX7_adds_15 fl_7_31 (sh_75 L) ⟨(by decide), by decide⟩ rfl rfl ?_
  refine rr_iconst dX7_adds_18 (by decide) ?_
  refine rr_iald (nz := 42) dX7_adds_19 (sh_83 L) rfl ⟨by decide, by decide⟩ ?_
  refine rr_aload_n dX7_adds_20 rfl ?_
  refine rr_geti (kz := 20) dX7_adds_21 fl_7_197 (sh_75 L) ⟨(by decide), by decide⟩ rfl rfl ?_
  refine rr_iadd dX7_adds_24 ?_
  refine rr_istore_n (ls' := [some (am_r 75), some (am_i p1), some (am_i (σ 83 (am_w ((am_w (26 + (am_w (2 * p1)))) + 1)))), some (am_i (am_w ((σ 83 3) + (σ 75 20))))]) dX7_adds_25 (Nat.le_of_ble_eq_true rfl) rfl ?_
  refine rr_aload_n dX7_adds_26 rfl ?_
  refine rr_getr (t := 87) dX7_adds_27 fl_7_44 (sh_75 L) ⟨(by decide), by decide⟩ rfl rfl ?_
  refine rr_aload_n dX7_adds_30 rfl ?_
  refine rr_geti (kz := 20) dX7_adds_31 fl_7_197 (sh_75 L) ⟨(by decide), by decide⟩ rfl rfl ?_
  refine rr_iload_n dX7_adds_34 rfl ?_
  obtain ⟨g2, h⟩ := ab_g h
  refine rr_iast (nz := 8) dX7_adds_35 (sh_87 L) (by decide) rfl g2 ?_
  obtain ⟨σ3, e4, h⟩ := ab_1 h
  refine ab_m e4 ?_
  refine rr_aload_n dX7_adds_36 rfl ?_
  refine rr_getr (t := 88) dX7_adds_37 fl_7_47 (sh_75 L) ⟨(by decide), by decide⟩ rfl rfl ?_
  refine rr_aload_n dX7_adds_40 rfl ?_
  refine rr_geti (kz := 20) dX7_adds_41 fl_7_197 (sh_75 L) ⟨(by decide), by decide⟩ rfl rfl ?_
  refine rr_iload_n dX7_adds_44 rfl ?_
  refine rr_iconst dX7_adds_45 (by decide) ?_
  refine rr_iadd dX7_adds_46 ?_
  obtain ⟨g5, h⟩ := ab_g h
  refine rr_iast (nz := 9) dX7_adds_47 (sh_88 L) (by decide) rfl g5 ?_
  obtain ⟨σ6, e7, h⟩ := ab_1 h
  refine ab_m e7 ?_
  refine rr_aload_n dX7_adds_48 rfl ?_
  refine rr_getr (t := 89) dX7_adds_49 fl_7_50 (sh_75 L) ⟨(by decide), by decide⟩ rfl rfl ?_
  refine rr_aload_n dX7_adds_52 rfl ?_
  refine rr_geti (kz := 20) dX7_adds_53 fl_7_197 (sh_75 L) ⟨(by decide), by decide⟩ rfl rfl ?_
  refine rr_iconst dX7_adds_56 (by decide) ?_
  refine rr_iadd dX7_adds_57 ?_
  refine rr_iload_n dX7_adds_58 rfl ?_
  obtain ⟨g8, h⟩ := ab_g h
  refine rr_iast (nz := 9) dX7_adds_59 (sh_89 L) (by decide) rfl g8 ?_
  obtain ⟨σ9, e10, h⟩ := ab_1 h
  refine ab_m e10 ?_
  refine rr_aload_n dX7_adds_60 rfl ?_
  refine rr_getr (t := 90) dX7_adds_61 fl_7_53 (sh_75 L) ⟨(by decide), by decide⟩ rfl rfl ?_
  refine rr_aload_n dX7_adds_64 rfl ?_
  refine rr_geti (kz := 20) dX7_adds_65 fl_7_197 (sh_75 L) ⟨(by decide), by decide⟩ rfl rfl ?_
  refine rr_iconst dX7_adds_68 (by decide) ?_
  refine rr_iadd dX7_adds_69 ?_
  refine rr_aload_n dX7_adds_70 rfl ?_
  refine rr_getr (t := 83) dX7_adds_71 fl_7_31 (sh_75 L) ⟨(by decide), by decide⟩ rfl rfl ?_
  refine rr_iload_n dX7_adds_74 rfl ?_
  refine rr_aload_n dX7_adds_75 rfl ?_
  refine rr_getr (t := 90) dX7_adds_76 fl_7_53 (sh_75 L) ⟨(by decide), by decide⟩ rfl rfl ?_
  refine rr_aload_n dX7_adds_79 rfl ?_
  refine rr_geti (kz := 20) dX7_adds_80 fl_7_197 (sh_75 L) ⟨(by decide), by decide⟩ rfl rfl ?_
  obtain ⟨g11, h⟩ := ab_g h
  refine rr_iald (nz := 9) dX7_adds_83 (sh_90 L) rfl g11 ?_
  refine rr_iload_n dX7_adds_84 rfl ?_
  obtain ⟨r13, σ14, e12, h⟩ := ab_2 h
  refine rr_Si (as := [am_r 83, am_i (σ 83 (am_w ((am_w (26 + (am_w (2 * p1)))) + 1))), am_i (σ9 90 (σ9 75 20)), am_i (am_w ((σ 83 3) + (σ 75 20)))]) (rest := [am_i (am_w ((σ9 75 20) + 1)), am_r 90]) dX7_adds_85 ml_7_163 (Or.inl rfl) rfl rfl (Nat.le_of_ble_eq_true rfl) ⟨rfl, rfl⟩ (Nat.le_of_ble_eq_true rfl) (fun _ k => t_X7_passed (by omega) (sh_83 L) (by decide) e12 k) ?_
  obtain ⟨g15, h⟩ := ab_g h
  refine rr_iast (nz := 9) dX7_adds_88 (sh_90 L) (by decide) rfl g15 ?_
  obtain ⟨σ16, e17, h⟩ := ab_1 h
  refine ab_m e17 ?_
  refine rr_aload_n dX7_adds_89 rfl ?_
  refine rr_getr (t := 91) dX7_adds_90 fl_7_56 (sh_75 L) ⟨(by decide), by decide⟩ rfl rfl ?_
  refine rr_aload_n dX7_adds_93 rfl ?_
  refine rr_geti (kz := 20) dX7_adds_94 fl_7_197 (sh_75 L) ⟨(by decide), by decide⟩ rfl rfl ?_
  refine rr_iconst dX7_adds_97 (by decide) ?_
  refine rr_iadd dX7_adds_98 ?_
  refine rr_aload_n dX7_adds_99 rfl ?_
  refine rr_getr (t := 91) dX7_adds_100 fl_7_56 (sh_75 L) ⟨(by decide), by decide⟩ rfl rfl ?_
  refine rr_aload_n dX7_adds_103 rfl ?_
  refine rr_geti (kz := 20) dX7_adds_104 fl_7_197 (sh_75 L) ⟨(by decide), by decide⟩ rfl rfl ?_
  obtain ⟨g18, h⟩ := ab_g h
  refine rr_iald (nz := 9) dX7_adds_107 (sh_91 L) rfl g18 ?_
  refine rr_aload_n dX7_adds_108 rfl ?_
  refine rr_getr (t := 83) dX7_adds_109 fl_7_31 (sh_75 L) ⟨(by decide), by decide⟩ rfl rfl ?_
  refine rr_iload_n dX7_adds_112 rfl ?_
  refine rr_aload_n dX7_adds_113 rfl ?_
  refine rr_getr (t := 90) dX7_adds_114 fl_7_53 (sh_75 L) ⟨(by decide), by decide⟩ rfl rfl ?_
  refine rr_aload_n dX7_adds_117 rfl ?_
  refine rr_geti (kz := 20) dX7_adds_118 fl_7_197 (sh_75 L) ⟨(by decide), by decide⟩ rfl rfl ?_
  refine rr_iald (nz := 9) dX7_adds_121 (sh_90 L) rfl g18 ?_
  refine rr_iload_n dX7_adds_122 rfl ?_
  obtain ⟨r20, σ21, e19, h⟩ := ab_2 h
  refine rr_Si (as := [am_r 83, am_i (σ 83 (am_w ((am_w (26 + (am_w (2 * p1)))) + 1))), am_i (σ16 90 (σ16 75 20)), am_i (am_w ((σ 83 3) + (σ 75 20)))]) (rest := [am_i (σ16 91 (σ16 75 20)), am_i (am_w ((σ16 75 20) + 1)), am_r 91]) dX7_adds_123 ml_7_170 (Or.inl rfl) rfl rfl (Nat.le_of_ble_eq_true rfl) ⟨rfl, rfl⟩ (Nat.le_of_ble_eq_true rfl) (fun _ k => t_X7_cost (by omega) (sh_83 L) (by decide) e19 k) ?_
  refine rr_iadd dX7_adds_126 ?_
  obtain ⟨g22, h⟩ := ab_g h
  refine rr_iast (nz := 9) dX7_adds_127 (sh_91 L) (by decide) rfl g22 ?_
  obtain ⟨σ23, e24, h⟩ := ab_1 h
  refine ab_m e24 ?_
  refine rr_aload_n dX7_adds_128 rfl ?_
  refine rr_dup dX7_adds_129 rfl ?_
  refine rr_geti (kz := 20) dX7_adds_130 fl_7_197 (sh_75 L) ⟨(by decide), by decide⟩ rfl rfl ?_
  refine rr_iconst dX7_adds_133 (by decide) ?_
  refine rr_iadd dX7_adds_134 ?_
  obtain ⟨σ25, e26, h⟩ := ab_1 h
  refine rr_puti (kz := 20) dX7_adds_135 fl_7_197 (sh_75 L) ⟨(by decide), by decide⟩ ⟨rfl, rfl⟩ rfl (ab_m e26 ?_)
  obtain rfl := ab_r1 h
  exact rr_vret dX7_adds_138 rfl hQ
def nw_X7_adds (a : Nat) : Prop := a ≠ 75 ∧ a ≠ 87 ∧ a ≠ 88 ∧ a ≠ 89 ∧ a ≠ 90 ∧ a ≠ 91
theorem w_X7_adds {n : Nat} {p1 : Int} {σ σr : am_Mem} (h : f_X7_adds n p1 σ = some σr) : ∀ a : Nat, nw_X7_adds a → σr a = σ a := by
  unfold f_X7_adds at h
  have fr : ∀ a : Nat, nw_X7_adds a → σ a = σ a := fun _ _ => rfl
  obtain ⟨g1, h⟩ := ab_g h
  obtain ⟨g2, h⟩ := ab_g h
  obtain ⟨σ3, e4, h⟩ := ab_1 h
  have fr := fun (a : Nat) (ha : nw_X7_adds a) => (ab_fu e4 (show a ≠ 87 by unfold nw_X7_adds at ha; omega)).trans (fr a ha)
  obtain ⟨g5, h⟩ := ab_g h
  obtain ⟨σ6, e7, h⟩ := ab_1 h
  have fr := fun (a : Nat) (ha : nw_X7_adds a) => (ab_fu e7 (show a ≠ 88 by unfold nw_X7_adds at ha; omega)).trans (fr a ha)
  obtain ⟨g8, h⟩ := ab_g h
  obtain ⟨σ9, e10, h⟩ := ab_1 h
  have fr := fun (a : Nat) (ha : nw_X7_adds a) => (ab_fu e10 (show a ≠ 89 by unfold nw_X7_adds at ha; omega)).trans (fr a ha)
  obtain ⟨g11, h⟩ := ab_g h
  obtain ⟨r13, σ14, e12, h⟩ := ab_2 h
  have fr := fun (a : Nat) (ha : nw_X7_adds a) => (congrFun (u_X7_passed e12) a).trans (fr a ha)
  obtain ⟨g15, h⟩ := ab_g h
  obtain ⟨σ16, e17, h⟩ := ab_1 h
  have fr := fun (a : Nat) (ha : nw_X7_adds a) => (ab_fu e17 (show a ≠ 90 by unfold nw_X7_adds at ha; omega)).trans (fr a ha)
  obtain ⟨g18, h⟩ := ab_g h
  obtain ⟨r20, σ21, e19, h⟩ := ab_2 h
  have fr := fun (a : Nat) (ha : nw_X7_adds a) => (congrFun (u_X7_cost e19) a).trans (fr a ha)
  obtain ⟨g22, h⟩ := ab_g h
  obtain ⟨σ23, e24, h⟩ := ab_1 h
  have fr := fun (a : Nat) (ha : nw_X7_adds a) => (ab_fu e24 (show a ≠ 91 by unfold nw_X7_adds at ha; omega)).trans (fr a ha)
  obtain ⟨σ25, e26, h⟩ := ab_1 h
  have fr := fun (a : Nat) (ha : nw_X7_adds a) => (ab_fu e26 (show a ≠ 75 by unfold nw_X7_adds at ha; omega)).trans (fr a ha)
  have q2 := ab_r1 h
  exact fun a ha => (congrFun q2.symm a).trans (fr a ha)
/-! MoodFareModel.goesOn -/
def fb_X7_goesOn_48 (n : Nat) (kh31 : am_Mem → Option (Int × am_Mem)) (kh48 : Int → am_Mem → Option (Int × am_Mem)) (x2 : Int) (σ : am_Mem) : Option (Int × am_Mem) :=
  if x2 < σ 83 25 then (if (0 : Int) ≤ σ 75 20 ∧ σ 75 20 < 9 then am_b2 (f_X7_goes n 83 42 x2 (σ 89 (σ 75 20)) σ) fun r10 σ11 => if r10 = 0 then (kh48 (am_w (x2 + 1)) σ11) else (am_b1 (f_X7_adds n x2 σ11) fun σ15 => some (1, σ15)) else none) else (am_b1 (some (am_up σ 75 20 (am_w ((σ 75 20) - 1)))) fun σ16 => kh31 σ16)
def fl_X7_goesOn_48 (n : Nat) (kh31 : am_Mem → Option (Int × am_Mem)) : Nat → Int → am_Mem → Option (Int × am_Mem)
  | 0, _, _ => none
  | m + 1, x2, σ => fb_X7_goesOn_48 n kh31 (fun yx2 σ => fl_X7_goesOn_48 n kh31 m yx2 σ) x2 σ
def fb_X7_goesOn_31 (n : Nat) (kh31 : am_Mem → Option (Int × am_Mem)) (σ : am_Mem) : Option (Int × am_Mem) :=
  if σ 75 20 < 0 then (some (0, σ)) else (if (0 : Int) ≤ σ 75 20 ∧ σ 75 20 < 9 then fl_X7_goesOn_48 n kh31 n (σ 88 (σ 75 20)) σ else none)
def fl_X7_goesOn_31 (n : Nat) : Nat → am_Mem → Option (Int × am_Mem)
  | 0, _ => none
  | m + 1, σ => fb_X7_goesOn_31 n (fun σ => fl_X7_goesOn_31 n m σ) σ
def f_X7_goesOn (n : Nat) (p1 : Int) (σ : am_Mem) : Option (Int × am_Mem) :=
  if σ 75 20 < p1 then (if (0 : Int) ≤ σ 75 20 ∧ σ 75 20 < 9 then am_b1 (some (am_up σ 88 (σ 75 20) 0)) fun σ3 => fl_X7_goesOn_31 n n σ3 else none) else (am_b1 (some (am_up σ 75 20 (am_w ((σ 75 20) - 1)))) fun σ18 => fl_X7_goesOn_31 n n σ18)
theorem tb_X7_goesOn_48 {L n d : Nat} {Q : am_Post} {kh31 : am_Mem → Option (Int × am_Mem)} {kh48 : Int → am_Mem → Option (Int × am_Mem)} {x2 : Int} {o1 : Int} {σ σr : am_Mem} {rr : Int} (hd : 3 ≤ d) (hk31 : ∀ (σ : am_Mem), kh31 σ = some (rr, σr) → ∀ (o1 : Int) (o2 : Option am_V), xs_AW (xs_aw d) me_X7_goesOn Q 31 [some (am_r 75), some (am_i o1), o2] [] (rm_h L σ)) (hk48 : ∀ (y2 : Int) (σ : am_Mem), kh48 y2 σ = some (rr, σr) → ∀ (o1 : Int), xs_AW (xs_aw d) me_X7_goesOn Q 48 [some (am_r 75), some (am_i o1), some (am_i y2)] [] (rm_h L σ)) (hQ : Q (some (am_i rr)) (rm_h L σr)) (h : fb_X7_goesOn_48 n kh31 kh48 x2 σ = some (rr, σr)) : xs_AW (xs_aw d) me_X7_goesOn Q 48 [some (am_r 75), some (am_i o1), some (am_i x2)] [] (rm_h L σ) := by
  unfold fb_X7_goesOn_48 at h
  refine rr_iload_n dX7_goesOn_48 rfl ?_
  refine rr_aload_n dX7_goesOn_49 rfl ?_
  refine rr_getr (t := 83) dX7_goesOn_50 fl_7_31 (sh_75 L) ⟨(by decide), by decide⟩ rfl rfl ?_
  refine rr_bipush dX7_goesOn_53 (by decide) ?_
  refine rr_iald (nz := 42) dX7_goesOn_55 (sh_83 L) rfl ⟨by decide, by decide⟩ ?_
  rcases ab_i h with ⟨c7, h⟩ | ⟨c7, h⟩
  · refine rr_icmp_ge_p (t := 92) dX7_goesOn_56 (by decide) c7 ?_
    refine rr_aload_n dX7_goesOn_59 rfl ?_
    refine rr_getr (t := 83) dX7_goesOn_60 fl_7_31 (sh_75 L) ⟨(by decide), by decide⟩ rfl rfl ?_
    refine rr_iload_n dX7_goesOn_63 rfl ?_
    refine rr_aload_n dX7_goesOn_64 rfl ?_
    refine rr_getr (t := 89) dX7_goesOn_65 fl_7_50 (sh_75 L) ⟨(by decide), by decide⟩ rfl rfl ?_
    refine rr_aload_n dX7_goesOn_68 rfl ?_
    refine rr_geti (kz := 20) dX7_goesOn_69 fl_7_197 (sh_75 L) ⟨(by decide), by decide⟩ rfl rfl ?_
    obtain ⟨g8, h⟩ := ab_g h
    refine rr_iald (nz := 9) dX7_goesOn_72 (sh_89 L) rfl g8 ?_
    obtain ⟨r10, σ11, e9, h⟩ := ab_2 h
    refine rr_Si (as := [am_r 83, am_i x2, am_i (σ 89 (σ 75 20))]) (rest := []) dX7_goesOn_73 ml_7_176 (Or.inl rfl) rfl rfl (Nat.le_of_ble_eq_true rfl) ⟨rfl, rfl⟩ (Nat.le_of_ble_eq_true rfl) (fun _ k => t_X7_goes (by omega) (sh_83 L) (by decide) e9 k) ?_
    rcases ab_i h with ⟨c12, h⟩ | ⟨c12, h⟩
    · refine rr_if_eq_p (t := 86) dX7_goesOn_76 (by decide) c12 ?_
      refine rr_iinc (ls' := [some (am_r 75), some (am_i o1), some (am_i (am_w (x2 + 1)))]) dX7_goesOn_86 rfl (Nat.le_of_ble_eq_true rfl) rfl ?_
      refine rr_goto (t := 48) dX7_goesOn_89 (by decide) ?_
      exact hk48 _ _ h _
    · refine rr_if_eq_n (t := 86) dX7_goesOn_76 (by decide) c12 ?_
      refine rr_aload_n dX7_goesOn_79 rfl ?_
      refine rr_iload_n dX7_goesOn_80 rfl ?_
      obtain ⟨σ15, e13, h⟩ := ab_1 h
      refine rr_Vv (as := [am_i x2]) (rest := []) dX7_goesOn_81 ml_7_200 (sh_75 L) ⟨(by decide), by decide, by decide⟩ rfl rfl rfl (Nat.le_of_ble_eq_true rfl) ⟨rfl, rfl⟩ (Nat.le_of_ble_eq_true rfl) (fun _ k => t_X7_adds (by omega) e13 k) ?_
      refine rr_iconst dX7_goesOn_84 (by decide) ?_
      obtain ⟨rfl, rfl⟩ := ab_r2 h
      exact rr_zret dX7_goesOn_85 rfl (Or.inr rfl) hQ
  · refine rr_icmp_ge_n (t := 92) dX7_goesOn_56 (by decide) c7 ?_
    refine rr_aload_n dX7_goesOn_92 rfl ?_
    refine rr_dup dX7_goesOn_93 rfl ?_
    refine rr_geti (kz := 20) dX7_goesOn_94 fl_7_197 (sh_75 L) ⟨(by decide), by decide⟩ rfl rfl ?_
    refine rr_iconst dX7_goesOn_97 (by decide) ?_
    refine rr_isub dX7_goesOn_98 ?_
    obtain ⟨σ16, e17, h⟩ := ab_1 h
    refine rr_puti (kz := 20) dX7_goesOn_99 fl_7_197 (sh_75 L) ⟨(by decide), by decide⟩ ⟨rfl, rfl⟩ rfl (ab_m e17 ?_)
    refine rr_goto (t := 31) dX7_goesOn_102 (by decide) ?_
    exact hk31 _ h _ _
theorem tl_X7_goesOn_48 {L n d : Nat} {Q : am_Post} {kh31 : am_Mem → Option (Int × am_Mem)} {σr : am_Mem} {rr : Int} (hd : 3 ≤ d) (hk31 : ∀ (σ : am_Mem), kh31 σ = some (rr, σr) → ∀ (o1 : Int) (o2 : Option am_V), xs_AW (xs_aw d) me_X7_goesOn Q 31 [some (am_r 75), some (am_i o1), o2] [] (rm_h L σ)) (hQ : Q (some (am_i rr)) (rm_h L σr)) : ∀ (m : Nat) (x2 : Int) (σ : am_Mem) (o1 : Int), fl_X7_goesOn_48 n kh31 m x2 σ = some (rr, σr) → xs_AW (xs_aw d) me_X7_goesOn Q 48 [some (am_r 75), some (am_i o1), some (am_i x2)] [] (rm_h L σ) := by
  intro m
  induction m with
  | zero => intro x2 σ o1 h; cases h
  | succ m ih =>
    intro x2 σ o1 h
    exact tb_X7_goesOn_48 hd hk31 (fun x2 σ h o1 => ih x2 σ o1 h) hQ h
theorem tb_X7_goesOn_31 {L n d : Nat} {Q : am_Post} {kh31 : am_Mem → Option (Int × am_Mem)} {o1 : Int} {o2 : Option am_V} {σ σr : am_Mem} {rr : Int} (hd : 3 ≤ d) (hk31 : ∀ (σ : am_Mem), kh31 σ = some (rr, σr) → ∀ (o1 : Int) (o2 : Option am_V), xs_AW (xs_aw d) me_X7_goesOn Q 31 [some (am_r 75), some (am_i o1), o2] [] (rm_h L σ)) (hQ : Q (some (am_i rr)) (rm_h L σr)) (h : fb_X7_goesOn_31 n kh31 σ = some (rr, σr)) : xs_AW (xs_aw d) me_X7_goesOn Q 31 [some (am_r 75), some (am_i o1), o2] [] (rm_h L σ) := by
  unfold fb_X7_goesOn_31 at h
  refine rr_aload_n dX7_goesOn_31 rfl ?_
  refine rr_geti (kz := 20) dX7_goesOn_32 fl_7_197 (sh_75 L) ⟨(by decide), by decide⟩ rfl rfl ?_
  rcases ab_i h with ⟨c5, h⟩ | ⟨c5, h⟩
  · refine rr_if_lt_p (t := 105) dX7_goesOn_35 (by decide) c5 ?_
    refine rr_iconst dX7_goesOn_105 (by decide) ?_
    obtain ⟨rfl, rfl⟩ := ab_r2 h
    exact rr_zret dX7_goesOn_106 rfl (Or.inl rfl) hQ
  · refine rr_if_lt_n (t := 105) dX7_goesOn_35 (by decide) c5 ?_
    refine rr_aload_n dX7_goesOn_38 rfl ?_
    refine rr_getr (t := 88) dX7_goesOn_39 fl_7_47 (sh_75 L) ⟨(by decide), by decide⟩ rfl rfl ?_
    refine rr_aload_n dX7_goesOn_42 rfl ?_
    refine rr_geti (kz := 20) dX7_goesOn_43 fl_7_197 (sh_75 L) ⟨(by decide), by decide⟩ rfl rfl ?_
    obtain ⟨g6, h⟩ := ab_g h
    refine rr_iald (nz := 9) dX7_goesOn_46 (sh_88 L) rfl g6 ?_
    refine rr_istore_n (ls' := [some (am_r 75), some (am_i o1), some (am_i (σ 88 (σ 75 20)))]) dX7_goesOn_47 (Nat.le_of_ble_eq_true rfl) rfl ?_
    exact tl_X7_goesOn_48 hd hk31 hQ n _ _ _ h
theorem tl_X7_goesOn_31 {L n d : Nat} {Q : am_Post} {σr : am_Mem} {rr : Int} (hd : 3 ≤ d) (hQ : Q (some (am_i rr)) (rm_h L σr)) : ∀ (m : Nat) (σ : am_Mem) (o1 : Int) (o2 : Option am_V), fl_X7_goesOn_31 n m σ = some (rr, σr) → xs_AW (xs_aw d) me_X7_goesOn Q 31 [some (am_r 75), some (am_i o1), o2] [] (rm_h L σ) := by
  intro m
  induction m with
  | zero => intro σ o1 o2 h; cases h
  | succ m ih =>
    intro σ o1 o2 h
    exact tb_X7_goesOn_31 hd (fun σ h o1 o2 => ih σ o1 o2 h) hQ h
theorem t_X7_goesOn {L n d : Nat} {Q : am_Post} {p1 : Int} {σ σr : am_Mem} {rr : Int} (hd : 3 < d) (h : f_X7_goesOn n p1 σ = some (rr, σr)) (hQ : Q (some (am_i rr)) (rm_h L σr)) : xs_aw d me_X7_goesOn [am_r 75, am_i p1] (rm_h L σ) Q := by
  obtain ⟨d, rfl⟩ : ∃ k, d = k + 1 := ⟨d - 1, by omega⟩
  have hd : 3 ≤ d := by omega
  unfold f_X7_goesOn at h
  show xs_AW (xs_aw d) me_X7_goesOn Q 0 [some (am_r 75), some (am_i p1), none] [] (rm_h L σ)
  refine rr_aload_n dX7_goesOn_0 rfl ?_
  refine rr_geti (kz := 20) dX7_goesOn_1 fl_7_197 (sh_75 L) ⟨(by decide), by decide⟩ rfl rfl ?_
  refine rr_iload_n dX7_goesOn_4 rfl ?_
  rcases ab_i h with ⟨c1, h⟩ | ⟨c1, h⟩
  · refine rr_icmp_ge_p (t := 21) dX7_goesOn_5 (by decide) c1 ?_
    refine rr_aload_n dX7_goesOn_8 rfl ?_
    refine rr_getr (t := 88) dX7_goesOn_9 fl_7_47 (sh_75 L) ⟨(by decide), by decide⟩ rfl rfl ?_
    refine rr_aload_n dX7_goesOn_12 rfl ?_
    refine rr_geti (kz := 20) dX7_goesOn_13 fl_7_197 (sh_75 L) ⟨(by decide), by decide⟩ rfl rfl ?_
    refine rr_iconst dX7_goesOn_16 (by decide) ?_
    obtain ⟨g2, h⟩ := ab_g h
    refine rr_iast (nz := 9) dX7_goesOn_17 (sh_88 L) (by decide) rfl g2 ?_
    obtain ⟨σ3, e4, h⟩ := ab_1 h
    refine ab_m e4 ?_
    refine rr_goto (t := 31) dX7_goesOn_18 (by decide) ?_
    exact tl_X7_goesOn_31 hd hQ n _ _ _ h
  · refine rr_icmp_ge_n (t := 21) dX7_goesOn_5 (by decide) c1 ?_
    refine rr_aload_n dX7_goesOn_21 rfl ?_
    refine rr_dup dX7_goesOn_22 rfl ?_
    refine rr_geti (kz := 20) dX7_goesOn_23 fl_7_197 (sh_75 L) ⟨(by decide), by decide⟩ rfl rfl ?_
    refine rr_iconst dX7_goesOn_26 (by decide) ?_
    refine rr_isub dX7_goesOn_27 ?_
    obtain ⟨σ18, e19, h⟩ := ab_1 h
    refine rr_puti (kz := 20) dX7_goesOn_28 fl_7_197 (sh_75 L) ⟨(by decide), by decide⟩ ⟨rfl, rfl⟩ rfl (ab_m e19 ?_)
    exact tl_X7_goesOn_31 hd hQ n _ _ _ h
def nw_X7_goesOn (a : Nat) : Prop := a ≠ 75 ∧ a ≠ 87 ∧ a ≠ 88 ∧ a ≠ 89 ∧ a ≠ 90 ∧ a ≠ 91
theorem wb_X7_goesOn_48 {n : Nat} {kh31 : am_Mem → Option (Int × am_Mem)} {kh48 : Int → am_Mem → Option (Int × am_Mem)} {x2 : Int} {σ σr : am_Mem} {rr : Int} (hk31 : ∀ (σ : am_Mem), kh31 σ = some (rr, σr) → ∀ a : Nat, nw_X7_goesOn a → σr a = σ a) (hk48 : ∀ (y2 : Int) (σ : am_Mem), kh48 y2 σ = some (rr, σr) → ∀ a : Nat, nw_X7_goesOn a → σr a = σ a) (h : fb_X7_goesOn_48 n kh31 kh48 x2 σ = some (rr, σr)) : ∀ a : Nat, nw_X7_goesOn a → σr a = σ a := by
  unfold fb_X7_goesOn_48 at h
  have fr : ∀ a : Nat, nw_X7_goesOn a → σ a = σ a := fun _ _ => rfl
  rcases ab_i h with ⟨c7, h⟩ | ⟨c7, h⟩
  · obtain ⟨g8, h⟩ := ab_g h
    obtain ⟨r10, σ11, e9, h⟩ := ab_2 h
    have fr := fun (a : Nat) (ha : nw_X7_goesOn a) => (congrFun (u_X7_goes e9) a).trans (fr a ha)
    rcases ab_i h with ⟨c12, h⟩ | ⟨c12, h⟩
    · exact fun a ha => (hk48 _ _ h a ha).trans (fr a ha)
    · obtain ⟨σ15, e13, h⟩ := ab_1 h
      have fr := fun (a : Nat) (ha : nw_X7_goesOn a) => (w_X7_adds e13 a (by unfold nw_X7_goesOn at ha; unfold nw_X7_adds; omega)).trans (fr a ha)
      obtain ⟨q1, q2⟩ := ab_r2 h
      exact fun a ha => (congrFun q2.symm a).trans (fr a ha)
  · obtain ⟨σ16, e17, h⟩ := ab_1 h
    have fr := fun (a : Nat) (ha : nw_X7_goesOn a) => (ab_fu e17 (show a ≠ 75 by unfold nw_X7_goesOn at ha; omega)).trans (fr a ha)
    exact fun a ha => (hk31 _ h a ha).trans (fr a ha)
theorem wl_X7_goesOn_48 {n : Nat} {kh31 : am_Mem → Option (Int × am_Mem)} {σr : am_Mem} {rr : Int} (hk31 : ∀ (σ : am_Mem), kh31 σ = some (rr, σr) → ∀ a : Nat, nw_X7_goesOn a → σr a = σ a) : ∀ (m : Nat) (x2 : Int) (σ : am_Mem), fl_X7_goesOn_48 n kh31 m x2 σ = some (rr, σr) → ∀ a : Nat, nw_X7_goesOn a → σr a = σ a := by
  intro m
  induction m with
  | zero => intro x2 σ h; cases h
  | succ m ih =>
    intro x2 σ h
    exact wb_X7_goesOn_48 hk31 (fun x2 σ h => ih x2 σ h) h
theorem wb_X7_goesOn_31 {n : Nat} {kh31 : am_Mem → Option (Int × am_Mem)} {σ σr : am_Mem} {rr : Int} (hk31 : ∀ (σ : am_Mem), kh31 σ = some (rr, σr) → ∀ a : Nat, nw_X7_goesOn a → σr a = σ a) (h : fb_X7_goesOn_31 n kh31 σ = some (rr, σr)) : ∀ a : Nat, nw_X7_goesOn a → σr a = σ a := by
  unfold fb_X7_goesOn_31 at h
  have fr : ∀ a : Nat, nw_X7_goesOn a → σ a = σ a := fun _ _ => rfl
  rcases ab_i h with ⟨c5, h⟩ | ⟨c5, h⟩
  · obtain ⟨q1, q2⟩ := ab_r2 h
    exact fun a ha => (congrFun q2.symm a).trans (fr a ha)
  · obtain ⟨g6, h⟩ := ab_g h
    exact fun a ha => (wl_X7_goesOn_48 hk31 n _ _ h a ha).trans (fr a ha)
theorem wl_X7_goesOn_31 {n : Nat} {σr : am_Mem} {rr : Int} : ∀ (m : Nat) (σ : am_Mem), fl_X7_goesOn_31 n m σ = some (rr, σr) → ∀ a : Nat, nw_X7_goesOn a → σr a = σ a := by
  intro m
  induction m with
  | zero => intro σ h; cases h
  | succ m ih =>
    intro σ h
    exact wb_X7_goesOn_31 (fun σ h => ih σ h) h
theorem w_X7_goesOn {n : Nat} {p1 : Int} {σ σr : am_Mem} {rr : Int} (h : f_X7_goesOn n p1 σ = some (rr, σr)) : ∀ a : Nat, nw_X7_goesOn a → σr a = σ a := by
  unfold f_X7_goesOn at h
  have fr : ∀ a : Nat, nw_X7_goesOn a → σ a = σ a := fun _ _ => rfl
  rcases ab_i h with ⟨c1, h⟩ | ⟨c1, h⟩
  · obtain ⟨g2, h⟩ := ab_g h
    obtain ⟨σ3, e4, h⟩ := ab_1 h
    have fr := fun (a : Nat) (ha : nw_X7_goesOn a) => (ab_fu e4 (show a ≠ 88 by unfold nw_X7_goesOn at ha; omega)).trans (fr a ha)
    exact fun a ha => (wl_X7_goesOn_31 n _ h a ha).trans (fr a ha)
  · obtain ⟨σ18, e19, h⟩ := ab_1 h
    have fr := fun (a : Nat) (ha : nw_X7_goesOn a) => (ab_fu e19 (show a ≠ 75 by unfold nw_X7_goesOn at ha; omega)).trans (fr a ha)
    exact fun a ha => (wl_X7_goesOn_31 n _ h a ha).trans (fr a ha)
/-! MoodFareModel.keeps -/
def fb_X7_keeps_27 (n : Nat) (kh27 : Int → Int → am_Mem → Option am_Mem) (x1 : Int) (x2 : Int) (σ : am_Mem) : Option am_Mem :=
  if x2 < x1 then (if (0 : Int) ≤ x2 ∧ x2 < 8 then am_b1 (some (am_up σ 92 x2 (σ 87 x2))) fun σ10 => kh27 x1 (am_w (x2 + 1)) σ10 else none) else (some σ)
def fl_X7_keeps_27 (n : Nat) : Nat → Int → Int → am_Mem → Option am_Mem
  | 0, _, _, _ => none
  | m + 1, x1, x2, σ => fb_X7_keeps_27 n (fun yx1 yx2 σ => fl_X7_keeps_27 n m yx1 yx2 σ) x1 x2 σ
def f_X7_keeps (n : Nat) (p1 : Int) (σ : am_Mem) : Option am_Mem :=
  if (0 : Int) ≤ p1 ∧ p1 < 9 then am_b1 (some (am_up σ 75 27 (σ 91 p1))) fun σ2 => am_b1 (some (am_up σ2 75 28 p1)) fun σ4 => am_b1 (some (am_up σ4 75 29 (σ4 89 p1))) fun σ6 => fl_X7_keeps_27 n n p1 0 σ6 else none
theorem tb_X7_keeps_27 {L n d : Nat} {Q : am_Post} {kh27 : Int → Int → am_Mem → Option am_Mem} {x1 : Int} {x2 : Int} {σ σr : am_Mem} (hd : 0 ≤ d) (hk27 : ∀ (y1 : Int) (y2 : Int) (σ : am_Mem), kh27 y1 y2 σ = some σr → xs_AW (xs_aw d) me_X7_keeps Q 27 [some (am_r 75), some (am_i y1), some (am_i y2)] [] (rm_h L σ)) (hQ : Q none (rm_h L σr)) (h : fb_X7_keeps_27 n kh27 x1 x2 σ = some σr) : xs_AW (xs_aw d) me_X7_keeps Q 27 [some (am_r 75), some (am_i x1), some (am_i x2)] [] (rm_h L σ) := by
  unfold fb_X7_keeps_27 at h
  refine rr_iload_n dX7_keeps_27 rfl ?_
  refine rr_iload_n dX7_keeps_28 rfl ?_
  rcases ab_i h with ⟨c8, h⟩ | ⟨c8, h⟩
  · refine rr_icmp_ge_p (t := 50) dX7_keeps_29 (by decide) c8 ?_
    refine rr_aload_n dX7_keeps_32 rfl ?_
    refine rr_getr (t := 92) dX7_keeps_33 fl_7_59 (sh_75 L) ⟨(by decide), by decide⟩ rfl rfl ?_
    refine rr_iload_n dX7_keeps_36 rfl ?_
    refine rr_aload_n dX7_keeps_37 rfl ?_
    refine rr_getr (t := 87) dX7_keeps_38 fl_7_44 (sh_75 L) ⟨(by decide), by decide⟩ rfl rfl ?_
    refine rr_iload_n dX7_keeps_41 rfl ?_
    obtain ⟨g9, h⟩ := ab_g h
    refine rr_iald (nz := 8) dX7_keeps_42 (sh_87 L) rfl g9 ?_
    refine rr_iast (nz := 8) dX7_keeps_43 (sh_92 L) (by decide) rfl g9 ?_
    obtain ⟨σ10, e11, h⟩ := ab_1 h
    refine ab_m e11 ?_
    refine rr_iinc (ls' := [some (am_r 75), some (am_i x1), some (am_i (am_w (x2 + 1)))]) dX7_keeps_44 rfl (Nat.le_of_ble_eq_true rfl) rfl ?_
    refine rr_goto (t := 27) dX7_keeps_47 (by decide) ?_
    exact hk27 _ _ _ h
  · refine rr_icmp_ge_n (t := 50) dX7_keeps_29 (by decide) c8 ?_
    obtain rfl := ab_r1 h
    exact rr_vret dX7_keeps_50 rfl hQ
theorem tl_X7_keeps_27 {L n d : Nat} {Q : am_Post} {σr : am_Mem} (hd : 0 ≤ d) (hQ : Q none (rm_h L σr)) : ∀ (m : Nat) (x1 : Int) (x2 : Int) (σ : am_Mem), fl_X7_keeps_27 n m x1 x2 σ = some σr → xs_AW (xs_aw d) me_X7_keeps Q 27 [some (am_r 75), some (am_i x1), some (am_i x2)] [] (rm_h L σ) := by
  intro m
  induction m with
  | zero => intro x1 x2 σ h; cases h
  | succ m ih =>
    intro x1 x2 σ h
    exact tb_X7_keeps_27 hd (fun x1 x2 σ h => ih x1 x2 σ h) hQ h
theorem t_X7_keeps {L n d : Nat} {Q : am_Post} {p1 : Int} {σ σr : am_Mem} (hd : 0 < d) (h : f_X7_keeps n p1 σ = some σr) (hQ : Q none (rm_h L σr)) : xs_aw d me_X7_keeps [am_r 75, am_i p1] (rm_h L σ) Q := by
  obtain ⟨d, rfl⟩ : ∃ k, d = k + 1 := ⟨d - 1, by omega⟩
  have hd : 0 ≤ d := by omega
  unfold f_X7_keeps at h
  show xs_AW (xs_aw d) me_X7_keeps Q 0 [some (am_r 75), some (am_i p1), none] [] (rm_h L σ)
  refine rr_aload_n dX7_keeps_0 rfl ?_
  refine rr_aload_n dX7_keeps_1 rfl ?_
  refine rr_getr (t := 91) dX7_keeps_2 fl_7_56 (sh_75 L) ⟨(by decide), by decide⟩ rfl rfl ?_
  refine rr_iload_n dX7_keeps_5 rfl ?_
  obtain ⟨g1, h⟩ := ab_g h
  refine rr_iald (nz := 9) dX7_keeps_6 (sh_91 L) rfl g1 ?_
  obtain ⟨σ2, e3, h⟩ := ab_1 h
  refine rr_puti (kz := 27) dX7_keeps_7 fl_7_204 (sh_75 L) ⟨(by decide), by decide⟩ ⟨rfl, rfl⟩ rfl (ab_m e3 ?_)
  refine rr_aload_n dX7_keeps_10 rfl ?_
  refine rr_iload_n dX7_keeps_11 rfl ?_
  obtain ⟨σ4, e5, h⟩ := ab_1 h
  refine rr_puti (kz := 28) dX7_keeps_12 fl_7_207 (sh_75 L) ⟨(by decide), by decide⟩ ⟨rfl, rfl⟩ rfl (ab_m e5 ?_)
  refine rr_aload_n dX7_keeps_15 rfl ?_
  refine rr_aload_n dX7_keeps_16 rfl ?_
  refine rr_getr (t := 89) dX7_keeps_17 fl_7_50 (sh_75 L) ⟨(by decide), by decide⟩ rfl rfl ?_
  refine rr_iload_n dX7_keeps_20 rfl ?_
  refine rr_iald (nz := 9) dX7_keeps_21 (sh_89 L) rfl g1 ?_
  obtain ⟨σ6, e7, h⟩ := ab_1 h
  refine rr_puti (kz := 29) dX7_keeps_22 fl_7_210 (sh_75 L) ⟨(by decide), by decide⟩ ⟨rfl, rfl⟩ rfl (ab_m e7 ?_)
  refine rr_iconst dX7_keeps_25 (by decide) ?_
  refine rr_istore_n (ls' := [some (am_r 75), some (am_i p1), some (am_i 0)]) dX7_keeps_26 (Nat.le_of_ble_eq_true rfl) rfl ?_
  exact tl_X7_keeps_27 hd hQ n _ _ _ h
def nw_X7_keeps (a : Nat) : Prop := a ≠ 75 ∧ a ≠ 92
theorem wb_X7_keeps_27 {n : Nat} {kh27 : Int → Int → am_Mem → Option am_Mem} {x1 : Int} {x2 : Int} {σ σr : am_Mem} (hk27 : ∀ (y1 : Int) (y2 : Int) (σ : am_Mem), kh27 y1 y2 σ = some σr → ∀ a : Nat, nw_X7_keeps a → σr a = σ a) (h : fb_X7_keeps_27 n kh27 x1 x2 σ = some σr) : ∀ a : Nat, nw_X7_keeps a → σr a = σ a := by
  unfold fb_X7_keeps_27 at h
  have fr : ∀ a : Nat, nw_X7_keeps a → σ a = σ a := fun _ _ => rfl
  rcases ab_i h with ⟨c8, h⟩ | ⟨c8, h⟩
  · obtain ⟨g9, h⟩ := ab_g h
    obtain ⟨σ10, e11, h⟩ := ab_1 h
    have fr := fun (a : Nat) (ha : nw_X7_keeps a) => (ab_fu e11 (show a ≠ 92 by unfold nw_X7_keeps at ha; omega)).trans (fr a ha)
    exact fun a ha => (hk27 _ _ _ h a ha).trans (fr a ha)
  · have q2 := ab_r1 h
    exact fun a ha => (congrFun q2.symm a).trans (fr a ha)
theorem wl_X7_keeps_27 {n : Nat} {σr : am_Mem} : ∀ (m : Nat) (x1 : Int) (x2 : Int) (σ : am_Mem), fl_X7_keeps_27 n m x1 x2 σ = some σr → ∀ a : Nat, nw_X7_keeps a → σr a = σ a := by
  intro m
  induction m with
  | zero => intro x1 x2 σ h; cases h
  | succ m ih =>
    intro x1 x2 σ h
    exact wb_X7_keeps_27 (fun x1 x2 σ h => ih x1 x2 σ h) h
theorem w_X7_keeps {n : Nat} {p1 : Int} {σ σr : am_Mem} (h : f_X7_keeps n p1 σ = some σr) : ∀ a : Nat, nw_X7_keeps a → σr a = σ a := by
  unfold f_X7_keeps at h
  have fr : ∀ a : Nat, nw_X7_keeps a → σ a = σ a := fun _ _ => rfl
  obtain ⟨g1, h⟩ := ab_g h
  obtain ⟨σ2, e3, h⟩ := ab_1 h
  have fr := fun (a : Nat) (ha : nw_X7_keeps a) => (ab_fu e3 (show a ≠ 75 by unfold nw_X7_keeps at ha; omega)).trans (fr a ha)
  obtain ⟨σ4, e5, h⟩ := ab_1 h
  have fr := fun (a : Nat) (ha : nw_X7_keeps a) => (ab_fu e5 (show a ≠ 75 by unfold nw_X7_keeps at ha; omega)).trans (fr a ha)
  obtain ⟨σ6, e7, h⟩ := ab_1 h
  have fr := fun (a : Nat) (ha : nw_X7_keeps a) => (ab_fu e7 (show a ≠ 75 by unfold nw_X7_keeps at ha; omega)).trans (fr a ha)
  exact fun a ha => (wl_X7_keeps_27 n _ _ _ h a ha).trans (fr a ha)
/-! MoodFareModel.finds -/
def fb_X7_finds_80 (n : Nat) (kh19 : Int → Int → am_Mem → Option am_Mem) (x1 : Int) (s0 : Int) (σ : am_Mem) : Option am_Mem :=
  if (0 : Int) ≤ σ 75 20 ∧ σ 75 20 < 9 then if σ 89 (σ 75 20) = x1 then (if s0 = 0 then (am_b2 (f_X7_goesOn n 8 σ) fun r14 σ15 => kh19 x1 r14 σ15) else (am_b1 (f_X7_keeps n (σ 75 20) σ) fun σ18 => am_b2 (f_X7_goesOn n 8 σ18) fun r20 σ21 => kh19 x1 r20 σ21)) else (am_b2 (f_X7_goesOn n 8 σ) fun r23 σ24 => kh19 x1 r23 σ24) else none
def fb_X7_finds_19 (n : Nat) (kh19 : Int → Int → am_Mem → Option am_Mem) (x1 : Int) (x3 : Int) (σ : am_Mem) : Option am_Mem :=
  if x3 = 0 then (some σ) else (if σ 75 27 = (-1000000) then (fb_X7_finds_80 n kh19 x1 1 σ) else (if (0 : Int) ≤ σ 75 20 ∧ σ 75 20 < 9 then if σ 91 (σ 75 20) < σ 75 27 then (fb_X7_finds_80 n kh19 x1 1 σ) else (if σ 91 (σ 75 20) = σ 75 27 then (if σ 75 20 < σ 75 28 then (fb_X7_finds_80 n kh19 x1 1 σ) else (fb_X7_finds_80 n kh19 x1 0 σ)) else (fb_X7_finds_80 n kh19 x1 0 σ)) else none))
def fl_X7_finds_19 (n : Nat) : Nat → Int → Int → am_Mem → Option am_Mem
  | 0, _, _, _ => none
  | m + 1, x1, x3, σ => fb_X7_finds_19 n (fun yx1 yx3 σ => fl_X7_finds_19 n m yx1 yx3 σ) x1 x3 σ
def f_X7_finds (n : Nat) (p1 : Int) (p2 : Int) (σ : am_Mem) : Option am_Mem :=
  am_b1 (f_X7_begins n σ) fun σ3 => am_b1 (some (am_up σ3 83 5 p2)) fun σ4 => am_b1 (some (am_up σ4 75 27 (-1000000))) fun σ6 => fl_X7_finds_19 n n p1 1 σ6
theorem tb_X7_finds_80 {L n d : Nat} {Q : am_Post} {kh19 : Int → Int → am_Mem → Option am_Mem} {x1 : Int} {s0 : Int} {o2 : Int} {o3 : Int} {o4 : Option am_V} {σ σr : am_Mem} (hd : 4 ≤ d) (hk19 : ∀ (y1 : Int) (y3 : Int) (σ : am_Mem), kh19 y1 y3 σ = some σr → ∀ (o2 : Int) (o4 : Option am_V), xs_AW (xs_aw d) me_X7_finds Q 19 [some (am_r 75), some (am_i y1), some (am_i o2), some (am_i y3), o4] [] (rm_h L σ)) (hQ : Q none (rm_h L σr)) (h : fb_X7_finds_80 n kh19 x1 s0 σ = some σr) : xs_AW (xs_aw d) me_X7_finds Q 80 [some (am_r 75), some (am_i x1), some (am_i o2), some (am_i o3), o4] [am_i s0] (rm_h L σ) := by
  unfold fb_X7_finds_80 at h
  refine rr_istore (ls' := [some (am_r 75), some (am_i x1), some (am_i o2), some (am_i o3), some (am_i s0)]) dX7_finds_80 (Nat.le_of_ble_eq_true rfl) rfl ?_
  refine rr_aload_n dX7_finds_82 rfl ?_
  refine rr_getr (t := 89) dX7_finds_83 fl_7_50 (sh_75 L) ⟨(by decide), by decide⟩ rfl rfl ?_
  refine rr_aload_n dX7_finds_86 rfl ?_
  refine rr_geti (kz := 20) dX7_finds_87 fl_7_197 (sh_75 L) ⟨(by decide), by decide⟩ rfl rfl ?_
  obtain ⟨g10, h⟩ := ab_g h
  refine rr_iald (nz := 9) dX7_finds_90 (sh_89 L) rfl g10 ?_
  refine rr_iload_n dX7_finds_91 rfl ?_
  rcases ab_i h with ⟨c11, h⟩ | ⟨c11, h⟩
  · refine rr_icmp_ne_p (t := 108) dX7_finds_92 (by decide) c11 ?_
    refine rr_iload dX7_finds_95 rfl ?_
    rcases ab_i h with ⟨c12, h⟩ | ⟨c12, h⟩
    · refine rr_if_eq_p (t := 108) dX7_finds_97 (by decide) c12 ?_
      refine rr_aload_n dX7_finds_108 rfl ?_
      refine rr_bipush dX7_finds_109 (by decide) ?_
      obtain ⟨r14, σ15, e13, h⟩ := ab_2 h
      refine rr_Vi (as := [am_i 8]) (rest := []) dX7_finds_111 ml_7_219 (sh_75 L) ⟨(by decide), by decide, by decide⟩ rfl rfl rfl (Nat.le_of_ble_eq_true rfl) ⟨rfl, rfl⟩ (Nat.le_of_ble_eq_true rfl) (fun _ k => t_X7_goesOn (by omega) e13 k) ?_
      refine rr_istore_n (ls' := [some (am_r 75), some (am_i x1), some (am_i o2), some (am_i r14), some (am_i s0)]) dX7_finds_114 (Nat.le_of_ble_eq_true rfl) rfl ?_
      refine rr_goto (t := 19) dX7_finds_115 (by decide) ?_
      exact hk19 _ _ _ h _ _
    · refine rr_if_eq_n (t := 108) dX7_finds_97 (by decide) c12 ?_
      refine rr_aload_n dX7_finds_100 rfl ?_
      refine rr_aload_n dX7_finds_101 rfl ?_
      refine rr_geti (kz := 20) dX7_finds_102 fl_7_197 (sh_75 L) ⟨(by decide), by decide⟩ rfl rfl ?_
      obtain ⟨σ18, e16, h⟩ := ab_1 h
      refine rr_Vv (as := [am_i (σ 75 20)]) (rest := []) dX7_finds_105 ml_7_216 (sh_75 L) ⟨(by decide), by decide, by decide⟩ rfl rfl rfl (Nat.le_of_ble_eq_true rfl) ⟨rfl, rfl⟩ (Nat.le_of_ble_eq_true rfl) (fun _ k => t_X7_keeps (by omega) e16 k) ?_
      refine rr_aload_n dX7_finds_108 rfl ?_
      refine rr_bipush dX7_finds_109 (by decide) ?_
      obtain ⟨r20, σ21, e19, h⟩ := ab_2 h
      refine rr_Vi (as := [am_i 8]) (rest := []) dX7_finds_111 ml_7_219 (sh_75 L) ⟨(by decide), by decide, by decide⟩ rfl rfl rfl (Nat.le_of_ble_eq_true rfl) ⟨rfl, rfl⟩ (Nat.le_of_ble_eq_true rfl) (fun _ k => t_X7_goesOn (by omega) e19 k) ?_
      refine rr_istore_n (ls' := [some (am_r 75), some (am_i x1), some (am_i o2), some (am_i r20), some (am_i s0)]) dX7_finds_114 (Nat.le_of_ble_eq_true rfl) rfl ?_
      refine rr_goto (t := 19) dX7_finds_115 (by decide) ?_
      exact hk19 _ _ _ h _ _
  · refine rr_icmp_ne_n (t := 108) dX7_finds_92 (by decide) c11 ?_
    refine rr_aload_n dX7_finds_108 rfl ?_
    refine rr_bipush dX7_finds_109 (by decide) ?_
    obtain ⟨r23, σ24, e22, h⟩ := ab_2 h
    refine rr_Vi (as := [am_i 8]) (rest := []) dX7_finds_111 ml_7_219 (sh_75 L) ⟨(by decide), by decide, by decide⟩ rfl rfl rfl (Nat.le_of_ble_eq_true rfl) ⟨rfl, rfl⟩ (Nat.le_of_ble_eq_true rfl) (fun _ k => t_X7_goesOn (by omega) e22 k) ?_
    refine rr_istore_n (ls' := [some (am_r 75), some (am_i x1), some (am_i o2), some (am_i r23), some (am_i s0)]) dX7_finds_114 (Nat.le_of_ble_eq_true rfl) rfl ?_
    refine rr_goto (t := 19) dX7_finds_115 (by decide) ?_
    exact hk19 _ _ _ h _ _
theorem tb_X7_finds_19 {L n d : Nat} {Q : am_Post} {kh19 : Int → Int → am_Mem → Option am_Mem} {x1 : Int} {x3 : Int} {o2 : Int} {o4 : Option am_V} {σ σr : am_Mem} (hd : 4 ≤ d) (hk19 : ∀ (y1 : Int) (y3 : Int) (σ : am_Mem), kh19 y1 y3 σ = some σr → ∀ (o2 : Int) (o4 : Option am_V), xs_AW (xs_aw d) me_X7_finds Q 19 [some (am_r 75), some (am_i y1), some (am_i o2), some (am_i y3), o4] [] (rm_h L σ)) (hQ : Q none (rm_h L σr)) (h : fb_X7_finds_19 n kh19 x1 x3 σ = some σr) : xs_AW (xs_aw d) me_X7_finds Q 19 [some (am_r 75), some (am_i x1), some (am_i o2), some (am_i x3), o4] [] (rm_h L σ) := by
  unfold fb_X7_finds_19 at h
  refine rr_iload_n dX7_finds_19 rfl ?_
  rcases ab_i h with ⟨c8, h⟩ | ⟨c8, h⟩
  · refine rr_if_eq_p (t := 118) dX7_finds_20 (by decide) c8 ?_
    obtain rfl := ab_r1 h
    exact rr_vret dX7_finds_118 rfl hQ
  · refine rr_if_eq_n (t := 118) dX7_finds_20 (by decide) c8 ?_
    refine rr_aload_n dX7_finds_23 rfl ?_
    refine rr_geti (kz := 27) dX7_finds_24 fl_7_204 (sh_75 L) ⟨(by decide), by decide⟩ rfl rfl ?_
    refine rr_ldc dX7_finds_27 cs_7_65 ?_
    rcases ab_i h with ⟨c9, h⟩ | ⟨c9, h⟩
    · refine rr_icmp_eq_p (t := 75) dX7_finds_29 (by decide) c9 ?_
      refine rr_iconst dX7_finds_75 (by decide) ?_
      refine rr_goto (t := 80) dX7_finds_76 (by decide) ?_
      exact tb_X7_finds_80 hd hk19 hQ h
    · refine rr_icmp_eq_n (t := 75) dX7_finds_29 (by decide) c9 ?_
      refine rr_aload_n dX7_finds_32 rfl ?_
      refine rr_getr (t := 91) dX7_finds_33 fl_7_56 (sh_75 L) ⟨(by decide), by decide⟩ rfl rfl ?_
      refine rr_aload_n dX7_finds_36 rfl ?_
      refine rr_geti (kz := 20) dX7_finds_37 fl_7_197 (sh_75 L) ⟨(by decide), by decide⟩ rfl rfl ?_
      obtain ⟨g25, h⟩ := ab_g h
      refine rr_iald (nz := 9) dX7_finds_40 (sh_91 L) rfl g25 ?_
      refine rr_aload_n dX7_finds_41 rfl ?_
      refine rr_geti (kz := 27) dX7_finds_42 fl_7_204 (sh_75 L) ⟨(by decide), by decide⟩ rfl rfl ?_
      rcases ab_i h with ⟨c26, h⟩ | ⟨c26, h⟩
      · refine rr_icmp_lt_p (t := 75) dX7_finds_45 (by decide) c26 ?_
        refine rr_iconst dX7_finds_75 (by decide) ?_
        refine rr_goto (t := 80) dX7_finds_76 (by decide) ?_
        exact tb_X7_finds_80 hd hk19 hQ h
      · refine rr_icmp_lt_n (t := 75) dX7_finds_45 (by decide) c26 ?_
        refine rr_aload_n dX7_finds_48 rfl ?_
        refine rr_getr (t := 91) dX7_finds_49 fl_7_56 (sh_75 L) ⟨(by decide), by decide⟩ rfl rfl ?_
        refine rr_aload_n dX7_finds_52 rfl ?_
        refine rr_geti (kz := 20) dX7_finds_53 fl_7_197 (sh_75 L) ⟨(by decide), by decide⟩ rfl rfl ?_
        refine rr_iald (nz := 9) dX7_finds_56 (sh_91 L) rfl g25 ?_
        refine rr_aload_n dX7_finds_57 rfl ?_
        refine rr_geti (kz := 27) dX7_finds_58 fl_7_204 (sh_75 L) ⟨(by decide), by decide⟩ rfl rfl ?_
        rcases ab_i h with ⟨c27, h⟩ | ⟨c27, h⟩
        · refine rr_icmp_ne_p (t := 79) dX7_finds_61 (by decide) c27 ?_
          refine rr_aload_n dX7_finds_64 rfl ?_
          refine rr_geti (kz := 20) dX7_finds_65 fl_7_197 (sh_75 L) ⟨(by decide), by decide⟩ rfl rfl ?_
          refine rr_aload_n dX7_finds_68 rfl ?_
          refine rr_geti (kz := 28) dX7_finds_69 fl_7_207 (sh_75 L) ⟨(by decide), by decide⟩ rfl rfl ?_
          rcases ab_i h with ⟨c28, h⟩ | ⟨c28, h⟩
          · refine rr_icmp_ge_p (t := 79) dX7_finds_72 (by decide) c28 ?_
            refine rr_iconst dX7_finds_75 (by decide) ?_
            refine rr_goto (t := 80) dX7_finds_76 (by decide) ?_
            exact tb_X7_finds_80 hd hk19 hQ h
          · refine rr_icmp_ge_n (t := 79) dX7_finds_72 (by decide) c28 ?_
            refine rr_iconst dX7_finds_79 (by decide) ?_
            exact tb_X7_finds_80 hd hk19 hQ h
        · refine rr_icmp_ne_n (t := 79) dX7_finds_61 (by decide) c27 ?_
          refine rr_iconst dX7_finds_79 (by decide) ?_
          exact tb_X7_finds_80 hd hk19 hQ h
theorem tl_X7_finds_19 {L n d : Nat} {Q : am_Post} {σr : am_Mem} (hd : 4 ≤ d) (hQ : Q none (rm_h L σr)) : ∀ (m : Nat) (x1 : Int) (x3 : Int) (σ : am_Mem) (o2 : Int) (o4 : Option am_V), fl_X7_finds_19 n m x1 x3 σ = some σr → xs_AW (xs_aw d) me_X7_finds Q 19 [some (am_r 75), some (am_i x1), some (am_i o2), some (am_i x3), o4] [] (rm_h L σ) := by
  intro m
  induction m with
  | zero => intro x1 x3 σ o2 o4 h; cases h
  | succ m ih =>
    intro x1 x3 σ o2 o4 h
    exact tb_X7_finds_19 hd (fun x1 x3 σ h o2 o4 => ih x1 x3 σ o2 o4 h) hQ h
theorem t_X7_finds {L n d : Nat} {Q : am_Post} {p1 : Int} {p2 : Int} {σ σr : am_Mem} (hd : 4 < d) (h : f_X7_finds n p1 p2 σ = some σr) (hQ : Q none (rm_h L σr)) : xs_aw d me_X7_finds [am_r 75, am_i p1, am_i p2] (rm_h L σ) Q := by
  obtain ⟨d, rfl⟩ : ∃ k, d = k + 1 := ⟨d - 1, by omega⟩
  have hd : 4 ≤ d := by omega
  unfold f_X7_finds at h
  show xs_AW (xs_aw d) me_X7_finds Q 0 [some (am_r 75), some (am_i p1), some (am_i p2), none, none] [] (rm_h L σ)
  refine rr_aload_n dX7_finds_0 rfl ?_
  obtain ⟨σ3, e1, h⟩ := ab_1 h
  refine rr_Vv (as := []) (rest := []) dX7_finds_1 ml_7_213 (sh_75 L) ⟨(by decide), by decide, by decide⟩ rfl rfl rfl (Nat.le_of_ble_eq_true rfl) ⟨rfl, rfl⟩ (Nat.le_of_ble_eq_true rfl) (fun _ k => t_X7_begins (by omega) e1 k) ?_
  refine rr_aload_n dX7_finds_4 rfl ?_
  refine rr_getr (t := 83) dX7_finds_5 fl_7_31 (sh_75 L) ⟨(by decide), by decide⟩ rfl rfl ?_
  refine rr_iconst dX7_finds_8 (by decide) ?_
  refine rr_iload_n dX7_finds_9 rfl ?_
  refine rr_iast (nz := 42) dX7_finds_10 (sh_83 L) (by decide) rfl ⟨by decide, by decide⟩ ?_
  obtain ⟨σ4, e5, h⟩ := ab_1 h
  refine ab_m e5 ?_
  refine rr_aload_n dX7_finds_11 rfl ?_
  refine rr_ldc dX7_finds_12 cs_7_65 ?_
  obtain ⟨σ6, e7, h⟩ := ab_1 h
  refine rr_puti (kz := 27) dX7_finds_14 fl_7_204 (sh_75 L) ⟨(by decide), by decide⟩ ⟨rfl, rfl⟩ rfl (ab_m e7 ?_)
  refine rr_iconst dX7_finds_17 (by decide) ?_
  refine rr_istore_n (ls' := [some (am_r 75), some (am_i p1), some (am_i p2), some (am_i 1), none]) dX7_finds_18 (Nat.le_of_ble_eq_true rfl) rfl ?_
  exact tl_X7_finds_19 hd hQ n _ _ _ _ _ h
def nw_X7_finds (a : Nat) : Prop := a ≠ 75 ∧ a ≠ 83 ∧ a ≠ 87 ∧ a ≠ 88 ∧ a ≠ 89 ∧ a ≠ 90 ∧ a ≠ 91 ∧ a ≠ 92
theorem wb_X7_finds_80 {n : Nat} {kh19 : Int → Int → am_Mem → Option am_Mem} {x1 : Int} {s0 : Int} {σ σr : am_Mem} (hk19 : ∀ (y1 : Int) (y3 : Int) (σ : am_Mem), kh19 y1 y3 σ = some σr → ∀ a : Nat, nw_X7_finds a → σr a = σ a) (h : fb_X7_finds_80 n kh19 x1 s0 σ = some σr) : ∀ a : Nat, nw_X7_finds a → σr a = σ a := by
  unfold fb_X7_finds_80 at h
  have fr : ∀ a : Nat, nw_X7_finds a → σ a = σ a := fun _ _ => rfl
  obtain ⟨g10, h⟩ := ab_g h
  rcases ab_i h with ⟨c11, h⟩ | ⟨c11, h⟩
  · rcases ab_i h with ⟨c12, h⟩ | ⟨c12, h⟩
    · obtain ⟨r14, σ15, e13, h⟩ := ab_2 h
      have fr := fun (a : Nat) (ha : nw_X7_finds a) => (w_X7_goesOn e13 a (by unfold nw_X7_finds at ha; unfold nw_X7_goesOn; omega)).trans (fr a ha)
      exact fun a ha => (hk19 _ _ _ h a ha).trans (fr a ha)
    · obtain ⟨σ18, e16, h⟩ := ab_1 h
      have fr := fun (a : Nat) (ha : nw_X7_finds a) => (w_X7_keeps e16 a (by unfold nw_X7_finds at ha; unfold nw_X7_keeps; omega)).trans (fr a ha)
      obtain ⟨r20, σ21, e19, h⟩ := ab_2 h
      have fr := fun (a : Nat) (ha : nw_X7_finds a) => (w_X7_goesOn e19 a (by unfold nw_X7_finds at ha; unfold nw_X7_goesOn; omega)).trans (fr a ha)
      exact fun a ha => (hk19 _ _ _ h a ha).trans (fr a ha)
  · obtain ⟨r23, σ24, e22, h⟩ := ab_2 h
    have fr := fun (a : Nat) (ha : nw_X7_finds a) => (w_X7_goesOn e22 a (by unfold nw_X7_finds at ha; unfold nw_X7_goesOn; omega)).trans (fr a ha)
    exact fun a ha => (hk19 _ _ _ h a ha).trans (fr a ha)
theorem wb_X7_finds_19 {n : Nat} {kh19 : Int → Int → am_Mem → Option am_Mem} {x1 : Int} {x3 : Int} {σ σr : am_Mem} (hk19 : ∀ (y1 : Int) (y3 : Int) (σ : am_Mem), kh19 y1 y3 σ = some σr → ∀ a : Nat, nw_X7_finds a → σr a = σ a) (h : fb_X7_finds_19 n kh19 x1 x3 σ = some σr) : ∀ a : Nat, nw_X7_finds a → σr a = σ a := by
  unfold fb_X7_finds_19 at h
  have fr : ∀ a : Nat, nw_X7_finds a → σ a = σ a := fun _ _ => rfl
  rcases ab_i h with ⟨c8, h⟩ | ⟨c8, h⟩
  · have q2 := ab_r1 h
    exact fun a ha => (congrFun q2.symm a).trans (fr a ha)
  · rcases ab_i h with ⟨c9, h⟩ | ⟨c9, h⟩
    · exact fun a ha => (wb_X7_finds_80 hk19 h a ha).trans (fr a ha)
    · obtain ⟨g25, h⟩ := ab_g h
      rcases ab_i h with ⟨c26, h⟩ | ⟨c26, h⟩
      · exact fun a ha => (wb_X7_finds_80 hk19 h a ha).trans (fr a ha)
      · rcases ab_i h with ⟨c27, h⟩ | ⟨c27, h⟩
        · rcases ab_i h with ⟨c28, h⟩ | ⟨c28, h⟩
          · exact fun a ha => (wb_X7_finds_80 hk19 h a ha).trans (fr a ha)
          · exact fun a ha => (wb_X7_finds_80 hk19 h a ha).trans (fr a ha)
        · exact fun a ha => (wb_X7_finds_80 hk19 h a ha).trans (fr a ha)
theorem wl_X7_finds_19 {n : Nat} {σr : am_Mem} : ∀ (m : Nat) (x1 : Int) (x3 : Int) (σ : am_Mem), fl_X7_finds_19 n m x1 x3 σ = some σr → ∀ a : Nat, nw_X7_finds a → σr a = σ a := by
  intro m
  induction m with
  | zero => intro x1 x3 σ h; cases h
  | succ m ih =>
    intro x1 x3 σ h
    exact wb_X7_finds_19 (fun x1 x3 σ h => ih x1 x3 σ h) h
theorem w_X7_finds {n : Nat} {p1 : Int} {p2 : Int} {σ σr : am_Mem} (h : f_X7_finds n p1 p2 σ = some σr) : ∀ a : Nat, nw_X7_finds a → σr a = σ a := by
  unfold f_X7_finds at h
  have fr : ∀ a : Nat, nw_X7_finds a → σ a = σ a := fun _ _ => rfl
  obtain ⟨σ3, e1, h⟩ := ab_1 h
  have fr := fun (a : Nat) (ha : nw_X7_finds a) => (w_X7_begins e1 a (by unfold nw_X7_finds at ha; unfold nw_X7_begins; omega)).trans (fr a ha)
  obtain ⟨σ4, e5, h⟩ := ab_1 h
  have fr := fun (a : Nat) (ha : nw_X7_finds a) => (ab_fu e5 (show a ≠ 83 by unfold nw_X7_finds at ha; omega)).trans (fr a ha)
  obtain ⟨σ6, e7, h⟩ := ab_1 h
  have fr := fun (a : Nat) (ha : nw_X7_finds a) => (ab_fu e7 (show a ≠ 75 by unfold nw_X7_finds at ha; omega)).trans (fr a ha)
  exact fun a ha => (wl_X7_finds_19 n _ _ _ h a ha).trans (fr a ha)
/-! MoodFareModel.told -/
def f_X7_told (n : Nat) (p1 : Int) (p2 : Int) (σ : am_Mem) : Option (Int × am_Mem) :=
  if σ 75 27 = (-1000000) then (some ((-1000000), σ)) else (if p1 = (-1) then (some (σ 75 27, σ)) else (if p1 = (-2) then (some (p2, σ)) else (if p1 < σ 75 28 then (if (0 : Int) ≤ p1 ∧ p1 < 8 then some (σ 92 p1, σ) else none) else (some ((-1000000), σ)))))
theorem t_X7_told {L n d : Nat} {Q : am_Post} {p1 : Int} {p2 : Int} {σ σr : am_Mem} {rr : Int} (hd : 0 < d) (h : f_X7_told n p1 p2 σ = some (rr, σr)) (hQ : Q (some (am_i rr)) (rm_h L σr)) : xs_aw d me_X7_told [am_r 75, am_i p1, am_i p2] (rm_h L σ) Q := by
  obtain ⟨d, rfl⟩ : ∃ k, d = k + 1 := ⟨d - 1, by omega⟩
  have hd : 0 ≤ d := by omega
  unfold f_X7_told at h
  show xs_AW (xs_aw d) me_X7_told Q 0 [some (am_r 75), some (am_i p1), some (am_i p2)] [] (rm_h L σ)
  refine rr_aload_n dX7_told_0 rfl ?_
  refine rr_geti (kz := 27) dX7_told_1 fl_7_204 (sh_75 L) ⟨(by decide), by decide⟩ rfl rfl ?_
  refine rr_ldc dX7_told_4 cs_7_65 ?_
  rcases ab_i h with ⟨c1, h⟩ | ⟨c1, h⟩
  · refine rr_icmp_ne_p (t := 14) dX7_told_6 (by decide) c1 ?_
    refine rr_ldc dX7_told_9 cs_7_65 ?_
    refine rr_goto (t := 55) dX7_told_11 (by decide) ?_
    obtain ⟨rfl, rfl⟩ := ab_r2 h
    exact rr_iret dX7_told_55 rfl hQ
  · refine rr_icmp_ne_n (t := 14) dX7_told_6 (by decide) c1 ?_
    refine rr_iload_n dX7_told_14 rfl ?_
    refine rr_iconst dX7_told_15 (by decide) ?_
    rcases ab_i h with ⟨c2, h⟩ | ⟨c2, h⟩
    · refine rr_icmp_ne_p (t := 26) dX7_told_16 (by decide) c2 ?_
      refine rr_aload_n dX7_told_19 rfl ?_
      refine rr_geti (kz := 27) dX7_told_20 fl_7_204 (sh_75 L) ⟨(by decide), by decide⟩ rfl rfl ?_
      refine rr_goto (t := 55) dX7_told_23 (by decide) ?_
      obtain ⟨rfl, rfl⟩ := ab_r2 h
      exact rr_iret dX7_told_55 rfl hQ
    · refine rr_icmp_ne_n (t := 26) dX7_told_16 (by decide) c2 ?_
      refine rr_iload_n dX7_told_26 rfl ?_
      refine rr_bipush dX7_told_27 (by decide) ?_
      rcases ab_i h with ⟨c3, h⟩ | ⟨c3, h⟩
      · refine rr_icmp_ne_p (t := 36) dX7_told_29 (by decide) c3 ?_
        refine rr_iload_n dX7_told_32 rfl ?_
        refine rr_goto (t := 55) dX7_told_33 (by decide) ?_
        obtain ⟨rfl, rfl⟩ := ab_r2 h
        exact rr_iret dX7_told_55 rfl hQ
      · refine rr_icmp_ne_n (t := 36) dX7_told_29 (by decide) c3 ?_
        refine rr_iload_n dX7_told_36 rfl ?_
        refine rr_aload_n dX7_told_37 rfl ?_
        refine rr_geti (kz := 28) dX7_told_38 fl_7_207 (sh_75 L) ⟨(by decide), by decide⟩ rfl rfl ?_
        rcases ab_i h with ⟨c4, h⟩ | ⟨c4, h⟩
        · refine rr_icmp_ge_p (t := 53) dX7_told_41 (by decide) c4 ?_
          refine rr_aload_n dX7_told_44 rfl ?_
          refine rr_getr (t := 92) dX7_told_45 fl_7_59 (sh_75 L) ⟨(by decide), by decide⟩ rfl rfl ?_
          refine rr_iload_n dX7_told_48 rfl ?_
          obtain ⟨g5, h⟩ := ab_g h
          refine rr_iald (nz := 8) dX7_told_49 (sh_92 L) rfl g5 ?_
          refine rr_goto (t := 55) dX7_told_50 (by decide) ?_
          obtain ⟨rfl, rfl⟩ := ab_r2 h
          exact rr_iret dX7_told_55 rfl hQ
        · refine rr_icmp_ge_n (t := 53) dX7_told_41 (by decide) c4 ?_
          refine rr_ldc dX7_told_53 cs_7_65 ?_
          obtain ⟨rfl, rfl⟩ := ab_r2 h
          exact rr_iret dX7_told_55 rfl hQ
theorem u_X7_told {n : Nat} {p1 : Int} {p2 : Int} {σ σr : am_Mem} {rr : Int} (h : f_X7_told n p1 p2 σ = some (rr, σr)) : σr = σ := by
  unfold f_X7_told at h
  have fr : σ = σ := rfl
  rcases ab_i h with ⟨c1, h⟩ | ⟨c1, h⟩
  · obtain ⟨q1, q2⟩ := ab_r2 h
    exact q2.symm.trans fr
  · rcases ab_i h with ⟨c2, h⟩ | ⟨c2, h⟩
    · obtain ⟨q1, q2⟩ := ab_r2 h
      exact q2.symm.trans fr
    · rcases ab_i h with ⟨c3, h⟩ | ⟨c3, h⟩
      · obtain ⟨q1, q2⟩ := ab_r2 h
        exact q2.symm.trans fr
      · rcases ab_i h with ⟨c4, h⟩ | ⟨c4, h⟩
        · obtain ⟨g5, h⟩ := ab_g h
          obtain ⟨q1, q2⟩ := ab_r2 h
          exact q2.symm.trans fr
        · obtain ⟨q1, q2⟩ := ab_r2 h
          exact q2.symm.trans fr
/-! MoodFareModel.cheapest -/
def f_X7_cheapest (n : Nat) (p1 : Int) (p2 : Int) (σ : am_Mem) : Option (Int × am_Mem) :=
  am_b2 (f_X7_isCorner n p1 σ) fun r2 σ3 => if r2 = 0 then (some ((-1000001), σ3)) else (am_b2 (f_X7_in n p2 (-2) 7 σ3) fun r6 σ7 => if r6 = 0 then (some ((-1000001), σ7)) else (am_b1 (f_X7_finds n p1 (σ7 81 5) σ7) fun σ11 => am_b2 (f_X7_told n p2 (σ11 75 28) σ11) fun r13 σ14 => some (r13, σ14)))
theorem t_X7_cheapest {L n d : Nat} {Q : am_Post} {p1 : Int} {p2 : Int} {σ σr : am_Mem} {rr : Int} (hd : 5 < d) (h : f_X7_cheapest n p1 p2 σ = some (rr, σr)) (hQ : Q (some (am_i rr)) (rm_h L σr)) : xs_aw d me_X7_cheapest [am_r 75, am_i p1, am_i p2] (rm_h L σ) Q := by
  obtain ⟨d, rfl⟩ : ∃ k, d = k + 1 := ⟨d - 1, by omega⟩
  have hd : 5 ≤ d := by omega
  unfold f_X7_cheapest at h
  show xs_AW (xs_aw d) me_X7_cheapest Q 0 [some (am_r 75), some (am_i p1), some (am_i p2)] [] (rm_h L σ)
  refine rr_aload_n dX7_cheapest_0 rfl ?_
  refine rr_iload_n dX7_cheapest_1 rfl ?_
  obtain ⟨r2, σ3, e1, h⟩ := ab_2 h
  refine rr_Vi (as := [am_i p1]) (rest := []) dX7_cheapest_2 ml_7_188 (sh_75 L) ⟨(by decide), by decide, by decide⟩ rfl rfl rfl (Nat.le_of_ble_eq_true rfl) ⟨rfl, rfl⟩ (Nat.le_of_ble_eq_true rfl) (fun _ k => t_X7_isCorner (by omega) e1 k) ?_
  rcases ab_i h with ⟨c4, h⟩ | ⟨c4, h⟩
  · refine rr_if_eq_p (t := 19) dX7_cheapest_5 (by decide) c4 ?_
    refine rr_ldc dX7_cheapest_19 cs_7_79 ?_
    obtain ⟨rfl, rfl⟩ := ab_r2 h
    exact rr_iret dX7_cheapest_21 rfl hQ
  · refine rr_if_eq_n (t := 19) dX7_cheapest_5 (by decide) c4 ?_
    refine rr_iload_n dX7_cheapest_8 rfl ?_
    refine rr_bipush dX7_cheapest_9 (by decide) ?_
    refine rr_bipush dX7_cheapest_11 (by decide) ?_
    obtain ⟨r6, σ7, e5, h⟩ := ab_2 h
    refine rr_Si (as := [am_i p2, am_i (-2), am_i 7]) (rest := []) dX7_cheapest_13 ml_7_71 (Or.inl rfl) rfl rfl (Nat.le_of_ble_eq_true rfl) ⟨rfl, rfl⟩ (Nat.le_of_ble_eq_true rfl) (fun _ k => t_X7_in (by omega) e5 k) ?_
    rcases ab_i h with ⟨c8, h⟩ | ⟨c8, h⟩
    · refine rr_if_ne_p (t := 22) dX7_cheapest_16 (by decide) c8 ?_
      refine rr_ldc dX7_cheapest_19 cs_7_79 ?_
      obtain ⟨rfl, rfl⟩ := ab_r2 h
      exact rr_iret dX7_cheapest_21 rfl hQ
    · refine rr_if_ne_n (t := 22) dX7_cheapest_16 (by decide) c8 ?_
      refine rr_aload_n dX7_cheapest_22 rfl ?_
      refine rr_iload_n dX7_cheapest_23 rfl ?_
      refine rr_aload_n dX7_cheapest_24 rfl ?_
      refine rr_getr (t := 81) dX7_cheapest_25 fl_7_25 (sh_75 L) ⟨(by decide), by decide⟩ rfl rfl ?_
      refine rr_iconst dX7_cheapest_28 (by decide) ?_
      refine rr_iald (nz := 42) dX7_cheapest_29 (sh_81 L) rfl ⟨by decide, by decide⟩ ?_
      obtain ⟨σ11, e9, h⟩ := ab_1 h
      refine rr_Vv (as := [am_i p1, am_i (σ7 81 5)]) (rest := []) dX7_cheapest_30 ml_7_222 (sh_75 L) ⟨(by decide), by decide, by decide⟩ rfl rfl rfl (Nat.le_of_ble_eq_true rfl) ⟨rfl, rfl⟩ (Nat.le_of_ble_eq_true rfl) (fun _ k => t_X7_finds (by omega) e9 k) ?_
      refine rr_aload_n dX7_cheapest_33 rfl ?_
      refine rr_iload_n dX7_cheapest_34 rfl ?_
      refine rr_aload_n dX7_cheapest_35 rfl ?_
      refine rr_geti (kz := 28) dX7_cheapest_36 fl_7_207 (sh_75 L) ⟨(by decide), by decide⟩ rfl rfl ?_
      obtain ⟨r13, σ14, e12, h⟩ := ab_2 h
      refine rr_Vi (as := [am_i p2, am_i (σ11 75 28)]) (rest := []) dX7_cheapest_39 ml_7_226 (sh_75 L) ⟨(by decide), by decide, by decide⟩ rfl rfl rfl (Nat.le_of_ble_eq_true rfl) ⟨rfl, rfl⟩ (Nat.le_of_ble_eq_true rfl) (fun _ k => t_X7_told (by omega) e12 k) ?_
      obtain ⟨rfl, rfl⟩ := ab_r2 h
      exact rr_iret dX7_cheapest_42 rfl hQ
def nw_X7_cheapest (a : Nat) : Prop := a ≠ 75 ∧ a ≠ 83 ∧ a ≠ 87 ∧ a ≠ 88 ∧ a ≠ 89 ∧ a ≠ 90 ∧ a ≠ 91 ∧ a ≠ 92
theorem w_X7_cheapest {n : Nat} {p1 : Int} {p2 : Int} {σ σr : am_Mem} {rr : Int} (h : f_X7_cheapest n p1 p2 σ = some (rr, σr)) : ∀ a : Nat, nw_X7_cheapest a → σr a = σ a := by
  unfold f_X7_cheapest at h
  have fr : ∀ a : Nat, nw_X7_cheapest a → σ a = σ a := fun _ _ => rfl
  obtain ⟨r2, σ3, e1, h⟩ := ab_2 h
  have fr := fun (a : Nat) (ha : nw_X7_cheapest a) => (congrFun (u_X7_isCorner e1) a).trans (fr a ha)
  rcases ab_i h with ⟨c4, h⟩ | ⟨c4, h⟩
  · obtain ⟨q1, q2⟩ := ab_r2 h
    exact fun a ha => (congrFun q2.symm a).trans (fr a ha)
  · obtain ⟨r6, σ7, e5, h⟩ := ab_2 h
    have fr := fun (a : Nat) (ha : nw_X7_cheapest a) => (congrFun (u_X7_in e5) a).trans (fr a ha)
    rcases ab_i h with ⟨c8, h⟩ | ⟨c8, h⟩
    · obtain ⟨q1, q2⟩ := ab_r2 h
      exact fun a ha => (congrFun q2.symm a).trans (fr a ha)
    · obtain ⟨σ11, e9, h⟩ := ab_1 h
      have fr := fun (a : Nat) (ha : nw_X7_cheapest a) => (w_X7_finds e9 a (by unfold nw_X7_cheapest at ha; unfold nw_X7_finds; omega)).trans (fr a ha)
      obtain ⟨r13, σ14, e12, h⟩ := ab_2 h
      have fr := fun (a : Nat) (ha : nw_X7_cheapest a) => (congrFun (u_X7_told e12) a).trans (fr a ha)
      obtain ⟨q1, q2⟩ := ab_r2 h
      exact fun a ha => (congrFun q2.symm a).trans (fr a ha)
/-! MoodFareModel.dearest -/
def fb_X7_dearest_82 (n : Nat) (kh46 : Int → Int → Int → am_Mem → Option (Int × am_Mem)) (x1 : Int) (x2 : Int) (σ : am_Mem) : Option (Int × am_Mem) :=
  if x1 ≤ 0 then (kh46 x1 x2 0 σ) else (am_b2 (f_X7_goesOn n x1 σ) fun r27 σ28 => if r27 = 0 then (kh46 x1 x2 0 σ28) else (kh46 x1 x2 1 σ28))
def fb_X7_dearest_46 (n : Nat) (kh46 : Int → Int → Int → am_Mem → Option (Int × am_Mem)) (x1 : Int) (x2 : Int) (x3 : Int) (σ : am_Mem) : Option (Int × am_Mem) :=
  if x3 = 0 then (am_b2 (f_X7_told n x2 (σ 75 29) σ) fun r20 σ21 => some (r20, σ21)) else (if σ 75 20 = x1 then (if (0 : Int) ≤ σ 75 20 ∧ σ 75 20 < 9 then if σ 91 (σ 75 20) ≤ σ 75 27 then (fb_X7_dearest_82 n kh46 x1 x2 σ) else (am_b1 (f_X7_keeps n (σ 75 20) σ) fun σ32 => fb_X7_dearest_82 n kh46 x1 x2 σ32) else none) else (fb_X7_dearest_82 n kh46 x1 x2 σ))
def fl_X7_dearest_46 (n : Nat) : Nat → Int → Int → Int → am_Mem → Option (Int × am_Mem)
  | 0, _, _, _, _ => none
  | m + 1, x1, x2, x3, σ => fb_X7_dearest_46 n (fun yx1 yx2 yx3 σ => fl_X7_dearest_46 n m yx1 yx2 yx3 σ) x1 x2 x3 σ
def f_X7_dearest (n : Nat) (p1 : Int) (p2 : Int) (σ : am_Mem) : Option (Int × am_Mem) :=
  am_b2 (f_X7_isTown n σ) fun r2 σ3 => if r2 = 0 then (some ((-1000002), σ3)) else (am_b2 (f_X7_in n p1 0 8 σ3) fun r6 σ7 => if r6 = 0 then (some ((-1000001), σ7)) else (am_b2 (f_X7_in n p2 (-2) 7 σ7) fun r10 σ11 => if r10 = 0 then (some ((-1000001), σ11)) else (am_b1 (f_X7_begins n σ11) fun σ15 => am_b1 (some (am_up σ15 75 27 (-1000000))) fun σ16 => fl_X7_dearest_46 n n p1 p2 1 σ16)))
theorem tb_X7_dearest_82 {L n d : Nat} {Q : am_Post} {kh46 : Int → Int → Int → am_Mem → Option (Int × am_Mem)} {x1 : Int} {x2 : Int} {o3 : Int} {σ σr : am_Mem} {rr : Int} (hd : 4 ≤ d) (hk46 : ∀ (y1 : Int) (y2 : Int) (y3 : Int) (σ : am_Mem), kh46 y1 y2 y3 σ = some (rr, σr) → xs_AW (xs_aw d) me_X7_dearest Q 46 [some (am_r 75), some (am_i y1), some (am_i y2), some (am_i y3)] [] (rm_h L σ)) (hQ : Q (some (am_i rr)) (rm_h L σr)) (h : fb_X7_dearest_82 n kh46 x1 x2 σ = some (rr, σr)) : xs_AW (xs_aw d) me_X7_dearest Q 82 [some (am_r 75), some (am_i x1), some (am_i x2), some (am_i o3)] [] (rm_h L σ) := by
  unfold fb_X7_dearest_82 at h
  refine rr_iload_n dX7_dearest_82 rfl ?_
  rcases ab_i h with ⟨c25, h⟩ | ⟨c25, h⟩
  · refine rr_if_le_p (t := 98) dX7_dearest_83 (by decide) c25 ?_
    refine rr_iconst dX7_dearest_98 (by decide) ?_
    refine rr_istore_n (ls' := [some (am_r 75), some (am_i x1), some (am_i x2), some (am_i 0)]) dX7_dearest_99 (Nat.le_of_ble_eq_true rfl) rfl ?_
    refine rr_goto (t := 46) dX7_dearest_100 (by decide) ?_
    exact hk46 _ _ _ _ h
  · refine rr_if_le_n (t := 98) dX7_dearest_83 (by decide) c25 ?_
    refine rr_aload_n dX7_dearest_86 rfl ?_
    refine rr_iload_n dX7_dearest_87 rfl ?_
    obtain ⟨r27, σ28, e26, h⟩ := ab_2 h
    refine rr_Vi (as := [am_i x1]) (rest := []) dX7_dearest_88 ml_7_219 (sh_75 L) ⟨(by decide), by decide, by decide⟩ rfl rfl rfl (Nat.le_of_ble_eq_true rfl) ⟨rfl, rfl⟩ (Nat.le_of_ble_eq_true rfl) (fun _ k => t_X7_goesOn (by omega) e26 k) ?_
    rcases ab_i h with ⟨c29, h⟩ | ⟨c29, h⟩
    · refine rr_if_eq_p (t := 98) dX7_dearest_91 (by decide) c29 ?_
      refine rr_iconst dX7_dearest_98 (by decide) ?_
      refine rr_istore_n (ls' := [some (am_r 75), some (am_i x1), some (am_i x2), some (am_i 0)]) dX7_dearest_99 (Nat.le_of_ble_eq_true rfl) rfl ?_
      refine rr_goto (t := 46) dX7_dearest_100 (by decide) ?_
      exact hk46 _ _ _ _ h
    · refine rr_if_eq_n (t := 98) dX7_dearest_91 (by decide) c29 ?_
      refine rr_iconst dX7_dearest_94 (by decide) ?_
      refine rr_goto (t := 99) dX7_dearest_95 (by decide) ?_
      refine rr_istore_n (ls' := [some (am_r 75), some (am_i x1), some (am_i x2), some (am_i 1)]) dX7_dearest_99 (Nat.le_of_ble_eq_true rfl) rfl ?_
      refine rr_goto (t := 46) dX7_dearest_100 (by decide) ?_
      exact hk46 _ _ _ _ h
theorem tb_X7_dearest_46 {L n d : Nat} {Q : am_Post} {kh46 : Int → Int → Int → am_Mem → Option (Int × am_Mem)} {x1 : Int} {x2 : Int} {x3 : Int} {σ σr : am_Mem} {rr : Int} (hd : 4 ≤ d) (hk46 : ∀ (y1 : Int) (y2 : Int) (y3 : Int) (σ : am_Mem), kh46 y1 y2 y3 σ = some (rr, σr) → xs_AW (xs_aw d) me_X7_dearest Q 46 [some (am_r 75), some (am_i y1), some (am_i y2), some (am_i y3)] [] (rm_h L σ)) (hQ : Q (some (am_i rr)) (rm_h L σr)) (h : fb_X7_dearest_46 n kh46 x1 x2 x3 σ = some (rr, σr)) : xs_AW (xs_aw d) me_X7_dearest Q 46 [some (am_r 75), some (am_i x1), some (am_i x2), some (am_i x3)] [] (rm_h L σ) := by
  unfold fb_X7_dearest_46 at h
  refine rr_iload_n dX7_dearest_46 rfl ?_
  rcases ab_i h with ⟨c18, h⟩ | ⟨c18, h⟩
  · refine rr_if_eq_p (t := 103) dX7_dearest_47 (by decide) c18 ?_
    refine rr_aload_n dX7_dearest_103 rfl ?_
    refine rr_iload_n dX7_dearest_104 rfl ?_
    refine rr_aload_n dX7_dearest_105 rfl ?_
    refine rr_geti (kz := 29) dX7_dearest_106 fl_7_210 (sh_75 L) ⟨(by decide), by decide⟩ rfl rfl ?_
    obtain ⟨r20, σ21, e19, h⟩ := ab_2 h
    refine rr_Vi (as := [am_i x2, am_i (σ 75 29)]) (rest := []) dX7_dearest_109 ml_7_226 (sh_75 L) ⟨(by decide), by decide, by decide⟩ rfl rfl rfl (Nat.le_of_ble_eq_true rfl) ⟨rfl, rfl⟩ (Nat.le_of_ble_eq_true rfl) (fun _ k => t_X7_told (by omega) e19 k) ?_
    obtain ⟨rfl, rfl⟩ := ab_r2 h
    exact rr_iret dX7_dearest_112 rfl hQ
  · refine rr_if_eq_n (t := 103) dX7_dearest_47 (by decide) c18 ?_
    refine rr_aload_n dX7_dearest_50 rfl ?_
    refine rr_geti (kz := 20) dX7_dearest_51 fl_7_197 (sh_75 L) ⟨(by decide), by decide⟩ rfl rfl ?_
    refine rr_iload_n dX7_dearest_54 rfl ?_
    rcases ab_i h with ⟨c22, h⟩ | ⟨c22, h⟩
    · refine rr_icmp_ne_p (t := 82) dX7_dearest_55 (by decide) c22 ?_
      refine rr_aload_n dX7_dearest_58 rfl ?_
      refine rr_getr (t := 91) dX7_dearest_59 fl_7_56 (sh_75 L) ⟨(by decide), by decide⟩ rfl rfl ?_
      refine rr_aload_n dX7_dearest_62 rfl ?_
      refine rr_geti (kz := 20) dX7_dearest_63 fl_7_197 (sh_75 L) ⟨(by decide), by decide⟩ rfl rfl ?_
      obtain ⟨g23, h⟩ := ab_g h
      refine rr_iald (nz := 9) dX7_dearest_66 (sh_91 L) rfl g23 ?_
      refine rr_aload_n dX7_dearest_67 rfl ?_
      refine rr_geti (kz := 27) dX7_dearest_68 fl_7_204 (sh_75 L) ⟨(by decide), by decide⟩ rfl rfl ?_
      rcases ab_i h with ⟨c24, h⟩ | ⟨c24, h⟩
      · refine rr_icmp_le_p (t := 82) dX7_dearest_71 (by decide) c24 ?_
        exact tb_X7_dearest_82 hd hk46 hQ h
      · refine rr_icmp_le_n (t := 82) dX7_dearest_71 (by decide) c24 ?_
        refine rr_aload_n dX7_dearest_74 rfl ?_
        refine rr_aload_n dX7_dearest_75 rfl ?_
        refine rr_geti (kz := 20) dX7_dearest_76 fl_7_197 (sh_75 L) ⟨(by decide), by decide⟩ rfl rfl ?_
        obtain ⟨σ32, e30, h⟩ := ab_1 h
        refine rr_Vv (as := [am_i (σ 75 20)]) (rest := []) dX7_dearest_79 ml_7_216 (sh_75 L) ⟨(by decide), by decide, by decide⟩ rfl rfl rfl (Nat.le_of_ble_eq_true rfl) ⟨rfl, rfl⟩ (Nat.le_of_ble_eq_true rfl) (fun _ k => t_X7_keeps (by omega) e30 k) ?_
        exact tb_X7_dearest_82 hd hk46 hQ h
    · refine rr_icmp_ne_n (t := 82) dX7_dearest_55 (by decide) c22 ?_
      exact tb_X7_dearest_82 hd hk46 hQ h
theorem tl_X7_dearest_46 {L n d : Nat} {Q : am_Post} {σr : am_Mem} {rr : Int} (hd : 4 ≤ d) (hQ : Q (some (am_i rr)) (rm_h L σr)) : ∀ (m : Nat) (x1 : Int) (x2 : Int) (x3 : Int) (σ : am_Mem), fl_X7_dearest_46 n m x1 x2 x3 σ = some (rr, σr) → xs_AW (xs_aw d) me_X7_dearest Q 46 [some (am_r 75), some (am_i x1), some (am_i x2), some (am_i x3)] [] (rm_h L σ) := by
  intro m
  induction m with
  | zero => intro x1 x2 x3 σ h; cases h
  | succ m ih =>
    intro x1 x2 x3 σ h
    exact tb_X7_dearest_46 hd (fun x1 x2 x3 σ h => ih x1 x2 x3 σ h) hQ h
theorem t_X7_dearest {L n d : Nat} {Q : am_Post} {p1 : Int} {p2 : Int} {σ σr : am_Mem} {rr : Int} (hd : 4 < d) (h : f_X7_dearest n p1 p2 σ = some (rr, σr)) (hQ : Q (some (am_i rr)) (rm_h L σr)) : xs_aw d me_X7_dearest [am_r 75, am_i p1, am_i p2] (rm_h L σ) Q := by
  obtain ⟨d, rfl⟩ : ∃ k, d = k + 1 := ⟨d - 1, by omega⟩
  have hd : 4 ≤ d := by omega
  unfold f_X7_dearest at h
  show xs_AW (xs_aw d) me_X7_dearest Q 0 [some (am_r 75), some (am_i p1), some (am_i p2), none] [] (rm_h L σ)
  refine rr_aload_n dX7_dearest_0 rfl ?_
  obtain ⟨r2, σ3, e1, h⟩ := ab_2 h
  refine rr_Vi (as := []) (rest := []) dX7_dearest_1 ml_7_191 (sh_75 L) ⟨(by decide), by decide, by decide⟩ rfl rfl rfl (Nat.le_of_ble_eq_true rfl) ⟨rfl, rfl⟩ (Nat.le_of_ble_eq_true rfl) (fun _ k => t_X7_isTown (by omega) e1 k) ?_
  rcases ab_i h with ⟨c4, h⟩ | ⟨c4, h⟩
  · refine rr_if_ne_p (t := 10) dX7_dearest_4 (by decide) c4 ?_
    refine rr_ldc dX7_dearest_7 cs_7_180 ?_
    obtain ⟨rfl, rfl⟩ := ab_r2 h
    exact rr_iret dX7_dearest_9 rfl hQ
  · refine rr_if_ne_n (t := 10) dX7_dearest_4 (by decide) c4 ?_
    refine rr_iload_n dX7_dearest_10 rfl ?_
    refine rr_iconst dX7_dearest_11 (by decide) ?_
    refine rr_bipush dX7_dearest_12 (by decide) ?_
    obtain ⟨r6, σ7, e5, h⟩ := ab_2 h
    refine rr_Si (as := [am_i p1, am_i 0, am_i 8]) (rest := []) dX7_dearest_14 ml_7_71 (Or.inl rfl) rfl rfl (Nat.le_of_ble_eq_true rfl) ⟨rfl, rfl⟩ (Nat.le_of_ble_eq_true rfl) (fun _ k => t_X7_in (by omega) e5 k) ?_
    rcases ab_i h with ⟨c8, h⟩ | ⟨c8, h⟩
    · refine rr_if_eq_p (t := 31) dX7_dearest_17 (by decide) c8 ?_
      refine rr_ldc dX7_dearest_31 cs_7_79 ?_
      obtain ⟨rfl, rfl⟩ := ab_r2 h
      exact rr_iret dX7_dearest_33 rfl hQ
    · refine rr_if_eq_n (t := 31) dX7_dearest_17 (by decide) c8 ?_
      refine rr_iload_n dX7_dearest_20 rfl ?_
      refine rr_bipush dX7_dearest_21 (by decide) ?_
      refine rr_bipush dX7_dearest_23 (by decide) ?_
      obtain ⟨r10, σ11, e9, h⟩ := ab_2 h
      refine rr_Si (as := [am_i p2, am_i (-2), am_i 7]) (rest := []) dX7_dearest_25 ml_7_71 (Or.inl rfl) rfl rfl (Nat.le_of_ble_eq_true rfl) ⟨rfl, rfl⟩ (Nat.le_of_ble_eq_true rfl) (fun _ k => t_X7_in (by omega) e9 k) ?_
      rcases ab_i h with ⟨c12, h⟩ | ⟨c12, h⟩
      · refine rr_if_ne_p (t := 34) dX7_dearest_28 (by decide) c12 ?_
        refine rr_ldc dX7_dearest_31 cs_7_79 ?_
        obtain ⟨rfl, rfl⟩ := ab_r2 h
        exact rr_iret dX7_dearest_33 rfl hQ
      · refine rr_if_ne_n (t := 34) dX7_dearest_28 (by decide) c12 ?_
        refine rr_aload_n dX7_dearest_34 rfl ?_
        obtain ⟨σ15, e13, h⟩ := ab_1 h
        refine rr_Vv (as := []) (rest := []) dX7_dearest_35 ml_7_213 (sh_75 L) ⟨(by decide), by decide, by decide⟩ rfl rfl rfl (Nat.le_of_ble_eq_true rfl) ⟨rfl, rfl⟩ (Nat.le_of_ble_eq_true rfl) (fun _ k => t_X7_begins (by omega) e13 k) ?_
        refine rr_aload_n dX7_dearest_38 rfl ?_
        refine rr_ldc dX7_dearest_39 cs_7_65 ?_
        obtain ⟨σ16, e17, h⟩ := ab_1 h
        refine rr_puti (kz := 27) dX7_dearest_41 fl_7_204 (sh_75 L) ⟨(by decide), by decide⟩ ⟨rfl, rfl⟩ rfl (ab_m e17 ?_)
        refine rr_iconst dX7_dearest_44 (by decide) ?_
        refine rr_istore_n (ls' := [some (am_r 75), some (am_i p1), some (am_i p2), some (am_i 1)]) dX7_dearest_45 (Nat.le_of_ble_eq_true rfl) rfl ?_
        exact tl_X7_dearest_46 hd hQ n _ _ _ _ h
def nw_X7_dearest (a : Nat) : Prop := a ≠ 75 ∧ a ≠ 83 ∧ a ≠ 87 ∧ a ≠ 88 ∧ a ≠ 89 ∧ a ≠ 90 ∧ a ≠ 91 ∧ a ≠ 92
theorem wb_X7_dearest_82 {n : Nat} {kh46 : Int → Int → Int → am_Mem → Option (Int × am_Mem)} {x1 : Int} {x2 : Int} {σ σr : am_Mem} {rr : Int} (hk46 : ∀ (y1 : Int) (y2 : Int) (y3 : Int) (σ : am_Mem), kh46 y1 y2 y3 σ = some (rr, σr) → ∀ a : Nat, nw_X7_dearest a → σr a = σ a) (h : fb_X7_dearest_82 n kh46 x1 x2 σ = some (rr, σr)) : ∀ a : Nat, nw_X7_dearest a → σr a = σ a := by
  unfold fb_X7_dearest_82 at h
  have fr : ∀ a : Nat, nw_X7_dearest a → σ a = σ a := fun _ _ => rfl
  rcases ab_i h with ⟨c25, h⟩ | ⟨c25, h⟩
  · exact fun a ha => (hk46 _ _ _ _ h a ha).trans (fr a ha)
  · obtain ⟨r27, σ28, e26, h⟩ := ab_2 h
    have fr := fun (a : Nat) (ha : nw_X7_dearest a) => (w_X7_goesOn e26 a (by unfold nw_X7_dearest at ha; unfold nw_X7_goesOn; omega)).trans (fr a ha)
    rcases ab_i h with ⟨c29, h⟩ | ⟨c29, h⟩
    · exact fun a ha => (hk46 _ _ _ _ h a ha).trans (fr a ha)
    · exact fun a ha => (hk46 _ _ _ _ h a ha).trans (fr a ha)
theorem wb_X7_dearest_46 {n : Nat} {kh46 : Int → Int → Int → am_Mem → Option (Int × am_Mem)} {x1 : Int} {x2 : Int} {x3 : Int} {σ σr : am_Mem} {rr : Int} (hk46 : ∀ (y1 : Int) (y2 : Int) (y3 : Int) (σ : am_Mem), kh46 y1 y2 y3 σ = some (rr, σr) → ∀ a : Nat, nw_X7_dearest a → σr a = σ a) (h : fb_X7_dearest_46 n kh46 x1 x2 x3 σ = some (rr, σr)) : ∀ a : Nat, nw_X7_dearest a → σr a = σ a := by
  unfold fb_X7_dearest_46 at h
  have fr : ∀ a : Nat, nw_X7_dearest a → σ a = σ a := fun _ _ => rfl
  rcases ab_i h with ⟨c18, h⟩ | ⟨c18, h⟩
  · obtain ⟨r20, σ21, e19, h⟩ := ab_2 h
    have fr := fun (a : Nat) (ha : nw_X7_dearest a) => (congrFun (u_X7_told e19) a).trans (fr a ha)
    obtain ⟨q1, q2⟩ := ab_r2 h
    exact fun a ha => (congrFun q2.symm a).trans (fr a ha)
  · rcases ab_i h with ⟨c22, h⟩ | ⟨c22, h⟩
    · obtain ⟨g23, h⟩ := ab_g h
      rcases ab_i h with ⟨c24, h⟩ | ⟨c24, h⟩
      · exact fun a ha => (wb_X7_dearest_82 hk46 h a ha).trans (fr a ha)
      · obtain ⟨σ32, e30, h⟩ := ab_1 h
        have fr := fun (a : Nat) (ha : nw_X7_dearest a) => (w_X7_keeps e30 a (by unfold nw_X7_dearest at ha; unfold nw_X7_keeps; omega)).trans (fr a ha)
        exact fun a ha => (wb_X7_dearest_82 hk46 h a ha).trans (fr a ha)
    · exact fun a ha => (wb_X7_dearest_82 hk46 h a ha).trans (fr a ha)
theorem wl_X7_dearest_46 {n : Nat} {σr : am_Mem} {rr : Int} : ∀ (m : Nat) (x1 : Int) (x2 : Int) (x3 : Int) (σ : am_Mem), fl_X7_dearest_46 n m x1 x2 x3 σ = some (rr, σr) → ∀ a : Nat, nw_X7_dearest a → σr a = σ a := by
  intro m
  induction m with
  | zero => intro x1 x2 x3 σ h; cases h
  | succ m ih =>
    intro x1 x2 x3 σ h
    exact wb_X7_dearest_46 (fun x1 x2 x3 σ h => ih x1 x2 x3 σ h) h
theorem w_X7_dearest {n : Nat} {p1 : Int} {p2 : Int} {σ σr : am_Mem} {rr : Int} (h : f_X7_dearest n p1 p2 σ = some (rr, σr)) : ∀ a : Nat, nw_X7_dearest a → σr a = σ a := by
  unfold f_X7_dearest at h
  have fr : ∀ a : Nat, nw_X7_dearest a → σ a = σ a := fun _ _ => rfl
  obtain ⟨r2, σ3, e1, h⟩ := ab_2 h
  have fr := fun (a : Nat) (ha : nw_X7_dearest a) => (congrFun (u_X7_isTown e1) a).trans (fr a ha)
  rcases ab_i h with ⟨c4, h⟩ | ⟨c4, h⟩
  · obtain ⟨q1, q2⟩ := ab_r2 h
    exact fun a ha => (congrFun q2.symm a).trans (fr a ha)
  · obtain ⟨r6, σ7, e5, h⟩ := ab_2 h
    have fr := fun (a : Nat) (ha : nw_X7_dearest a) => (congrFun (u_X7_in e5) a).trans (fr a ha)
    rcases ab_i h with ⟨c8, h⟩ | ⟨c8, h⟩
    · obtain ⟨q1, q2⟩ := ab_r2 h
      exact fun a ha => (congrFun q2.symm a).trans (fr a ha)
    · obtain ⟨r10, σ11, e9, h⟩ := ab_2 h
      have fr := fun (a : Nat) (ha : nw_X7_dearest a) => (congrFun (u_X7_in e9) a).trans (fr a ha)
      rcases ab_i h with ⟨c12, h⟩ | ⟨c12, h⟩
      · obtain ⟨q1, q2⟩ := ab_r2 h
        exact fun a ha => (congrFun q2.symm a).trans (fr a ha)
      · obtain ⟨σ15, e13, h⟩ := ab_1 h
        have fr := fun (a : Nat) (ha : nw_X7_dearest a) => (w_X7_begins e13 a (by unfold nw_X7_dearest at ha; unfold nw_X7_begins; omega)).trans (fr a ha)
        obtain ⟨σ16, e17, h⟩ := ab_1 h
        have fr := fun (a : Nat) (ha : nw_X7_dearest a) => (ab_fu e17 (show a ≠ 75 by unfold nw_X7_dearest at ha; omega)).trans (fr a ha)
        exact fun a ha => (wl_X7_dearest_46 n _ _ _ _ h a ha).trans (fr a ha)
/-! MoodFareModel.moods -/
def fb_X7_moods_72 (n : Nat) (kh30 : Int → Int → Int → Int → am_Mem → Option (Int × am_Mem)) (x1 : Int) (x2 : Int) (s0 : Int) (s1 : Int) (σ : am_Mem) : Option (Int × am_Mem) :=
  if x2 ≤ 0 then (kh30 x1 x2 (am_or s1 s0) 0 σ) else (am_b2 (f_X7_goesOn n x2 σ) fun r18 σ19 => if r18 = 0 then (kh30 x1 x2 (am_or s1 s0) 0 σ19) else (kh30 x1 x2 (am_or s1 s0) 1 σ19))
def fb_X7_moods_30 (n : Nat) (kh30 : Int → Int → Int → Int → am_Mem → Option (Int × am_Mem)) (x1 : Int) (x2 : Int) (x3 : Int) (x4 : Int) (σ : am_Mem) : Option (Int × am_Mem) :=
  if x4 = 0 then (some (x3, σ)) else (if σ 75 20 = x2 then (if (0 : Int) ≤ σ 75 20 ∧ σ 75 20 < 9 then if σ 89 (σ 75 20) = x1 then (fb_X7_moods_72 n kh30 x1 x2 (am_shl 1 (σ 90 (σ 75 20))) x3 σ) else (fb_X7_moods_72 n kh30 x1 x2 0 x3 σ) else none) else (fb_X7_moods_72 n kh30 x1 x2 0 x3 σ))
def fl_X7_moods_30 (n : Nat) : Nat → Int → Int → Int → Int → am_Mem → Option (Int × am_Mem)
  | 0, _, _, _, _, _ => none
  | m + 1, x1, x2, x3, x4, σ => fb_X7_moods_30 n (fun yx1 yx2 yx3 yx4 σ => fl_X7_moods_30 n m yx1 yx2 yx3 yx4 σ) x1 x2 x3 x4 σ
def f_X7_moods (n : Nat) (p1 : Int) (p2 : Int) (σ : am_Mem) : Option (Int × am_Mem) :=
  am_b2 (f_X7_isCorner n p1 σ) fun r2 σ3 => if r2 = 0 then (some ((-1000001), σ3)) else (am_b2 (f_X7_in n p2 0 8 σ3) fun r6 σ7 => if r6 = 0 then (some ((-1000001), σ7)) else (am_b1 (f_X7_begins n σ7) fun σ11 => fl_X7_moods_30 n n p1 p2 0 1 σ11))
theorem tb_X7_moods_72 {L n d : Nat} {Q : am_Post} {kh30 : Int → Int → Int → Int → am_Mem → Option (Int × am_Mem)} {x1 : Int} {x2 : Int} {s0 : Int} {s1 : Int} {o3 : Int} {o4 : Int} {σ σr : am_Mem} {rr : Int} (hd : 4 ≤ d) (hk30 : ∀ (y1 : Int) (y2 : Int) (y3 : Int) (y4 : Int) (σ : am_Mem), kh30 y1 y2 y3 y4 σ = some (rr, σr) → xs_AW (xs_aw d) me_X7_moods Q 30 [some (am_r 75), some (am_i y1), some (am_i y2), some (am_i y3), some (am_i y4)] [] (rm_h L σ)) (hQ : Q (some (am_i rr)) (rm_h L σr)) (h : fb_X7_moods_72 n kh30 x1 x2 s0 s1 σ = some (rr, σr)) : xs_AW (xs_aw d) me_X7_moods Q 72 [some (am_r 75), some (am_i x1), some (am_i x2), some (am_i o3), some (am_i o4)] [am_i s0, am_i s1] (rm_h L σ) := by
  unfold fb_X7_moods_72 at h
  refine rr_ior dX7_moods_72 ?_
  refine rr_istore_n (ls' := [some (am_r 75), some (am_i x1), some (am_i x2), some (am_i (am_or s1 s0)), some (am_i o4)]) dX7_moods_73 (Nat.le_of_ble_eq_true rfl) rfl ?_
  refine rr_iload_n dX7_moods_74 rfl ?_
  rcases ab_i h with ⟨c16, h⟩ | ⟨c16, h⟩
  · refine rr_if_le_p (t := 90) dX7_moods_75 (by decide) c16 ?_
    refine rr_iconst dX7_moods_90 (by decide) ?_
    refine rr_istore (ls' := [some (am_r 75), some (am_i x1), some (am_i x2), some (am_i (am_or s1 s0)), some (am_i 0)]) dX7_moods_91 (Nat.le_of_ble_eq_true rfl) rfl ?_
    refine rr_goto (t := 30) dX7_moods_93 (by decide) ?_
    exact hk30 _ _ _ _ _ h
  · refine rr_if_le_n (t := 90) dX7_moods_75 (by decide) c16 ?_
    refine rr_aload_n dX7_moods_78 rfl ?_
    refine rr_iload_n dX7_moods_79 rfl ?_
    obtain ⟨r18, σ19, e17, h⟩ := ab_2 h
    refine rr_Vi (as := [am_i x2]) (rest := []) dX7_moods_80 ml_7_219 (sh_75 L) ⟨(by decide), by decide, by decide⟩ rfl rfl rfl (Nat.le_of_ble_eq_true rfl) ⟨rfl, rfl⟩ (Nat.le_of_ble_eq_true rfl) (fun _ k => t_X7_goesOn (by omega) e17 k) ?_
    rcases ab_i h with ⟨c20, h⟩ | ⟨c20, h⟩
    · refine rr_if_eq_p (t := 90) dX7_moods_83 (by decide) c20 ?_
      refine rr_iconst dX7_moods_90 (by decide) ?_
      refine rr_istore (ls' := [some (am_r 75), some (am_i x1), some (am_i x2), some (am_i (am_or s1 s0)), some (am_i 0)]) dX7_moods_91 (Nat.le_of_ble_eq_true rfl) rfl ?_
      refine rr_goto (t := 30) dX7_moods_93 (by decide) ?_
      exact hk30 _ _ _ _ _ h
    · refine rr_if_eq_n (t := 90) dX7_moods_83 (by decide) c20 ?_
      refine rr_iconst dX7_moods_86 (by decide) ?_
      refine rr_goto (t := 91) dX7_moods_87 (by decide) ?_
      refine rr_istore (ls' := [some (am_r 75), some (am_i x1), some (am_i x2), some (am_i (am_or s1 s0)), some (am_i 1)]) dX7_moods_91 (Nat.le_of_ble_eq_true rfl) rfl ?_
      refine rr_goto (t := 30) dX7_moods_93 (by decide) ?_
      exact hk30 _ _ _ _ _ h
theorem tb_X7_moods_30 {L n d : Nat} {Q : am_Post} {kh30 : Int → Int → Int → Int → am_Mem → Option (Int × am_Mem)} {x1 : Int} {x2 : Int} {x3 : Int} {x4 : Int} {σ σr : am_Mem} {rr : Int} (hd : 4 ≤ d) (hk30 : ∀ (y1 : Int) (y2 : Int) (y3 : Int) (y4 : Int) (σ : am_Mem), kh30 y1 y2 y3 y4 σ = some (rr, σr) → xs_AW (xs_aw d) me_X7_moods Q 30 [some (am_r 75), some (am_i y1), some (am_i y2), some (am_i y3), some (am_i y4)] [] (rm_h L σ)) (hQ : Q (some (am_i rr)) (rm_h L σr)) (h : fb_X7_moods_30 n kh30 x1 x2 x3 x4 σ = some (rr, σr)) : xs_AW (xs_aw d) me_X7_moods Q 30 [some (am_r 75), some (am_i x1), some (am_i x2), some (am_i x3), some (am_i x4)] [] (rm_h L σ) := by
  unfold fb_X7_moods_30 at h
  refine rr_iload dX7_moods_30 rfl ?_
  rcases ab_i h with ⟨c12, h⟩ | ⟨c12, h⟩
  · refine rr_if_eq_p (t := 96) dX7_moods_32 (by decide) c12 ?_
    refine rr_iload_n dX7_moods_96 rfl ?_
    obtain ⟨rfl, rfl⟩ := ab_r2 h
    exact rr_iret dX7_moods_97 rfl hQ
  · refine rr_if_eq_n (t := 96) dX7_moods_32 (by decide) c12 ?_
    refine rr_iload_n dX7_moods_35 rfl ?_
    refine rr_aload_n dX7_moods_36 rfl ?_
    refine rr_geti (kz := 20) dX7_moods_37 fl_7_197 (sh_75 L) ⟨(by decide), by decide⟩ rfl rfl ?_
    refine rr_iload_n dX7_moods_40 rfl ?_
    rcases ab_i h with ⟨c13, h⟩ | ⟨c13, h⟩
    · refine rr_icmp_ne_p (t := 71) dX7_moods_41 (by decide) c13 ?_
      refine rr_aload_n dX7_moods_44 rfl ?_
      refine rr_getr (t := 89) dX7_moods_45 fl_7_50 (sh_75 L) ⟨(by decide), by decide⟩ rfl rfl ?_
      refine rr_aload_n dX7_moods_48 rfl ?_
      refine rr_geti (kz := 20) dX7_moods_49 fl_7_197 (sh_75 L) ⟨(by decide), by decide⟩ rfl rfl ?_
      obtain ⟨g14, h⟩ := ab_g h
      refine rr_iald (nz := 9) dX7_moods_52 (sh_89 L) rfl g14 ?_
      refine rr_iload_n dX7_moods_53 rfl ?_
      rcases ab_i h with ⟨c15, h⟩ | ⟨c15, h⟩
      · refine rr_icmp_ne_p (t := 71) dX7_moods_54 (by decide) c15 ?_
        refine rr_iconst dX7_moods_57 (by decide) ?_
        refine rr_aload_n dX7_moods_58 rfl ?_
        refine rr_getr (t := 90) dX7_moods_59 fl_7_53 (sh_75 L) ⟨(by decide), by decide⟩ rfl rfl ?_
        refine rr_aload_n dX7_moods_62 rfl ?_
        refine rr_geti (kz := 20) dX7_moods_63 fl_7_197 (sh_75 L) ⟨(by decide), by decide⟩ rfl rfl ?_
        refine rr_iald (nz := 9) dX7_moods_66 (sh_90 L) rfl g14 ?_
        refine rr_ishl dX7_moods_67 ?_
        refine rr_goto (t := 72) dX7_moods_68 (by decide) ?_
        exact tb_X7_moods_72 hd hk30 hQ h
      · refine rr_icmp_ne_n (t := 71) dX7_moods_54 (by decide) c15 ?_
        refine rr_iconst dX7_moods_71 (by decide) ?_
        exact tb_X7_moods_72 hd hk30 hQ h
    · refine rr_icmp_ne_n (t := 71) dX7_moods_41 (by decide) c13 ?_
      refine rr_iconst dX7_moods_71 (by decide) ?_
      exact tb_X7_moods_72 hd hk30 hQ h
theorem tl_X7_moods_30 {L n d : Nat} {Q : am_Post} {σr : am_Mem} {rr : Int} (hd : 4 ≤ d) (hQ : Q (some (am_i rr)) (rm_h L σr)) : ∀ (m : Nat) (x1 : Int) (x2 : Int) (x3 : Int) (x4 : Int) (σ : am_Mem), fl_X7_moods_30 n m x1 x2 x3 x4 σ = some (rr, σr) → xs_AW (xs_aw d) me_X7_moods Q 30 [some (am_r 75), some (am_i x1), some (am_i x2), some (am_i x3), some (am_i x4)] [] (rm_h L σ) := by
  intro m
  induction m with
  | zero => intro x1 x2 x3 x4 σ h; cases h
  | succ m ih =>
    intro x1 x2 x3 x4 σ h
    exact tb_X7_moods_30 hd (fun x1 x2 x3 x4 σ h => ih x1 x2 x3 x4 σ h) hQ h
theorem t_X7_moods {L n d : Nat} {Q : am_Post} {p1 : Int} {p2 : Int} {σ σr : am_Mem} {rr : Int} (hd : 4 < d) (h : f_X7_moods n p1 p2 σ = some (rr, σr)) (hQ : Q (some (am_i rr)) (rm_h L σr)) : xs_aw d me_X7_moods [am_r 75, am_i p1, am_i p2] (rm_h L σ) Q := by
  obtain ⟨d, rfl⟩ : ∃ k, d = k + 1 := ⟨d - 1, by omega⟩
  have hd : 4 ≤ d := by omega
  unfold f_X7_moods at h
  show xs_AW (xs_aw d) me_X7_moods Q 0 [some (am_r 75), some (am_i p1), some (am_i p2), none, none] [] (rm_h L σ)
  refine rr_aload_n dX7_moods_0 rfl ?_
  refine rr_iload_n dX7_moods_1 rfl ?_
  obtain ⟨r2, σ3, e1, h⟩ := ab_2 h
  refine rr_Vi (as := [am_i p1]) (rest := []) dX7_moods_2 ml_7_188 (sh_75 L) ⟨(by decide), by decide, by decide⟩ rfl rfl rfl (Nat.le_of_ble_eq_true rfl) ⟨rfl, rfl⟩ (Nat.le_of_ble_eq_true rfl) (fun _ k => t_X7_isCorner (by omega) e1 k) ?_
  rcases ab_i h with ⟨c4, h⟩ | ⟨c4, h⟩
  · refine rr_if_eq_p (t := 18) dX7_moods_5 (by decide) c4 ?_
    refine rr_ldc dX7_moods_18 cs_7_79 ?_
    obtain ⟨rfl, rfl⟩ := ab_r2 h
    exact rr_iret dX7_moods_20 rfl hQ
  · refine rr_if_eq_n (t := 18) dX7_moods_5 (by decide) c4 ?_
    refine rr_iload_n dX7_moods_8 rfl ?_
    refine rr_iconst dX7_moods_9 (by decide) ?_
    refine rr_bipush dX7_moods_10 (by decide) ?_
    obtain ⟨r6, σ7, e5, h⟩ := ab_2 h
    refine rr_Si (as := [am_i p2, am_i 0, am_i 8]) (rest := []) dX7_moods_12 ml_7_71 (Or.inl rfl) rfl rfl (Nat.le_of_ble_eq_true rfl) ⟨rfl, rfl⟩ (Nat.le_of_ble_eq_true rfl) (fun _ k => t_X7_in (by omega) e5 k) ?_
    rcases ab_i h with ⟨c8, h⟩ | ⟨c8, h⟩
    · refine rr_if_ne_p (t := 21) dX7_moods_15 (by decide) c8 ?_
      refine rr_ldc dX7_moods_18 cs_7_79 ?_
      obtain ⟨rfl, rfl⟩ := ab_r2 h
      exact rr_iret dX7_moods_20 rfl hQ
    · refine rr_if_ne_n (t := 21) dX7_moods_15 (by decide) c8 ?_
      refine rr_aload_n dX7_moods_21 rfl ?_
      obtain ⟨σ11, e9, h⟩ := ab_1 h
      refine rr_Vv (as := []) (rest := []) dX7_moods_22 ml_7_213 (sh_75 L) ⟨(by decide), by decide, by decide⟩ rfl rfl rfl (Nat.le_of_ble_eq_true rfl) ⟨rfl, rfl⟩ (Nat.le_of_ble_eq_true rfl) (fun _ k => t_X7_begins (by omega) e9 k) ?_
      refine rr_iconst dX7_moods_25 (by decide) ?_
      refine rr_istore_n (ls' := [some (am_r 75), some (am_i p1), some (am_i p2), some (am_i 0), none]) dX7_moods_26 (Nat.le_of_ble_eq_true rfl) rfl ?_
      refine rr_iconst dX7_moods_27 (by decide) ?_
      refine rr_istore (ls' := [some (am_r 75), some (am_i p1), some (am_i p2), some (am_i 0), some (am_i 1)]) dX7_moods_28 (Nat.le_of_ble_eq_true rfl) rfl ?_
      exact tl_X7_moods_30 hd hQ n _ _ _ _ _ h
def nw_X7_moods (a : Nat) : Prop := a ≠ 75 ∧ a ≠ 83 ∧ a ≠ 87 ∧ a ≠ 88 ∧ a ≠ 89 ∧ a ≠ 90 ∧ a ≠ 91
theorem wb_X7_moods_72 {n : Nat} {kh30 : Int → Int → Int → Int → am_Mem → Option (Int × am_Mem)} {x1 : Int} {x2 : Int} {s0 : Int} {s1 : Int} {σ σr : am_Mem} {rr : Int} (hk30 : ∀ (y1 : Int) (y2 : Int) (y3 : Int) (y4 : Int) (σ : am_Mem), kh30 y1 y2 y3 y4 σ = some (rr, σr) → ∀ a : Nat, nw_X7_moods a → σr a = σ a) (h : fb_X7_moods_72 n kh30 x1 x2 s0 s1 σ = some (rr, σr)) : ∀ a : Nat, nw_X7_moods a → σr a = σ a := by
  unfold fb_X7_moods_72 at h
  have fr : ∀ a : Nat, nw_X7_moods a → σ a = σ a := fun _ _ => rfl
  rcases ab_i h with ⟨c16, h⟩ | ⟨c16, h⟩
  · exact fun a ha => (hk30 _ _ _ _ _ h a ha).trans (fr a ha)
  · obtain ⟨r18, σ19, e17, h⟩ := ab_2 h
    have fr := fun (a : Nat) (ha : nw_X7_moods a) => (w_X7_goesOn e17 a (by unfold nw_X7_moods at ha; unfold nw_X7_goesOn; omega)).trans (fr a ha)
    rcases ab_i h with ⟨c20, h⟩ | ⟨c20, h⟩
    · exact fun a ha => (hk30 _ _ _ _ _ h a ha).trans (fr a ha)
    · exact fun a ha => (hk30 _ _ _ _ _ h a ha).trans (fr a ha)
theorem wb_X7_moods_30 {n : Nat} {kh30 : Int → Int → Int → Int → am_Mem → Option (Int × am_Mem)} {x1 : Int} {x2 : Int} {x3 : Int} {x4 : Int} {σ σr : am_Mem} {rr : Int} (hk30 : ∀ (y1 : Int) (y2 : Int) (y3 : Int) (y4 : Int) (σ : am_Mem), kh30 y1 y2 y3 y4 σ = some (rr, σr) → ∀ a : Nat, nw_X7_moods a → σr a = σ a) (h : fb_X7_moods_30 n kh30 x1 x2 x3 x4 σ = some (rr, σr)) : ∀ a : Nat, nw_X7_moods a → σr a = σ a := by
  unfold fb_X7_moods_30 at h
  have fr : ∀ a : Nat, nw_X7_moods a → σ a = σ a := fun _ _ => rfl
  rcases ab_i h with ⟨c12, h⟩ | ⟨c12, h⟩
  · obtain ⟨q1, q2⟩ := ab_r2 h
    exact fun a ha => (congrFun q2.symm a).trans (fr a ha)
  · rcases ab_i h with ⟨c13, h⟩ | ⟨c13, h⟩
    · obtain ⟨g14, h⟩ := ab_g h
      rcases ab_i h with ⟨c15, h⟩ | ⟨c15, h⟩
      · exact fun a ha => (wb_X7_moods_72 hk30 h a ha).trans (fr a ha)
      · exact fun a ha => (wb_X7_moods_72 hk30 h a ha).trans (fr a ha)
    · exact fun a ha => (wb_X7_moods_72 hk30 h a ha).trans (fr a ha)
theorem wl_X7_moods_30 {n : Nat} {σr : am_Mem} {rr : Int} : ∀ (m : Nat) (x1 : Int) (x2 : Int) (x3 : Int) (x4 : Int) (σ : am_Mem), fl_X7_moods_30 n m x1 x2 x3 x4 σ = some (rr, σr) → ∀ a : Nat, nw_X7_moods a → σr a = σ a := by
  intro m
  induction m with
  | zero => intro x1 x2 x3 x4 σ h; cases h
  | succ m ih =>
    intro x1 x2 x3 x4 σ h
    exact wb_X7_moods_30 (fun x1 x2 x3 x4 σ h => ih x1 x2 x3 x4 σ h) h
theorem w_X7_moods {n : Nat} {p1 : Int} {p2 : Int} {σ σr : am_Mem} {rr : Int} (h : f_X7_moods n p1 p2 σ = some (rr, σr)) : ∀ a : Nat, nw_X7_moods a → σr a = σ a := by
  unfold f_X7_moods at h
  have fr : ∀ a : Nat, nw_X7_moods a → σ a = σ a := fun _ _ => rfl
  obtain ⟨r2, σ3, e1, h⟩ := ab_2 h
  have fr := fun (a : Nat) (ha : nw_X7_moods a) => (congrFun (u_X7_isCorner e1) a).trans (fr a ha)
  rcases ab_i h with ⟨c4, h⟩ | ⟨c4, h⟩
  · obtain ⟨q1, q2⟩ := ab_r2 h
    exact fun a ha => (congrFun q2.symm a).trans (fr a ha)
  · obtain ⟨r6, σ7, e5, h⟩ := ab_2 h
    have fr := fun (a : Nat) (ha : nw_X7_moods a) => (congrFun (u_X7_in e5) a).trans (fr a ha)
    rcases ab_i h with ⟨c8, h⟩ | ⟨c8, h⟩
    · obtain ⟨q1, q2⟩ := ab_r2 h
      exact fun a ha => (congrFun q2.symm a).trans (fr a ha)
    · obtain ⟨σ11, e9, h⟩ := ab_1 h
      have fr := fun (a : Nat) (ha : nw_X7_moods a) => (w_X7_begins e9 a (by unfold nw_X7_moods at ha; unfold nw_X7_begins; omega)).trans (fr a ha)
      exact fun a ha => (wl_X7_moods_30 n _ _ _ _ _ h a ha).trans (fr a ha)
/-! MoodFareModel.gets -/
def fb_X7_gets_45 (n : Nat) (kh45 : Int → Int → Int → am_Mem → Option (Int × am_Mem)) (x1 : Int) (x2 : Int) (x3 : Int) (σ : am_Mem) : Option (Int × am_Mem) :=
  if x3 = 0 then (if σ 75 27 = (-1000000) then (some ((-1000000), σ)) else (if x2 = (-1) then (some (σ 75 28, σ)) else (if x2 < σ 75 28 then (if (0 : Int) ≤ x2 ∧ x2 < 8 then some (σ 92 x2, σ) else none) else (some ((-1000000), σ))))) else (if (0 : Int) ≤ σ 75 20 ∧ σ 75 20 < 9 then if σ 90 (σ 75 20) = x1 then (if σ 75 27 = (-1000000) then (am_b1 (f_X7_keeps n (σ 75 20) σ) fun σ28 => am_b2 (f_X7_goesOn n 8 σ28) fun r30 σ31 => kh45 x1 x2 r30 σ31) else (if σ 75 20 < σ 75 28 then (am_b1 (f_X7_keeps n (σ 75 20) σ) fun σ35 => am_b2 (f_X7_goesOn n 8 σ35) fun r37 σ38 => kh45 x1 x2 r37 σ38) else (am_b2 (f_X7_goesOn n 8 σ) fun r40 σ41 => kh45 x1 x2 r40 σ41))) else (am_b2 (f_X7_goesOn n 8 σ) fun r43 σ44 => kh45 x1 x2 r43 σ44) else none)
def fl_X7_gets_45 (n : Nat) : Nat → Int → Int → Int → am_Mem → Option (Int × am_Mem)
  | 0, _, _, _, _ => none
  | m + 1, x1, x2, x3, σ => fb_X7_gets_45 n (fun yx1 yx2 yx3 σ => fl_X7_gets_45 n m yx1 yx2 yx3 σ) x1 x2 x3 σ
def f_X7_gets (n : Nat) (p1 : Int) (p2 : Int) (σ : am_Mem) : Option (Int × am_Mem) :=
  am_b2 (f_X7_isTown n σ) fun r2 σ3 => if r2 = 0 then (some ((-1000002), σ3)) else (am_b2 (f_X7_in n p1 0 9 σ3) fun r6 σ7 => if r6 = 0 then (some ((-1000001), σ7)) else (am_b2 (f_X7_in n p2 (-1) 7 σ7) fun r10 σ11 => if r10 = 0 then (some ((-1000001), σ11)) else (am_b1 (f_X7_begins n σ11) fun σ15 => am_b1 (some (am_up σ15 75 27 (-1000000))) fun σ16 => fl_X7_gets_45 n n p1 p2 1 σ16)))
theorem tb_X7_gets_45 {L n d : Nat} {Q : am_Post} {kh45 : Int → Int → Int → am_Mem → Option (Int × am_Mem)} {x1 : Int} {x2 : Int} {x3 : Int} {σ σr : am_Mem} {rr : Int} (hd : 4 ≤ d) (hk45 : ∀ (y1 : Int) (y2 : Int) (y3 : Int) (σ : am_Mem), kh45 y1 y2 y3 σ = some (rr, σr) → xs_AW (xs_aw d) me_X7_gets Q 45 [some (am_r 75), some (am_i y1), some (am_i y2), some (am_i y3)] [] (rm_h L σ)) (hQ : Q (some (am_i rr)) (rm_h L σr)) (h : fb_X7_gets_45 n kh45 x1 x2 x3 σ = some (rr, σr)) : xs_AW (xs_aw d) me_X7_gets Q 45 [some (am_r 75), some (am_i x1), some (am_i x2), some (am_i x3)] [] (rm_h L σ) := by
  unfold fb_X7_gets_45 at h
  refine rr_iload_n dX7_gets_45 rfl ?_
  rcases ab_i h with ⟨c18, h⟩ | ⟨c18, h⟩
  · refine rr_if_eq_p (t := 100) dX7_gets_46 (by decide) c18 ?_
    refine rr_aload_n dX7_gets_100 rfl ?_
    refine rr_geti (kz := 27) dX7_gets_101 fl_7_204 (sh_75 L) ⟨(by decide), by decide⟩ rfl rfl ?_
    refine rr_ldc dX7_gets_104 cs_7_65 ?_
    rcases ab_i h with ⟨c19, h⟩ | ⟨c19, h⟩
    · refine rr_icmp_ne_p (t := 114) dX7_gets_106 (by decide) c19 ?_
      refine rr_ldc dX7_gets_109 cs_7_65 ?_
      refine rr_goto (t := 145) dX7_gets_111 (by decide) ?_
      obtain ⟨rfl, rfl⟩ := ab_r2 h
      exact rr_iret dX7_gets_145 rfl hQ
    · refine rr_icmp_ne_n (t := 114) dX7_gets_106 (by decide) c19 ?_
      refine rr_iload_n dX7_gets_114 rfl ?_
      refine rr_iconst dX7_gets_115 (by decide) ?_
      rcases ab_i h with ⟨c20, h⟩ | ⟨c20, h⟩
      · refine rr_icmp_ne_p (t := 126) dX7_gets_116 (by decide) c20 ?_
        refine rr_aload_n dX7_gets_119 rfl ?_
        refine rr_geti (kz := 28) dX7_gets_120 fl_7_207 (sh_75 L) ⟨(by decide), by decide⟩ rfl rfl ?_
        refine rr_goto (t := 145) dX7_gets_123 (by decide) ?_
        obtain ⟨rfl, rfl⟩ := ab_r2 h
        exact rr_iret dX7_gets_145 rfl hQ
      · refine rr_icmp_ne_n (t := 126) dX7_gets_116 (by decide) c20 ?_
        refine rr_iload_n dX7_gets_126 rfl ?_
        refine rr_aload_n dX7_gets_127 rfl ?_
        refine rr_geti (kz := 28) dX7_gets_128 fl_7_207 (sh_75 L) ⟨(by decide), by decide⟩ rfl rfl ?_
        rcases ab_i h with ⟨c21, h⟩ | ⟨c21, h⟩
        · refine rr_icmp_ge_p (t := 143) dX7_gets_131 (by decide) c21 ?_
          refine rr_aload_n dX7_gets_134 rfl ?_
          refine rr_getr (t := 92) dX7_gets_135 fl_7_59 (sh_75 L) ⟨(by decide), by decide⟩ rfl rfl ?_
          refine rr_iload_n dX7_gets_138 rfl ?_
          obtain ⟨g22, h⟩ := ab_g h
          refine rr_iald (nz := 8) dX7_gets_139 (sh_92 L) rfl g22 ?_
          refine rr_goto (t := 145) dX7_gets_140 (by decide) ?_
          obtain ⟨rfl, rfl⟩ := ab_r2 h
          exact rr_iret dX7_gets_145 rfl hQ
        · refine rr_icmp_ge_n (t := 143) dX7_gets_131 (by decide) c21 ?_
          refine rr_ldc dX7_gets_143 cs_7_65 ?_
          obtain ⟨rfl, rfl⟩ := ab_r2 h
          exact rr_iret dX7_gets_145 rfl hQ
  · refine rr_if_eq_n (t := 100) dX7_gets_46 (by decide) c18 ?_
    refine rr_aload_n dX7_gets_49 rfl ?_
    refine rr_getr (t := 90) dX7_gets_50 fl_7_53 (sh_75 L) ⟨(by decide), by decide⟩ rfl rfl ?_
    refine rr_aload_n dX7_gets_53 rfl ?_
    refine rr_geti (kz := 20) dX7_gets_54 fl_7_197 (sh_75 L) ⟨(by decide), by decide⟩ rfl rfl ?_
    obtain ⟨g23, h⟩ := ab_g h
    refine rr_iald (nz := 9) dX7_gets_57 (sh_90 L) rfl g23 ?_
    refine rr_iload_n dX7_gets_58 rfl ?_
    rcases ab_i h with ⟨c24, h⟩ | ⟨c24, h⟩
    · refine rr_icmp_ne_p (t := 90) dX7_gets_59 (by decide) c24 ?_
      refine rr_aload_n dX7_gets_62 rfl ?_
      refine rr_geti (kz := 27) dX7_gets_63 fl_7_204 (sh_75 L) ⟨(by decide), by decide⟩ rfl rfl ?_
      refine rr_ldc dX7_gets_66 cs_7_65 ?_
      rcases ab_i h with ⟨c25, h⟩ | ⟨c25, h⟩
      · refine rr_icmp_eq_p (t := 82) dX7_gets_68 (by decide) c25 ?_
        refine rr_aload_n dX7_gets_82 rfl ?_
        refine rr_aload_n dX7_gets_83 rfl ?_
        refine rr_geti (kz := 20) dX7_gets_84 fl_7_197 (sh_75 L) ⟨(by decide), by decide⟩ rfl rfl ?_
        obtain ⟨σ28, e26, h⟩ := ab_1 h
        refine rr_Vv (as := [am_i (σ 75 20)]) (rest := []) dX7_gets_87 ml_7_216 (sh_75 L) ⟨(by decide), by decide, by decide⟩ rfl rfl rfl (Nat.le_of_ble_eq_true rfl) ⟨rfl, rfl⟩ (Nat.le_of_ble_eq_true rfl) (fun _ k => t_X7_keeps (by omega) e26 k) ?_
        refine rr_aload_n dX7_gets_90 rfl ?_
        refine rr_bipush dX7_gets_91 (by decide) ?_
        obtain ⟨r30, σ31, e29, h⟩ := ab_2 h
        refine rr_Vi (as := [am_i 8]) (rest := []) dX7_gets_93 ml_7_219 (sh_75 L) ⟨(by decide), by decide, by decide⟩ rfl rfl rfl (Nat.le_of_ble_eq_true rfl) ⟨rfl, rfl⟩ (Nat.le_of_ble_eq_true rfl) (fun _ k => t_X7_goesOn (by omega) e29 k) ?_
        refine rr_istore_n (ls' := [some (am_r 75), some (am_i x1), some (am_i x2), some (am_i r30)]) dX7_gets_96 (Nat.le_of_ble_eq_true rfl) rfl ?_
        refine rr_goto (t := 45) dX7_gets_97 (by decide) ?_
        exact hk45 _ _ _ _ h
      · refine rr_icmp_eq_n (t := 82) dX7_gets_68 (by decide) c25 ?_
        refine rr_aload_n dX7_gets_71 rfl ?_
        refine rr_geti (kz := 20) dX7_gets_72 fl_7_197 (sh_75 L) ⟨(by decide), by decide⟩ rfl rfl ?_
        refine rr_aload_n dX7_gets_75 rfl ?_
        refine rr_geti (kz := 28) dX7_gets_76 fl_7_207 (sh_75 L) ⟨(by decide), by decide⟩ rfl rfl ?_
        rcases ab_i h with ⟨c32, h⟩ | ⟨c32, h⟩
        · refine rr_icmp_ge_p (t := 90) dX7_gets_79 (by decide) c32 ?_
          refine rr_aload_n dX7_gets_82 rfl ?_
          refine rr_aload_n dX7_gets_83 rfl ?_
          refine rr_geti (kz := 20) dX7_gets_84 fl_7_197 (sh_75 L) ⟨(by decide), by decide⟩ rfl rfl ?_
          obtain ⟨σ35, e33, h⟩ := ab_1 h
          refine rr_Vv (as := [am_i (σ 75 20)]) (rest := []) dX7_gets_87 ml_7_216 (sh_75 L) ⟨(by decide), by decide, by decide⟩ rfl rfl rfl (Nat.le_of_ble_eq_true rfl) ⟨rfl, rfl⟩ (Nat.le_of_ble_eq_true rfl) (fun _ k => t_X7_keeps (by omega) e33 k) ?_
          refine rr_aload_n dX7_gets_90 rfl ?_
          refine rr_bipush dX7_gets_91 (by decide) ?_
          obtain ⟨r37, σ38, e36, h⟩ := ab_2 h
          refine rr_Vi (as := [am_i 8]) (rest := []) dX7_gets_93 ml_7_219 (sh_75 L) ⟨(by decide), by decide, by decide⟩ rfl rfl rfl (Nat.le_of_ble_eq_true rfl) ⟨rfl, rfl⟩ (Nat.le_of_ble_eq_true rfl) (fun _ k => t_X7_goesOn (by omega) e36 k) ?_
          refine rr_istore_n (ls' := [some (am_r 75), some (am_i x1), some (am_i x2), some (am_i r37)]) dX7_gets_96 (Nat.le_of_ble_eq_true rfl) rfl ?_
          refine rr_goto (t := 45) dX7_gets_97 (by decide) ?_
          exact hk45 _ _ _ _ h
        · refine rr_icmp_ge_n (t := 90) dX7_gets_79 (by decide) c32 ?_
          refine rr_aload_n dX7_gets_90 rfl ?_
          refine rr_bipush dX7_gets_91 (by decide) ?_
          obtain ⟨r40, σ41, e39, h⟩ := ab_2 h
          refine rr_Vi (as := [am_i 8]) (rest := []) dX7_gets_93 ml_7_219 (sh_75 L) ⟨(by decide), by decide, by decide⟩ rfl rfl rfl (Nat.le_of_ble_eq_true rfl) ⟨rfl, rfl⟩ (Nat.le_of_ble_eq_true rfl) (fun _ k => t_X7_goesOn (by omega) e39 k) ?_
          refine rr_istore_n (ls' := [some (am_r 75), some (am_i x1), some (am_i x2), some (am_i r40)]) dX7_gets_96 (Nat.le_of_ble_eq_true rfl) rfl ?_
          refine rr_goto (t := 45) dX7_gets_97 (by decide) ?_
          exact hk45 _ _ _ _ h
    · refine rr_icmp_ne_n (t := 90) dX7_gets_59 (by decide) c24 ?_
      refine rr_aload_n dX7_gets_90 rfl ?_
      refine rr_bipush dX7_gets_91 (by decide) ?_
      obtain ⟨r43, σ44, e42, h⟩ := ab_2 h
      refine rr_Vi (as := [am_i 8]) (rest := []) dX7_gets_93 ml_7_219 (sh_75 L) ⟨(by decide), by decide, by decide⟩ rfl rfl rfl (Nat.le_of_ble_eq_true rfl) ⟨rfl, rfl⟩ (Nat.le_of_ble_eq_true rfl) (fun _ k => t_X7_goesOn (by omega) e42 k) ?_
      refine rr_istore_n (ls' := [some (am_r 75), some (am_i x1), some (am_i x2), some (am_i r43)]) dX7_gets_96 (Nat.le_of_ble_eq_true rfl) rfl ?_
      refine rr_goto (t := 45) dX7_gets_97 (by decide) ?_
      exact hk45 _ _ _ _ h
theorem tl_X7_gets_45 {L n d : Nat} {Q : am_Post} {σr : am_Mem} {rr : Int} (hd : 4 ≤ d) (hQ : Q (some (am_i rr)) (rm_h L σr)) : ∀ (m : Nat) (x1 : Int) (x2 : Int) (x3 : Int) (σ : am_Mem), fl_X7_gets_45 n m x1 x2 x3 σ = some (rr, σr) → xs_AW (xs_aw d) me_X7_gets Q 45 [some (am_r 75), some (am_i x1), some (am_i x2), some (am_i x3)] [] (rm_h L σ) := by
  intro m
  induction m with
  | zero => intro x1 x2 x3 σ h; cases h
  | succ m ih =>
    intro x1 x2 x3 σ h
    exact tb_X7_gets_45 hd (fun x1 x2 x3 σ h => ih x1 x2 x3 σ h) hQ h
theorem t_X7_gets {L n d : Nat} {Q : am_Post} {p1 : Int} {p2 : Int} {σ σr : am_Mem} {rr : Int} (hd : 4 < d) (h : f_X7_gets n p1 p2 σ = some (rr, σr)) (hQ : Q (some (am_i rr)) (rm_h L σr)) : xs_aw d me_X7_gets [am_r 75, am_i p1, am_i p2] (rm_h L σ) Q := by
  obtain ⟨d, rfl⟩ : ∃ k, d = k + 1 := ⟨d - 1, by omega⟩
  have hd : 4 ≤ d := by omega
  unfold f_X7_gets at h
  show xs_AW (xs_aw d) me_X7_gets Q 0 [some (am_r 75), some (am_i p1), some (am_i p2), none] [] (rm_h L σ)
  refine rr_aload_n dX7_gets_0 rfl ?_
  obtain ⟨r2, σ3, e1, h⟩ := ab_2 h
  refine rr_Vi (as := []) (rest := []) dX7_gets_1 ml_7_191 (sh_75 L) ⟨(by decide), by decide, by decide⟩ rfl rfl rfl (Nat.le_of_ble_eq_true rfl) ⟨rfl, rfl⟩ (Nat.le_of_ble_eq_true rfl) (fun _ k => t_X7_isTown (by omega) e1 k) ?_
  rcases ab_i h with ⟨c4, h⟩ | ⟨c4, h⟩
  · refine rr_if_ne_p (t := 10) dX7_gets_4 (by decide) c4 ?_
    refine rr_ldc dX7_gets_7 cs_7_180 ?_
    obtain ⟨rfl, rfl⟩ := ab_r2 h
    exact rr_iret dX7_gets_9 rfl hQ
  · refine rr_if_ne_n (t := 10) dX7_gets_4 (by decide) c4 ?_
    refine rr_iload_n dX7_gets_10 rfl ?_
    refine rr_iconst dX7_gets_11 (by decide) ?_
    refine rr_bipush dX7_gets_12 (by decide) ?_
    obtain ⟨r6, σ7, e5, h⟩ := ab_2 h
    refine rr_Si (as := [am_i p1, am_i 0, am_i 9]) (rest := []) dX7_gets_14 ml_7_71 (Or.inl rfl) rfl rfl (Nat.le_of_ble_eq_true rfl) ⟨rfl, rfl⟩ (Nat.le_of_ble_eq_true rfl) (fun _ k => t_X7_in (by omega) e5 k) ?_
    rcases ab_i h with ⟨c8, h⟩ | ⟨c8, h⟩
    · refine rr_if_eq_p (t := 30) dX7_gets_17 (by decide) c8 ?_
      refine rr_ldc dX7_gets_30 cs_7_79 ?_
      obtain ⟨rfl, rfl⟩ := ab_r2 h
      exact rr_iret dX7_gets_32 rfl hQ
    · refine rr_if_eq_n (t := 30) dX7_gets_17 (by decide) c8 ?_
      refine rr_iload_n dX7_gets_20 rfl ?_
      refine rr_iconst dX7_gets_21 (by decide) ?_
      refine rr_bipush dX7_gets_22 (by decide) ?_
      obtain ⟨r10, σ11, e9, h⟩ := ab_2 h
      refine rr_Si (as := [am_i p2, am_i (-1), am_i 7]) (rest := []) dX7_gets_24 ml_7_71 (Or.inl rfl) rfl rfl (Nat.le_of_ble_eq_true rfl) ⟨rfl, rfl⟩ (Nat.le_of_ble_eq_true rfl) (fun _ k => t_X7_in (by omega) e9 k) ?_
      rcases ab_i h with ⟨c12, h⟩ | ⟨c12, h⟩
      · refine rr_if_ne_p (t := 33) dX7_gets_27 (by decide) c12 ?_
        refine rr_ldc dX7_gets_30 cs_7_79 ?_
        obtain ⟨rfl, rfl⟩ := ab_r2 h
        exact rr_iret dX7_gets_32 rfl hQ
      · refine rr_if_ne_n (t := 33) dX7_gets_27 (by decide) c12 ?_
        refine rr_aload_n dX7_gets_33 rfl ?_
        obtain ⟨σ15, e13, h⟩ := ab_1 h
        refine rr_Vv (as := []) (rest := []) dX7_gets_34 ml_7_213 (sh_75 L) ⟨(by decide), by decide, by decide⟩ rfl rfl rfl (Nat.le_of_ble_eq_true rfl) ⟨rfl, rfl⟩ (Nat.le_of_ble_eq_true rfl) (fun _ k => t_X7_begins (by omega) e13 k) ?_
        refine rr_aload_n dX7_gets_37 rfl ?_
        refine rr_ldc dX7_gets_38 cs_7_65 ?_
        obtain ⟨σ16, e17, h⟩ := ab_1 h
        refine rr_puti (kz := 27) dX7_gets_40 fl_7_204 (sh_75 L) ⟨(by decide), by decide⟩ ⟨rfl, rfl⟩ rfl (ab_m e17 ?_)
        refine rr_iconst dX7_gets_43 (by decide) ?_
        refine rr_istore_n (ls' := [some (am_r 75), some (am_i p1), some (am_i p2), some (am_i 1)]) dX7_gets_44 (Nat.le_of_ble_eq_true rfl) rfl ?_
        exact tl_X7_gets_45 hd hQ n _ _ _ _ h
def nw_X7_gets (a : Nat) : Prop := a ≠ 75 ∧ a ≠ 83 ∧ a ≠ 87 ∧ a ≠ 88 ∧ a ≠ 89 ∧ a ≠ 90 ∧ a ≠ 91 ∧ a ≠ 92
theorem wb_X7_gets_45 {n : Nat} {kh45 : Int → Int → Int → am_Mem → Option (Int × am_Mem)} {x1 : Int} {x2 : Int} {x3 : Int} {σ σr : am_Mem} {rr : Int} (hk45 : ∀ (y1 : Int) (y2 : Int) (y3 : Int) (σ : am_Mem), kh45 y1 y2 y3 σ = some (rr, σr) → ∀ a : Nat, nw_X7_gets a → σr a = σ a) (h : fb_X7_gets_45 n kh45 x1 x2 x3 σ = some (rr, σr)) : ∀ a : Nat, nw_X7_gets a → σr a = σ a := by
  unfold fb_X7_gets_45 at h
  have fr : ∀ a : Nat, nw_X7_gets a → σ a = σ a := fun _ _ => rfl
  rcases ab_i h with ⟨c18, h⟩ | ⟨c18, h⟩
  · rcases ab_i h with ⟨c19, h⟩ | ⟨c19, h⟩
    · obtain ⟨q1, q2⟩ := ab_r2 h
      exact fun a ha => (congrFun q2.symm a).trans (fr a ha)
    · rcases ab_i h with ⟨c20, h⟩ | ⟨c20, h⟩
      · obtain ⟨q1, q2⟩ := ab_r2 h
        exact fun a ha => (congrFun q2.symm a).trans (fr a ha)
      · rcases ab_i h with ⟨c21, h⟩ | ⟨c21, h⟩
        · obtain ⟨g22, h⟩ := ab_g h
          obtain ⟨q1, q2⟩ := ab_r2 h
          exact fun a ha => (congrFun q2.symm a).trans (fr a ha)
        · obtain ⟨q1, q2⟩ := ab_r2 h
          exact fun a ha => (congrFun q2.symm a).trans (fr a ha)
  · obtain ⟨g23, h⟩ := ab_g h
    rcases ab_i h with ⟨c24, h⟩ | ⟨c24, h⟩
    · rcases ab_i h with ⟨c25, h⟩ | ⟨c25, h⟩
      · obtain ⟨σ28, e26, h⟩ := ab_1 h
        have fr := fun (a : Nat) (ha : nw_X7_gets a) => (w_X7_keeps e26 a (by unfold nw_X7_gets at ha; unfold nw_X7_keeps; omega)).trans (fr a ha)
        obtain ⟨r30, σ31, e29, h⟩ := ab_2 h
        have fr := fun (a : Nat) (ha : nw_X7_gets a) => (w_X7_goesOn e29 a (by unfold nw_X7_gets at ha; unfold nw_X7_goesOn; omega)).trans (fr a ha)
        exact fun a ha => (hk45 _ _ _ _ h a ha).trans (fr a ha)
      · rcases ab_i h with ⟨c32, h⟩ | ⟨c32, h⟩
        · obtain ⟨σ35, e33, h⟩ := ab_1 h
          have fr := fun (a : Nat) (ha : nw_X7_gets a) => (w_X7_keeps e33 a (by unfold nw_X7_gets at ha; unfold nw_X7_keeps; omega)).trans (fr a ha)
          obtain ⟨r37, σ38, e36, h⟩ := ab_2 h
          have fr := fun (a : Nat) (ha : nw_X7_gets a) => (w_X7_goesOn e36 a (by unfold nw_X7_gets at ha; unfold nw_X7_goesOn; omega)).trans (fr a ha)
          exact fun a ha => (hk45 _ _ _ _ h a ha).trans (fr a ha)
        · obtain ⟨r40, σ41, e39, h⟩ := ab_2 h
          have fr := fun (a : Nat) (ha : nw_X7_gets a) => (w_X7_goesOn e39 a (by unfold nw_X7_gets at ha; unfold nw_X7_goesOn; omega)).trans (fr a ha)
          exact fun a ha => (hk45 _ _ _ _ h a ha).trans (fr a ha)
    · obtain ⟨r43, σ44, e42, h⟩ := ab_2 h
      have fr := fun (a : Nat) (ha : nw_X7_gets a) => (w_X7_goesOn e42 a (by unfold nw_X7_gets at ha; unfold nw_X7_goesOn; omega)).trans (fr a ha)
      exact fun a ha => (hk45 _ _ _ _ h a ha).trans (fr a ha)
theorem wl_X7_gets_45 {n : Nat} {σr : am_Mem} {rr : Int} : ∀ (m : Nat) (x1 : Int) (x2 : Int) (x3 : Int) (σ : am_Mem), fl_X7_gets_45 n m x1 x2 x3 σ = some (rr, σr) → ∀ a : Nat, nw_X7_gets a → σr a = σ a := by
  intro m
  induction m with
  | zero => intro x1 x2 x3 σ h; cases h
  | succ m ih =>
    intro x1 x2 x3 σ h
    exact wb_X7_gets_45 (fun x1 x2 x3 σ h => ih x1 x2 x3 σ h) h
theorem w_X7_gets {n : Nat} {p1 : Int} {p2 : Int} {σ σr : am_Mem} {rr : Int} (h : f_X7_gets n p1 p2 σ = some (rr, σr)) : ∀ a : Nat, nw_X7_gets a → σr a = σ a := by
  unfold f_X7_gets at h
  have fr : ∀ a : Nat, nw_X7_gets a → σ a = σ a := fun _ _ => rfl
  obtain ⟨r2, σ3, e1, h⟩ := ab_2 h
  have fr := fun (a : Nat) (ha : nw_X7_gets a) => (congrFun (u_X7_isTown e1) a).trans (fr a ha)
  rcases ab_i h with ⟨c4, h⟩ | ⟨c4, h⟩
  · obtain ⟨q1, q2⟩ := ab_r2 h
    exact fun a ha => (congrFun q2.symm a).trans (fr a ha)
  · obtain ⟨r6, σ7, e5, h⟩ := ab_2 h
    have fr := fun (a : Nat) (ha : nw_X7_gets a) => (congrFun (u_X7_in e5) a).trans (fr a ha)
    rcases ab_i h with ⟨c8, h⟩ | ⟨c8, h⟩
    · obtain ⟨q1, q2⟩ := ab_r2 h
      exact fun a ha => (congrFun q2.symm a).trans (fr a ha)
    · obtain ⟨r10, σ11, e9, h⟩ := ab_2 h
      have fr := fun (a : Nat) (ha : nw_X7_gets a) => (congrFun (u_X7_in e9) a).trans (fr a ha)
      rcases ab_i h with ⟨c12, h⟩ | ⟨c12, h⟩
      · obtain ⟨q1, q2⟩ := ab_r2 h
        exact fun a ha => (congrFun q2.symm a).trans (fr a ha)
      · obtain ⟨σ15, e13, h⟩ := ab_1 h
        have fr := fun (a : Nat) (ha : nw_X7_gets a) => (w_X7_begins e13 a (by unfold nw_X7_gets at ha; unfold nw_X7_begins; omega)).trans (fr a ha)
        obtain ⟨σ16, e17, h⟩ := ab_1 h
        have fr := fun (a : Nat) (ha : nw_X7_gets a) => (ab_fu e17 (show a ≠ 75 by unfold nw_X7_gets at ha; omega)).trans (fr a ha)
        exact fun a ha => (wl_X7_gets_45 n _ _ _ _ h a ha).trans (fr a ha)
/-! MoodFareModel.goesSo -/
def fb_X7_goesSo_6 (n : Nat) (kh6 : Int → Int → Int → Int → Int → am_Mem → Option (Int × am_Mem)) (x1 : Int) (x2 : Int) (x3 : Int) (x4 : Int) (x5 : Int) (σ : am_Mem) : Option (Int × am_Mem) :=
  if x5 < x3 then (if x4 = 0 then (if x4 = 0 ∨ x4 = 1 then some (x4, σ) else none) else (if (0 : Int) ≤ am_w (x2 + x5) ∧ am_w (x2 + x5) < 320 then am_b2 (f_X7_goes n 83 42 (σ 78 (am_w (x2 + x5))) (σ 83 4) σ) fun r6 σ7 => if r6 = 0 then (kh6 x1 x2 x3 0 (am_w (x5 + 1)) σ7) else (if (0 : Int) ≤ am_w ((am_w (26 + (am_w (2 * (σ 78 (am_w (x2 + x5))))))) + 1) ∧ am_w ((am_w (26 + (am_w (2 * (σ 78 (am_w (x2 + x5))))))) + 1) < 42 then am_b2 (f_X7_cost n 83 42 (σ7 83 (am_w ((am_w (26 + (am_w (2 * (σ 78 (am_w (x2 + x5))))))) + 1))) (σ7 83 1) (σ7 83 3) σ7) fun r11 σ12 => if (0 : Int) ≤ am_w (x1 + x5) ∧ am_w (x1 + x5) < 320 then if r11 = σ12 78 (am_w (x1 + x5)) then (am_b1 (f_X7_rides n 83 42 (σ 78 (am_w (x2 + x5))) σ12) fun σ17 => kh6 x1 x2 x3 1 (am_w (x5 + 1)) σ17) else (kh6 x1 x2 x3 0 (am_w (x5 + 1)) σ12) else none else none) else none)) else (if x4 = 0 ∨ x4 = 1 then some (x4, σ) else none)
def fl_X7_goesSo_6 (n : Nat) : Nat → Int → Int → Int → Int → Int → am_Mem → Option (Int × am_Mem)
  | 0, _, _, _, _, _, _ => none
  | m + 1, x1, x2, x3, x4, x5, σ => fb_X7_goesSo_6 n (fun yx1 yx2 yx3 yx4 yx5 σ => fl_X7_goesSo_6 n m yx1 yx2 yx3 yx4 yx5 σ) x1 x2 x3 x4 x5 σ
def f_X7_goesSo (n : Nat) (p1 : Int) (p2 : Int) (p3 : Int) (σ : am_Mem) : Option (Int × am_Mem) :=
  fl_X7_goesSo_6 n n p1 p2 p3 1 0 σ
theorem tb_X7_goesSo_6 {L n d : Nat} {Q : am_Post} {kh6 : Int → Int → Int → Int → Int → am_Mem → Option (Int × am_Mem)} {x1 : Int} {x2 : Int} {x3 : Int} {x4 : Int} {x5 : Int} {o6 : Option am_V} {σ σr : am_Mem} {rr : Int} (hd : 3 ≤ d) (hk6 : ∀ (y1 : Int) (y2 : Int) (y3 : Int) (y4 : Int) (y5 : Int) (σ : am_Mem), kh6 y1 y2 y3 y4 y5 σ = some (rr, σr) → ∀ (o6 : Option am_V), xs_AW (xs_aw d) me_X7_goesSo Q 6 [some (am_r 75), some (am_i y1), some (am_i y2), some (am_i y3), some (am_i y4), some (am_i y5), o6] [] (rm_h L σ)) (hQ : Q (some (am_i rr)) (rm_h L σr)) (h : fb_X7_goesSo_6 n kh6 x1 x2 x3 x4 x5 σ = some (rr, σr)) : xs_AW (xs_aw d) me_X7_goesSo Q 6 [some (am_r 75), some (am_i x1), some (am_i x2), some (am_i x3), some (am_i x4), some (am_i x5), o6] [] (rm_h L σ) := by
  unfold fb_X7_goesSo_6 at h
  refine rr_iload dX7_goesSo_6 rfl ?_
  refine rr_iload_n dX7_goesSo_8 rfl ?_
  rcases ab_i h with ⟨c1, h⟩ | ⟨c1, h⟩
  · refine rr_icmp_ge_p (t := 118) dX7_goesSo_9 (by decide) c1 ?_
    refine rr_iload dX7_goesSo_12 rfl ?_
    rcases ab_i h with ⟨c2, h⟩ | ⟨c2, h⟩
    · refine rr_if_eq_p (t := 118) dX7_goesSo_14 (by decide) c2 ?_
      refine rr_iload dX7_goesSo_118 rfl ?_
      obtain ⟨g3, h⟩ := ab_g h
      obtain ⟨rfl, rfl⟩ := ab_r2 h
      exact rr_zret dX7_goesSo_120 rfl g3 hQ
    · refine rr_if_eq_n (t := 118) dX7_goesSo_14 (by decide) c2 ?_
      refine rr_aload_n dX7_goesSo_17 rfl ?_
      refine rr_getr (t := 78) dX7_goesSo_18 fl_7_16 (sh_75 L) ⟨(by decide), by decide⟩ rfl rfl ?_
      refine rr_iload_n dX7_goesSo_21 rfl ?_
      refine rr_iload dX7_goesSo_22 rfl ?_
      refine rr_iadd dX7_goesSo_24 ?_
      obtain ⟨g4, h⟩ := ab_g h
      refine rr_iald (nz := 320) dX7_goesSo_25 (sh_78 L) rfl g4 ?_
      refine rr_istore (ls' := [some (am_r 75), some (am_i x1), some (am_i x2), some (am_i x3), some (am_i x4), some (am_i x5), some (am_i (σ 78 (am_w (x2 + x5))))]) dX7_goesSo_26 (Nat.le_of_ble_eq_true rfl) rfl ?_
      refine rr_aload_n dX7_goesSo_28 rfl ?_
      refine rr_getr (t := 83) dX7_goesSo_29 fl_7_31 (sh_75 L) ⟨(by decide), by decide⟩ rfl rfl ?_
      refine rr_iload dX7_goesSo_32 rfl ?_
      refine rr_aload_n dX7_goesSo_34 rfl ?_
      refine rr_getr (t := 83) dX7_goesSo_35 fl_7_31 (sh_75 L) ⟨(by decide), by decide⟩ rfl rfl ?_
      refine rr_iconst dX7_goesSo_38 (by decide) ?_
      refine rr_iald (nz := 42) dX7_goesSo_39 (sh_83 L) rfl ⟨by decide, by decide⟩ ?_
      obtain ⟨r6, σ7, e5, h⟩ := ab_2 h
      refine rr_Si (as := [am_r 83, am_i (σ 78 (am_w (x2 + x5))), am_i (σ 83 4)]) (rest := []) dX7_goesSo_40 ml_7_176 (Or.inl rfl) rfl rfl (Nat.le_of_ble_eq_true rfl) ⟨rfl, rfl⟩ (Nat.le_of_ble_eq_true rfl) (fun _ k => t_X7_goes (by omega) (sh_83 L) (by decide) e5 k) ?_
      rcases ab_i h with ⟨c8, h⟩ | ⟨c8, h⟩
      · refine rr_if_eq_p (t := 95) dX7_goesSo_43 (by decide) c8 ?_
        refine rr_iconst dX7_goesSo_95 (by decide) ?_
        refine rr_istore (ls' := [some (am_r 75), some (am_i x1), some (am_i x2), some (am_i x3), some (am_i 0), some (am_i x5), some (am_i (σ 78 (am_w (x2 + x5))))]) dX7_goesSo_96 (Nat.le_of_ble_eq_true rfl) rfl ?_
        refine rr_iload dX7_goesSo_98 rfl ?_
        refine rr_if_eq_p (t := 112) dX7_goesSo_100 (by decide) (by decide) ?_
        refine rr_iinc (ls' := [some (am_r 75), some (am_i x1), some (am_i x2), some (am_i x3), some (am_i 0), some (am_i (am_w (x5 + 1))), some (am_i (σ 78 (am_w (x2 + x5))))]) dX7_goesSo_112 rfl (Nat.le_of_ble_eq_true rfl) rfl ?_
        refine rr_goto (t := 6) dX7_goesSo_115 (by decide) ?_
        exact hk6 _ _ _ _ _ _ h _
      · refine rr_if_eq_n (t := 95) dX7_goesSo_43 (by decide) c8 ?_
        refine rr_aload_n dX7_goesSo_46 rfl ?_
        refine rr_getr (t := 83) dX7_goesSo_47 fl_7_31 (sh_75 L) ⟨(by decide), by decide⟩ rfl rfl ?_
        refine rr_aload_n dX7_goesSo_50 rfl ?_
        refine rr_getr (t := 83) dX7_goesSo_51 fl_7_31 (sh_75 L) ⟨(by decide), by decide⟩ rfl rfl ?_
        refine rr_bipush dX7_goesSo_54 (by decide) ?_
        refine rr_iconst dX7_goesSo_56 (by decide) ?_
        refine rr_iload dX7_goesSo_57 rfl ?_
        refine rr_imul dX7_goesSo_59 ?_
        refine rr_iadd dX7_goesSo_60 ?_
        refine rr_iconst dX7_goesSo_61 (by decide) ?_
        refine rr_iadd dX7_goesSo_62 ?_
        obtain ⟨g9, h⟩ := ab_g h
        refine rr_iald (nz := 42) dX7_goesSo_63 (sh_83 L) rfl g9 ?_
        refine rr_aload_n dX7_goesSo_64 rfl ?_
        refine rr_getr (t := 83) dX7_goesSo_65 fl_7_31 (sh_75 L) ⟨(by decide), by decide⟩ rfl rfl ?_
        refine rr_iconst dX7_goesSo_68 (by decide) ?_
        refine rr_iald (nz := 42) dX7_goesSo_69 (sh_83 L) rfl ⟨by decide, by decide⟩ ?_
        refine rr_aload_n dX7_goesSo_70 rfl ?_
        refine rr_getr (t := 83) dX7_goesSo_71 fl_7_31 (sh_75 L) ⟨(by decide), by decide⟩ rfl rfl ?_
        refine rr_iconst dX7_goesSo_74 (by decide) ?_
        refine rr_iald (nz := 42) dX7_goesSo_75 (sh_83 L) rfl ⟨by decide, by decide⟩ ?_
        obtain ⟨r11, σ12, e10, h⟩ := ab_2 h
        refine rr_Si (as := [am_r 83, am_i (σ7 83 (am_w ((am_w (26 + (am_w (2 * (σ 78 (am_w (x2 + x5))))))) + 1))), am_i (σ7 83 1), am_i (σ7 83 3)]) (rest := []) dX7_goesSo_76 ml_7_170 (Or.inl rfl) rfl rfl (Nat.le_of_ble_eq_true rfl) ⟨rfl, rfl⟩ (Nat.le_of_ble_eq_true rfl) (fun _ k => t_X7_cost (by omega) (sh_83 L) (by decide) e10 k) ?_
        refine rr_aload_n dX7_goesSo_79 rfl ?_
        refine rr_getr (t := 78) dX7_goesSo_80 fl_7_16 (sh_75 L) ⟨(by decide), by decide⟩ rfl rfl ?_
        refine rr_iload_n dX7_goesSo_83 rfl ?_
        refine rr_iload dX7_goesSo_84 rfl ?_
        refine rr_iadd dX7_goesSo_86 ?_
        obtain ⟨g13, h⟩ := ab_g h
        refine rr_iald (nz := 320) dX7_goesSo_87 (sh_78 L) rfl g13 ?_
        rcases ab_i h with ⟨c14, h⟩ | ⟨c14, h⟩
        · refine rr_icmp_ne_p (t := 95) dX7_goesSo_88 (by decide) c14 ?_
          refine rr_iconst dX7_goesSo_91 (by decide) ?_
          refine rr_goto (t := 96) dX7_goesSo_92 (by decide) ?_
          refine rr_istore (ls' := [some (am_r 75), some (am_i x1), some (am_i x2), some (am_i x3), some (am_i 1), some (am_i x5), some (am_i (σ 78 (am_w (x2 + x5))))]) dX7_goesSo_96 (Nat.le_of_ble_eq_true rfl) rfl ?_
          refine rr_iload dX7_goesSo_98 rfl ?_
          refine rr_if_eq_n (t := 112) dX7_goesSo_100 (by decide) (by decide) ?_
          refine rr_aload_n dX7_goesSo_103 rfl ?_
          refine rr_getr (t := 83) dX7_goesSo_104 fl_7_31 (sh_75 L) ⟨(by decide), by decide⟩ rfl rfl ?_
          refine rr_iload dX7_goesSo_107 rfl ?_
          obtain ⟨σ17, e15, h⟩ := ab_1 h
          refine rr_Sv (as := [am_r 83, am_i (σ 78 (am_w (x2 + x5)))]) (rest := []) dX7_goesSo_109 ml_7_184 (Or.inl rfl) rfl rfl (Nat.le_of_ble_eq_true rfl) ⟨rfl, rfl⟩ (Nat.le_of_ble_eq_true rfl) (fun _ k => t_X7_rides (by omega) (sh_83 L) (by decide) e15 k) ?_
          refine rr_iinc (ls' := [some (am_r 75), some (am_i x1), some (am_i x2), some (am_i x3), some (am_i 1), some (am_i (am_w (x5 + 1))), some (am_i (σ 78 (am_w (x2 + x5))))]) dX7_goesSo_112 rfl (Nat.le_of_ble_eq_true rfl) rfl ?_
          refine rr_goto (t := 6) dX7_goesSo_115 (by decide) ?_
          exact hk6 _ _ _ _ _ _ h _
        · refine rr_icmp_ne_n (t := 95) dX7_goesSo_88 (by decide) c14 ?_
          refine rr_iconst dX7_goesSo_95 (by decide) ?_
          refine rr_istore (ls' := [some (am_r 75), some (am_i x1), some (am_i x2), some (am_i x3), some (am_i 0), some (am_i x5), some (am_i (σ 78 (am_w (x2 + x5))))]) dX7_goesSo_96 (Nat.le_of_ble_eq_true rfl) rfl ?_
          refine rr_iload dX7_goesSo_98 rfl ?_
          refine rr_if_eq_p (t := 112) dX7_goesSo_100 (by decide) (by decide) ?_
          refine rr_iinc (ls' := [some (am_r 75), some (am_i x1), some (am_i x2), some (am_i x3), some (am_i 0), some (am_i (am_w (x5 + 1))), some (am_i (σ 78 (am_w (x2 + x5))))]) dX7_goesSo_112 rfl (Nat.le_of_ble_eq_true rfl) rfl ?_
          refine rr_goto (t := 6) dX7_goesSo_115 (by decide) ?_
          exact hk6 _ _ _ _ _ _ h _
  · refine rr_icmp_ge_n (t := 118) dX7_goesSo_9 (by decide) c1 ?_
    refine rr_iload dX7_goesSo_118 rfl ?_
    obtain ⟨g18, h⟩ := ab_g h
    obtain ⟨rfl, rfl⟩ := ab_r2 h
    exact rr_zret dX7_goesSo_120 rfl g18 hQ
theorem tl_X7_goesSo_6 {L n d : Nat} {Q : am_Post} {σr : am_Mem} {rr : Int} (hd : 3 ≤ d) (hQ : Q (some (am_i rr)) (rm_h L σr)) : ∀ (m : Nat) (x1 : Int) (x2 : Int) (x3 : Int) (x4 : Int) (x5 : Int) (σ : am_Mem) (o6 : Option am_V), fl_X7_goesSo_6 n m x1 x2 x3 x4 x5 σ = some (rr, σr) → xs_AW (xs_aw d) me_X7_goesSo Q 6 [some (am_r 75), some (am_i x1), some (am_i x2), some (am_i x3), some (am_i x4), some (am_i x5), o6] [] (rm_h L σ) := by
  intro m
  induction m with
  | zero => intro x1 x2 x3 x4 x5 σ o6 h; cases h
  | succ m ih =>
    intro x1 x2 x3 x4 x5 σ o6 h
    exact tb_X7_goesSo_6 hd (fun x1 x2 x3 x4 x5 σ h o6 => ih x1 x2 x3 x4 x5 σ o6 h) hQ h
theorem t_X7_goesSo {L n d : Nat} {Q : am_Post} {p1 : Int} {p2 : Int} {p3 : Int} {σ σr : am_Mem} {rr : Int} (hd : 3 < d) (h : f_X7_goesSo n p1 p2 p3 σ = some (rr, σr)) (hQ : Q (some (am_i rr)) (rm_h L σr)) : xs_aw d me_X7_goesSo [am_r 75, am_i p1, am_i p2, am_i p3] (rm_h L σ) Q := by
  obtain ⟨d, rfl⟩ : ∃ k, d = k + 1 := ⟨d - 1, by omega⟩
  have hd : 3 ≤ d := by omega
  unfold f_X7_goesSo at h
  show xs_AW (xs_aw d) me_X7_goesSo Q 0 [some (am_r 75), some (am_i p1), some (am_i p2), some (am_i p3), none, none, none] [] (rm_h L σ)
  refine rr_iconst dX7_goesSo_0 (by decide) ?_
  refine rr_istore (ls' := [some (am_r 75), some (am_i p1), some (am_i p2), some (am_i p3), some (am_i 1), none, none]) dX7_goesSo_1 (Nat.le_of_ble_eq_true rfl) rfl ?_
  refine rr_iconst dX7_goesSo_3 (by decide) ?_
  refine rr_istore (ls' := [some (am_r 75), some (am_i p1), some (am_i p2), some (am_i p3), some (am_i 1), some (am_i 0), none]) dX7_goesSo_4 (Nat.le_of_ble_eq_true rfl) rfl ?_
  exact tl_X7_goesSo_6 hd hQ n _ _ _ _ _ _ _ h
def nw_X7_goesSo (a : Nat) : Prop := a ≠ 83
theorem wb_X7_goesSo_6 {n : Nat} {kh6 : Int → Int → Int → Int → Int → am_Mem → Option (Int × am_Mem)} {x1 : Int} {x2 : Int} {x3 : Int} {x4 : Int} {x5 : Int} {σ σr : am_Mem} {rr : Int} (hk6 : ∀ (y1 : Int) (y2 : Int) (y3 : Int) (y4 : Int) (y5 : Int) (σ : am_Mem), kh6 y1 y2 y3 y4 y5 σ = some (rr, σr) → ∀ a : Nat, nw_X7_goesSo a → σr a = σ a) (h : fb_X7_goesSo_6 n kh6 x1 x2 x3 x4 x5 σ = some (rr, σr)) : ∀ a : Nat, nw_X7_goesSo a → σr a = σ a := by
  unfold fb_X7_goesSo_6 at h
  have fr : ∀ a : Nat, nw_X7_goesSo a → σ a = σ a := fun _ _ => rfl
  rcases ab_i h with ⟨c1, h⟩ | ⟨c1, h⟩
  · rcases ab_i h with ⟨c2, h⟩ | ⟨c2, h⟩
    · obtain ⟨g3, h⟩ := ab_g h
      obtain ⟨q1, q2⟩ := ab_r2 h
      exact fun a ha => (congrFun q2.symm a).trans (fr a ha)
    · obtain ⟨g4, h⟩ := ab_g h
      obtain ⟨r6, σ7, e5, h⟩ := ab_2 h
      have fr := fun (a : Nat) (ha : nw_X7_goesSo a) => (congrFun (u_X7_goes e5) a).trans (fr a ha)
      rcases ab_i h with ⟨c8, h⟩ | ⟨c8, h⟩
      · exact fun a ha => (hk6 _ _ _ _ _ _ h a ha).trans (fr a ha)
      · obtain ⟨g9, h⟩ := ab_g h
        obtain ⟨r11, σ12, e10, h⟩ := ab_2 h
        have fr := fun (a : Nat) (ha : nw_X7_goesSo a) => (congrFun (u_X7_cost e10) a).trans (fr a ha)
        obtain ⟨g13, h⟩ := ab_g h
        rcases ab_i h with ⟨c14, h⟩ | ⟨c14, h⟩
        · obtain ⟨σ17, e15, h⟩ := ab_1 h
          have fr := fun (a : Nat) (ha : nw_X7_goesSo a) => (w_X7_rides e15 a (by unfold nw_X7_goesSo at ha; unfold nw_X7_rides; omega)).trans (fr a ha)
          exact fun a ha => (hk6 _ _ _ _ _ _ h a ha).trans (fr a ha)
        · exact fun a ha => (hk6 _ _ _ _ _ _ h a ha).trans (fr a ha)
  · obtain ⟨g18, h⟩ := ab_g h
    obtain ⟨q1, q2⟩ := ab_r2 h
    exact fun a ha => (congrFun q2.symm a).trans (fr a ha)
theorem wl_X7_goesSo_6 {n : Nat} {σr : am_Mem} {rr : Int} : ∀ (m : Nat) (x1 : Int) (x2 : Int) (x3 : Int) (x4 : Int) (x5 : Int) (σ : am_Mem), fl_X7_goesSo_6 n m x1 x2 x3 x4 x5 σ = some (rr, σr) → ∀ a : Nat, nw_X7_goesSo a → σr a = σ a := by
  intro m
  induction m with
  | zero => intro x1 x2 x3 x4 x5 σ h; cases h
  | succ m ih =>
    intro x1 x2 x3 x4 x5 σ h
    exact wb_X7_goesSo_6 (fun x1 x2 x3 x4 x5 σ h => ih x1 x2 x3 x4 x5 σ h) h
theorem w_X7_goesSo {n : Nat} {p1 : Int} {p2 : Int} {p3 : Int} {σ σr : am_Mem} {rr : Int} (h : f_X7_goesSo n p1 p2 p3 σ = some (rr, σr)) : ∀ a : Nat, nw_X7_goesSo a → σr a = σ a := by
  unfold f_X7_goesSo at h
  have fr : ∀ a : Nat, nw_X7_goesSo a → σ a = σ a := fun _ _ => rfl
  exact fun a ha => (wl_X7_goesSo_6 n _ _ _ _ _ _ h a ha).trans (fr a ha)
/-! MoodFareModel.all -/
def fb_X7_all_6 (n : Nat) (kh6 : Int → Int → Int → Int → Int → Int → Int → am_Mem → Option (Int × am_Mem)) (x1 : Int) (x3 : Int) (x4 : Int) (x5 : Int) (x6 : Int) (x7 : Int) (x8 : Int) (σ : am_Mem) : Option (Int × am_Mem) :=
  if x8 ≤ x3 then (am_b1 (f_X7_copies n 81 42 83 42 0 0 σ) fun σ4 => if (0 : Int) ≤ x1 ∧ x1 < 42 then am_b1 (some (am_up σ4 83 x1 x8)) fun σ6 => am_b2 (f_X7_goesSo n x4 x5 x6 σ6) fun r9 σ10 => if r9 = 0 then (kh6 x1 x3 x4 x5 x6 (am_or x7 0) (am_w (x8 + 1)) σ10) else (kh6 x1 x3 x4 x5 x6 (am_or x7 (am_shl 1 x8)) (am_w (x8 + 1)) σ10) else none) else (am_b2 (f_X7_well n x7 σ) fun r13 σ14 => some (r13, σ14))
def fl_X7_all_6 (n : Nat) : Nat → Int → Int → Int → Int → Int → Int → Int → am_Mem → Option (Int × am_Mem)
  | 0, _, _, _, _, _, _, _, _ => none
  | m + 1, x1, x3, x4, x5, x6, x7, x8, σ => fb_X7_all_6 n (fun yx1 yx3 yx4 yx5 yx6 yx7 yx8 σ => fl_X7_all_6 n m yx1 yx3 yx4 yx5 yx6 yx7 yx8 σ) x1 x3 x4 x5 x6 x7 x8 σ
def f_X7_all (n : Nat) (p1 : Int) (p2 : Int) (p3 : Int) (p4 : Int) (p5 : Int) (p6 : Int) (σ : am_Mem) : Option (Int × am_Mem) :=
  fl_X7_all_6 n n p1 p3 p4 p5 p6 0 p2 σ
theorem tb_X7_all_6 {L n d : Nat} {Q : am_Post} {kh6 : Int → Int → Int → Int → Int → Int → Int → am_Mem → Option (Int × am_Mem)} {x1 : Int} {x3 : Int} {x4 : Int} {x5 : Int} {x6 : Int} {x7 : Int} {x8 : Int} {o2 : Int} {σ σr : am_Mem} {rr : Int} (hd : 4 ≤ d) (hk6 : ∀ (y1 : Int) (y3 : Int) (y4 : Int) (y5 : Int) (y6 : Int) (y7 : Int) (y8 : Int) (σ : am_Mem), kh6 y1 y3 y4 y5 y6 y7 y8 σ = some (rr, σr) → ∀ (o2 : Int), xs_AW (xs_aw d) me_X7_all Q 6 [some (am_r 75), some (am_i y1), some (am_i o2), some (am_i y3), some (am_i y4), some (am_i y5), some (am_i y6), some (am_i y7), some (am_i y8)] [] (rm_h L σ)) (hQ : Q (some (am_i rr)) (rm_h L σr)) (h : fb_X7_all_6 n kh6 x1 x3 x4 x5 x6 x7 x8 σ = some (rr, σr)) : xs_AW (xs_aw d) me_X7_all Q 6 [some (am_r 75), some (am_i x1), some (am_i o2), some (am_i x3), some (am_i x4), some (am_i x5), some (am_i x6), some (am_i x7), some (am_i x8)] [] (rm_h L σ) := by
  unfold fb_X7_all_6 at h
  refine rr_iload dX7_all_6 rfl ?_
  refine rr_iload_n dX7_all_8 rfl ?_
  rcases ab_i h with ⟨c1, h⟩ | ⟨c1, h⟩
  · refine rr_icmp_gt_p (t := 65) dX7_all_9 (by decide) c1 ?_
    refine rr_aload_n dX7_all_12 rfl ?_
    refine rr_getr (t := 81) dX7_all_13 fl_7_25 (sh_75 L) ⟨(by decide), by decide⟩ rfl rfl ?_
    refine rr_iconst dX7_all_16 (by decide) ?_
    refine rr_aload_n dX7_all_17 rfl ?_
    refine rr_getr (t := 83) dX7_all_18 fl_7_31 (sh_75 L) ⟨(by decide), by decide⟩ rfl rfl ?_
    refine rr_iconst dX7_all_21 (by decide) ?_
    obtain ⟨σ4, e2, h⟩ := ab_1 h
    refine rr_Sv (as := [am_r 81, am_i 0, am_r 83, am_i 0]) (rest := []) dX7_all_22 ml_7_156 (Or.inl rfl) rfl rfl (Nat.le_of_ble_eq_true rfl) ⟨rfl, rfl⟩ (Nat.le_of_ble_eq_true rfl) (fun _ k => t_X7_copies (by omega) (sh_81 L) (by decide) (sh_83 L) (by decide) e2 k) ?_
    refine rr_aload_n dX7_all_25 rfl ?_
    refine rr_getr (t := 83) dX7_all_26 fl_7_31 (sh_75 L) ⟨(by decide), by decide⟩ rfl rfl ?_
    refine rr_iload_n dX7_all_29 rfl ?_
    refine rr_iload dX7_all_30 rfl ?_
    obtain ⟨g5, h⟩ := ab_g h
    refine rr_iast (nz := 42) dX7_all_32 (sh_83 L) (by decide) rfl g5 ?_
    obtain ⟨σ6, e7, h⟩ := ab_1 h
    refine ab_m e7 ?_
    refine rr_iload dX7_all_33 rfl ?_
    refine rr_aload_n dX7_all_35 rfl ?_
    refine rr_iload dX7_all_36 rfl ?_
    refine rr_iload dX7_all_38 rfl ?_
    refine rr_iload dX7_all_40 rfl ?_
    obtain ⟨r9, σ10, e8, h⟩ := ab_2 h
    refine rr_Vi (as := [am_i x4, am_i x5, am_i x6]) (rest := [am_i x7]) dX7_all_42 ml_7_229 (sh_75 L) ⟨(by decide), by decide, by decide⟩ rfl rfl rfl (Nat.le_of_ble_eq_true rfl) ⟨rfl, rfl⟩ (Nat.le_of_ble_eq_true rfl) (fun _ k => t_X7_goesSo (by omega) e8 k) ?_
    rcases ab_i h with ⟨c11, h⟩ | ⟨c11, h⟩
    · refine rr_if_eq_p (t := 55) dX7_all_45 (by decide) c11 ?_
      refine rr_iconst dX7_all_55 (by decide) ?_
      refine rr_ior dX7_all_56 ?_
      refine rr_istore (ls' := [some (am_r 75), some (am_i x1), some (am_i o2), some (am_i x3), some (am_i x4), some (am_i x5), some (am_i x6), some (am_i (am_or x7 0)), some (am_i x8)]) dX7_all_57 (Nat.le_of_ble_eq_true rfl) rfl ?_
      refine rr_iinc (ls' := [some (am_r 75), some (am_i x1), some (am_i o2), some (am_i x3), some (am_i x4), some (am_i x5), some (am_i x6), some (am_i (am_or x7 0)), some (am_i (am_w (x8 + 1)))]) dX7_all_59 rfl (Nat.le_of_ble_eq_true rfl) rfl ?_
      refine rr_goto (t := 6) dX7_all_62 (by decide) ?_
      exact hk6 _ _ _ _ _ _ _ _ h _
    · refine rr_if_eq_n (t := 55) dX7_all_45 (by decide) c11 ?_
      refine rr_iconst dX7_all_48 (by decide) ?_
      refine rr_iload dX7_all_49 rfl ?_
      refine rr_ishl dX7_all_51 ?_
      refine rr_goto (t := 56) dX7_all_52 (by decide) ?_
      refine rr_ior dX7_all_56 ?_
      refine rr_istore (ls' := [some (am_r 75), some (am_i x1), some (am_i o2), some (am_i x3), some (am_i x4), some (am_i x5), some (am_i x6), some (am_i (am_or x7 (am_shl 1 x8))), some (am_i x8)]) dX7_all_57 (Nat.le_of_ble_eq_true rfl) rfl ?_
      refine rr_iinc (ls' := [some (am_r 75), some (am_i x1), some (am_i o2), some (am_i x3), some (am_i x4), some (am_i x5), some (am_i x6), some (am_i (am_or x7 (am_shl 1 x8))), some (am_i (am_w (x8 + 1)))]) dX7_all_59 rfl (Nat.le_of_ble_eq_true rfl) rfl ?_
      refine rr_goto (t := 6) dX7_all_62 (by decide) ?_
      exact hk6 _ _ _ _ _ _ _ _ h _
  · refine rr_icmp_gt_n (t := 65) dX7_all_9 (by decide) c1 ?_
    refine rr_aload_n dX7_all_65 rfl ?_
    refine rr_iload dX7_all_66 rfl ?_
    obtain ⟨r13, σ14, e12, h⟩ := ab_2 h
    refine rr_Vi (as := [am_i x7]) (rest := []) dX7_all_68 ml_7_84 (sh_75 L) ⟨(by decide), by decide, by decide⟩ rfl rfl rfl (Nat.le_of_ble_eq_true rfl) ⟨rfl, rfl⟩ (Nat.le_of_ble_eq_true rfl) (fun _ k => t_X7_well (by omega) e12 k) ?_
    obtain ⟨rfl, rfl⟩ := ab_r2 h
    exact rr_iret dX7_all_71 rfl hQ
theorem tl_X7_all_6 {L n d : Nat} {Q : am_Post} {σr : am_Mem} {rr : Int} (hd : 4 ≤ d) (hQ : Q (some (am_i rr)) (rm_h L σr)) : ∀ (m : Nat) (x1 : Int) (x3 : Int) (x4 : Int) (x5 : Int) (x6 : Int) (x7 : Int) (x8 : Int) (σ : am_Mem) (o2 : Int), fl_X7_all_6 n m x1 x3 x4 x5 x6 x7 x8 σ = some (rr, σr) → xs_AW (xs_aw d) me_X7_all Q 6 [some (am_r 75), some (am_i x1), some (am_i o2), some (am_i x3), some (am_i x4), some (am_i x5), some (am_i x6), some (am_i x7), some (am_i x8)] [] (rm_h L σ) := by
  intro m
  induction m with
  | zero => intro x1 x3 x4 x5 x6 x7 x8 σ o2 h; cases h
  | succ m ih =>
    intro x1 x3 x4 x5 x6 x7 x8 σ o2 h
    exact tb_X7_all_6 hd (fun x1 x3 x4 x5 x6 x7 x8 σ h o2 => ih x1 x3 x4 x5 x6 x7 x8 σ o2 h) hQ h
theorem t_X7_all {L n d : Nat} {Q : am_Post} {p1 : Int} {p2 : Int} {p3 : Int} {p4 : Int} {p5 : Int} {p6 : Int} {σ σr : am_Mem} {rr : Int} (hd : 4 < d) (h : f_X7_all n p1 p2 p3 p4 p5 p6 σ = some (rr, σr)) (hQ : Q (some (am_i rr)) (rm_h L σr)) : xs_aw d me_X7_all [am_r 75, am_i p1, am_i p2, am_i p3, am_i p4, am_i p5, am_i p6] (rm_h L σ) Q := by
  obtain ⟨d, rfl⟩ : ∃ k, d = k + 1 := ⟨d - 1, by omega⟩
  have hd : 4 ≤ d := by omega
  unfold f_X7_all at h
  show xs_AW (xs_aw d) me_X7_all Q 0 [some (am_r 75), some (am_i p1), some (am_i p2), some (am_i p3), some (am_i p4), some (am_i p5), some (am_i p6), none, none] [] (rm_h L σ)
  refine rr_iconst dX7_all_0 (by decide) ?_
  refine rr_istore (ls' := [some (am_r 75), some (am_i p1), some (am_i p2), some (am_i p3), some (am_i p4), some (am_i p5), some (am_i p6), some (am_i 0), none]) dX7_all_1 (Nat.le_of_ble_eq_true rfl) rfl ?_
  refine rr_iload_n dX7_all_3 rfl ?_
  refine rr_istore (ls' := [some (am_r 75), some (am_i p1), some (am_i p2), some (am_i p3), some (am_i p4), some (am_i p5), some (am_i p6), some (am_i 0), some (am_i p2)]) dX7_all_4 (Nat.le_of_ble_eq_true rfl) rfl ?_
  exact tl_X7_all_6 hd hQ n _ _ _ _ _ _ _ _ _ h
def nw_X7_all (a : Nat) : Prop := a ≠ 75 ∧ a ≠ 83
theorem wb_X7_all_6 {n : Nat} {kh6 : Int → Int → Int → Int → Int → Int → Int → am_Mem → Option (Int × am_Mem)} {x1 : Int} {x3 : Int} {x4 : Int} {x5 : Int} {x6 : Int} {x7 : Int} {x8 : Int} {σ σr : am_Mem} {rr : Int} (hk6 : ∀ (y1 : Int) (y3 : Int) (y4 : Int) (y5 : Int) (y6 : Int) (y7 : Int) (y8 : Int) (σ : am_Mem), kh6 y1 y3 y4 y5 y6 y7 y8 σ = some (rr, σr) → ∀ a : Nat, nw_X7_all a → σr a = σ a) (h : fb_X7_all_6 n kh6 x1 x3 x4 x5 x6 x7 x8 σ = some (rr, σr)) : ∀ a : Nat, nw_X7_all a → σr a = σ a := by
  unfold fb_X7_all_6 at h
  have fr : ∀ a : Nat, nw_X7_all a → σ a = σ a := fun _ _ => rfl
  rcases ab_i h with ⟨c1, h⟩ | ⟨c1, h⟩
  · obtain ⟨σ4, e2, h⟩ := ab_1 h
    have fr := fun (a : Nat) (ha : nw_X7_all a) => (w_X7_copies e2 a (by unfold nw_X7_all at ha; unfold nw_X7_copies; omega)).trans (fr a ha)
    obtain ⟨g5, h⟩ := ab_g h
    obtain ⟨σ6, e7, h⟩ := ab_1 h
    have fr := fun (a : Nat) (ha : nw_X7_all a) => (ab_fu e7 (show a ≠ 83 by unfold nw_X7_all at ha; omega)).trans (fr a ha)
    obtain ⟨r9, σ10, e8, h⟩ := ab_2 h
    have fr := fun (a : Nat) (ha : nw_X7_all a) => (w_X7_goesSo e8 a (by unfold nw_X7_all at ha; unfold nw_X7_goesSo; omega)).trans (fr a ha)
    rcases ab_i h with ⟨c11, h⟩ | ⟨c11, h⟩
    · exact fun a ha => (hk6 _ _ _ _ _ _ _ _ h a ha).trans (fr a ha)
    · exact fun a ha => (hk6 _ _ _ _ _ _ _ _ h a ha).trans (fr a ha)
  · obtain ⟨r13, σ14, e12, h⟩ := ab_2 h
    have fr := fun (a : Nat) (ha : nw_X7_all a) => (w_X7_well e12 a (by unfold nw_X7_all at ha; unfold nw_X7_well; omega)).trans (fr a ha)
    obtain ⟨q1, q2⟩ := ab_r2 h
    exact fun a ha => (congrFun q2.symm a).trans (fr a ha)
theorem wl_X7_all_6 {n : Nat} {σr : am_Mem} {rr : Int} : ∀ (m : Nat) (x1 : Int) (x3 : Int) (x4 : Int) (x5 : Int) (x6 : Int) (x7 : Int) (x8 : Int) (σ : am_Mem), fl_X7_all_6 n m x1 x3 x4 x5 x6 x7 x8 σ = some (rr, σr) → ∀ a : Nat, nw_X7_all a → σr a = σ a := by
  intro m
  induction m with
  | zero => intro x1 x3 x4 x5 x6 x7 x8 σ h; cases h
  | succ m ih =>
    intro x1 x3 x4 x5 x6 x7 x8 σ h
    exact wb_X7_all_6 (fun x1 x3 x4 x5 x6 x7 x8 σ h => ih x1 x3 x4 x5 x6 x7 x8 σ h) h
theorem w_X7_all {n : Nat} {p1 : Int} {p2 : Int} {p3 : Int} {p4 : Int} {p5 : Int} {p6 : Int} {σ σr : am_Mem} {rr : Int} (h : f_X7_all n p1 p2 p3 p4 p5 p6 σ = some (rr, σr)) : ∀ a : Nat, nw_X7_all a → σr a = σ a := by
  unfold f_X7_all at h
  have fr : ∀ a : Nat, nw_X7_all a → σ a = σ a := fun _ _ => rfl
  exact fun a ha => (wl_X7_all_6 n _ _ _ _ _ _ _ _ h a ha).trans (fr a ha)
/-! MoodFareModel.bar -/
def f_X7_bar (n : Nat) (p1 : Int) (p2 : Int) (p3 : Int) (p4 : Int) (p5 : Int) (σ : am_Mem) : Option (Int × am_Mem) :=
  am_b2 (f_X7_isMissing n p1 σ) fun r2 σ3 => if r2 = 0 then (am_b2 (f_X7_isPart n p1 p2 p5 σ3) fun r6 σ7 => if r6 = 0 then (am_b2 (f_X7_found n 2 σ7) fun r10 σ11 => some (r10, σ11)) else (am_b2 (f_X7_isMissing n p3 σ7) fun r13 σ14 => if r13 = 0 then (am_b2 (f_X7_isPart n p3 p4 p5 σ14) fun r17 σ18 => if r17 = 0 then (am_b2 (f_X7_found n 2 σ18) fun r21 σ22 => some (r21, σ22)) else (some (0, σ18))) else (am_b2 (f_X7_found n 1 σ14) fun r24 σ25 => some (r24, σ25)))) else (am_b2 (f_X7_found n 1 σ3) fun r27 σ28 => some (r27, σ28))
theorem t_X7_bar {L n d : Nat} {Q : am_Post} {p1 : Int} {p2 : Int} {p3 : Int} {p4 : Int} {p5 : Int} {σ σr : am_Mem} {rr : Int} (hd : 1 < d) (h : f_X7_bar n p1 p2 p3 p4 p5 σ = some (rr, σr)) (hQ : Q (some (am_i rr)) (rm_h L σr)) : xs_aw d me_X7_bar [am_r 75, am_i p1, am_i p2, am_i p3, am_i p4, am_i p5] (rm_h L σ) Q := by
  obtain ⟨d, rfl⟩ : ∃ k, d = k + 1 := ⟨d - 1, by omega⟩
  have hd : 1 ≤ d := by omega
  unfold f_X7_bar at h
  show xs_AW (xs_aw d) me_X7_bar Q 0 [some (am_r 75), some (am_i p1), some (am_i p2), some (am_i p3), some (am_i p4), some (am_i p5)] [] (rm_h L σ)
  refine rr_aload_n dX7_bar_0 rfl ?_
  refine rr_iload_n dX7_bar_1 rfl ?_
  obtain ⟨r2, σ3, e1, h⟩ := ab_2 h
  refine rr_Vi (as := [am_i p1]) (rest := []) dX7_bar_2 ml_7_87 (sh_75 L) ⟨(by decide), by decide, by decide⟩ rfl rfl rfl (Nat.le_of_ble_eq_true rfl) ⟨rfl, rfl⟩ (Nat.le_of_ble_eq_true rfl) (fun _ k => t_X7_isMissing (by omega) e1 k) ?_
  rcases ab_i h with ⟨c4, h⟩ | ⟨c4, h⟩
  · refine rr_if_eq_p (t := 14) dX7_bar_5 (by decide) c4 ?_
    refine rr_aload_n dX7_bar_14 rfl ?_
    refine rr_iload_n dX7_bar_15 rfl ?_
    refine rr_iload_n dX7_bar_16 rfl ?_
    refine rr_iload dX7_bar_17 rfl ?_
    obtain ⟨r6, σ7, e5, h⟩ := ab_2 h
    refine rr_Vi (as := [am_i p1, am_i p2, am_i p5]) (rest := []) dX7_bar_19 ml_7_94 (sh_75 L) ⟨(by decide), by decide, by decide⟩ rfl rfl rfl (Nat.le_of_ble_eq_true rfl) ⟨rfl, rfl⟩ (Nat.le_of_ble_eq_true rfl) (fun _ k => t_X7_isPart (by omega) e5 k) ?_
    rcases ab_i h with ⟨c8, h⟩ | ⟨c8, h⟩
    · refine rr_if_ne_p (t := 31) dX7_bar_22 (by decide) c8 ?_
      refine rr_aload_n dX7_bar_25 rfl ?_
      refine rr_iconst dX7_bar_26 (by decide) ?_
      obtain ⟨r10, σ11, e9, h⟩ := ab_2 h
      refine rr_Vi (as := [am_i 2]) (rest := []) dX7_bar_27 ml_7_80 (sh_75 L) ⟨(by decide), by decide, by decide⟩ rfl rfl rfl (Nat.le_of_ble_eq_true rfl) ⟨rfl, rfl⟩ (Nat.le_of_ble_eq_true rfl) (fun _ k => t_X7_found (by omega) e9 k) ?_
      obtain ⟨rfl, rfl⟩ := ab_r2 h
      exact rr_iret dX7_bar_30 rfl hQ
    · refine rr_if_ne_n (t := 31) dX7_bar_22 (by decide) c8 ?_
      refine rr_aload_n dX7_bar_31 rfl ?_
      refine rr_iload_n dX7_bar_32 rfl ?_
      obtain ⟨r13, σ14, e12, h⟩ := ab_2 h
      refine rr_Vi (as := [am_i p3]) (rest := []) dX7_bar_33 ml_7_87 (sh_75 L) ⟨(by decide), by decide, by decide⟩ rfl rfl rfl (Nat.le_of_ble_eq_true rfl) ⟨rfl, rfl⟩ (Nat.le_of_ble_eq_true rfl) (fun _ k => t_X7_isMissing (by omega) e12 k) ?_
      rcases ab_i h with ⟨c15, h⟩ | ⟨c15, h⟩
      · refine rr_if_eq_p (t := 45) dX7_bar_36 (by decide) c15 ?_
        refine rr_aload_n dX7_bar_45 rfl ?_
        refine rr_iload_n dX7_bar_46 rfl ?_
        refine rr_iload dX7_bar_47 rfl ?_
        refine rr_iload dX7_bar_49 rfl ?_
        obtain ⟨r17, σ18, e16, h⟩ := ab_2 h
        refine rr_Vi (as := [am_i p3, am_i p4, am_i p5]) (rest := []) dX7_bar_51 ml_7_94 (sh_75 L) ⟨(by decide), by decide, by decide⟩ rfl rfl rfl (Nat.le_of_ble_eq_true rfl) ⟨rfl, rfl⟩ (Nat.le_of_ble_eq_true rfl) (fun _ k => t_X7_isPart (by omega) e16 k) ?_
        rcases ab_i h with ⟨c19, h⟩ | ⟨c19, h⟩
        · refine rr_if_eq_p (t := 61) dX7_bar_54 (by decide) c19 ?_
          refine rr_aload_n dX7_bar_61 rfl ?_
          refine rr_iconst dX7_bar_62 (by decide) ?_
          obtain ⟨r21, σ22, e20, h⟩ := ab_2 h
          refine rr_Vi (as := [am_i 2]) (rest := []) dX7_bar_63 ml_7_80 (sh_75 L) ⟨(by decide), by decide, by decide⟩ rfl rfl rfl (Nat.le_of_ble_eq_true rfl) ⟨rfl, rfl⟩ (Nat.le_of_ble_eq_true rfl) (fun _ k => t_X7_found (by omega) e20 k) ?_
          obtain ⟨rfl, rfl⟩ := ab_r2 h
          exact rr_iret dX7_bar_66 rfl hQ
        · refine rr_if_eq_n (t := 61) dX7_bar_54 (by decide) c19 ?_
          refine rr_iconst dX7_bar_57 (by decide) ?_
          refine rr_goto (t := 66) dX7_bar_58 (by decide) ?_
          obtain ⟨rfl, rfl⟩ := ab_r2 h
          exact rr_iret dX7_bar_66 rfl hQ
      · refine rr_if_eq_n (t := 45) dX7_bar_36 (by decide) c15 ?_
        refine rr_aload_n dX7_bar_39 rfl ?_
        refine rr_iconst dX7_bar_40 (by decide) ?_
        obtain ⟨r24, σ25, e23, h⟩ := ab_2 h
        refine rr_Vi (as := [am_i 1]) (rest := []) dX7_bar_41 ml_7_80 (sh_75 L) ⟨(by decide), by decide, by decide⟩ rfl rfl rfl (Nat.le_of_ble_eq_true rfl) ⟨rfl, rfl⟩ (Nat.le_of_ble_eq_true rfl) (fun _ k => t_X7_found (by omega) e23 k) ?_
        obtain ⟨rfl, rfl⟩ := ab_r2 h
        exact rr_iret dX7_bar_44 rfl hQ
  · refine rr_if_eq_n (t := 14) dX7_bar_5 (by decide) c4 ?_
    refine rr_aload_n dX7_bar_8 rfl ?_
    refine rr_iconst dX7_bar_9 (by decide) ?_
    obtain ⟨r27, σ28, e26, h⟩ := ab_2 h
    refine rr_Vi (as := [am_i 1]) (rest := []) dX7_bar_10 ml_7_80 (sh_75 L) ⟨(by decide), by decide, by decide⟩ rfl rfl rfl (Nat.le_of_ble_eq_true rfl) ⟨rfl, rfl⟩ (Nat.le_of_ble_eq_true rfl) (fun _ k => t_X7_found (by omega) e26 k) ?_
    obtain ⟨rfl, rfl⟩ := ab_r2 h
    exact rr_iret dX7_bar_13 rfl hQ
def nw_X7_bar (a : Nat) : Prop := a ≠ 75
theorem w_X7_bar {n : Nat} {p1 : Int} {p2 : Int} {p3 : Int} {p4 : Int} {p5 : Int} {σ σr : am_Mem} {rr : Int} (h : f_X7_bar n p1 p2 p3 p4 p5 σ = some (rr, σr)) : ∀ a : Nat, nw_X7_bar a → σr a = σ a := by
  unfold f_X7_bar at h
  have fr : ∀ a : Nat, nw_X7_bar a → σ a = σ a := fun _ _ => rfl
  obtain ⟨r2, σ3, e1, h⟩ := ab_2 h
  have fr := fun (a : Nat) (ha : nw_X7_bar a) => (congrFun (u_X7_isMissing e1) a).trans (fr a ha)
  rcases ab_i h with ⟨c4, h⟩ | ⟨c4, h⟩
  · obtain ⟨r6, σ7, e5, h⟩ := ab_2 h
    have fr := fun (a : Nat) (ha : nw_X7_bar a) => (congrFun (u_X7_isPart e5) a).trans (fr a ha)
    rcases ab_i h with ⟨c8, h⟩ | ⟨c8, h⟩
    · obtain ⟨r10, σ11, e9, h⟩ := ab_2 h
      have fr := fun (a : Nat) (ha : nw_X7_bar a) => (w_X7_found e9 a (by unfold nw_X7_bar at ha; unfold nw_X7_found; omega)).trans (fr a ha)
      obtain ⟨q1, q2⟩ := ab_r2 h
      exact fun a ha => (congrFun q2.symm a).trans (fr a ha)
    · obtain ⟨r13, σ14, e12, h⟩ := ab_2 h
      have fr := fun (a : Nat) (ha : nw_X7_bar a) => (congrFun (u_X7_isMissing e12) a).trans (fr a ha)
      rcases ab_i h with ⟨c15, h⟩ | ⟨c15, h⟩
      · obtain ⟨r17, σ18, e16, h⟩ := ab_2 h
        have fr := fun (a : Nat) (ha : nw_X7_bar a) => (congrFun (u_X7_isPart e16) a).trans (fr a ha)
        rcases ab_i h with ⟨c19, h⟩ | ⟨c19, h⟩
        · obtain ⟨r21, σ22, e20, h⟩ := ab_2 h
          have fr := fun (a : Nat) (ha : nw_X7_bar a) => (w_X7_found e20 a (by unfold nw_X7_bar at ha; unfold nw_X7_found; omega)).trans (fr a ha)
          obtain ⟨q1, q2⟩ := ab_r2 h
          exact fun a ha => (congrFun q2.symm a).trans (fr a ha)
        · obtain ⟨q1, q2⟩ := ab_r2 h
          exact fun a ha => (congrFun q2.symm a).trans (fr a ha)
      · obtain ⟨r24, σ25, e23, h⟩ := ab_2 h
        have fr := fun (a : Nat) (ha : nw_X7_bar a) => (w_X7_found e23 a (by unfold nw_X7_bar at ha; unfold nw_X7_found; omega)).trans (fr a ha)
        obtain ⟨q1, q2⟩ := ab_r2 h
        exact fun a ha => (congrFun q2.symm a).trans (fr a ha)
  · obtain ⟨r27, σ28, e26, h⟩ := ab_2 h
    have fr := fun (a : Nat) (ha : nw_X7_bar a) => (w_X7_found e26 a (by unfold nw_X7_bar at ha; unfold nw_X7_found; omega)).trans (fr a ha)
    obtain ⟨q1, q2⟩ := ab_r2 h
    exact fun a ha => (congrFun q2.symm a).trans (fr a ha)
/-! MoodFareModel.fits -/
def f_X7_fits (n : Nat) (p1 : Int) (p2 : Int) (p3 : Int) (p4 : Int) (p5 : Int) (p6 : Int) (σ : am_Mem) : Option (Int × am_Mem) :=
  am_b2 (f_X7_isTown n σ) fun r2 σ3 => if r2 = 0 then (some ((-1000002), σ3)) else (am_b2 (f_X7_isRow n p1 σ3) fun r6 σ7 => if r6 = 0 then (some ((-1000001), σ7)) else (am_b2 (f_X7_isRow n p3 σ7) fun r10 σ11 => if r10 = 0 then (some ((-1000001), σ11)) else (am_b2 (f_X7_in n p5 1 8 σ11) fun r14 σ15 => if r14 = 0 then (some ((-1000001), σ15)) else (am_b2 (f_X7_in n p6 0 1 σ15) fun r18 σ19 => if r18 = 0 then (some ((-1000001), σ19)) else (am_b2 (f_X7_bar n p1 p2 p3 p4 p5 σ19) fun r22 σ23 => if r22 = 0 then (if p6 = 0 then (am_b2 (f_X7_all n 1 0 9 (am_w ((am_w (40 * p1)) + p2)) (am_w ((am_w (40 * p3)) + p4)) p5 σ23) fun r27 σ28 => some (r27, σ28)) else (am_b2 (f_X7_all n 0 1 9 (am_w ((am_w (40 * p1)) + p2)) (am_w ((am_w (40 * p3)) + p4)) p5 σ23) fun r30 σ31 => some (r30, σ31))) else (some (r22, σ23)))))))
theorem t_X7_fits {L n d : Nat} {Q : am_Post} {p1 : Int} {p2 : Int} {p3 : Int} {p4 : Int} {p5 : Int} {p6 : Int} {σ σr : am_Mem} {rr : Int} (hd : 5 < d) (h : f_X7_fits n p1 p2 p3 p4 p5 p6 σ = some (rr, σr)) (hQ : Q (some (am_i rr)) (rm_h L σr)) : xs_aw d me_X7_fits [am_r 75, am_i p1, am_i p2, am_i p3, am_i p4, am_i p5, am_i p6] (rm_h L σ) Q := by
  obtain ⟨d, rfl⟩ : ∃ k, d = k + 1 := ⟨d - 1, by omega⟩
  have hd : 5 ≤ d := by omega
  unfold f_X7_fits at h
  show xs_AW (xs_aw d) me_X7_fits Q 0 [some (am_r 75), some (am_i p1), some (am_i p2), some (am_i p3), some (am_i p4), some (am_i p5), some (am_i p6), none] [] (rm_h L σ)
  refine rr_aload_n dX7_fits_0 rfl ?_
  obtain ⟨r2, σ3, e1, h⟩ := ab_2 h
  refine rr_Vi (as := []) (rest := []) dX7_fits_1 ml_7_191 (sh_75 L) ⟨(by decide), by decide, by decide⟩ rfl rfl rfl (Nat.le_of_ble_eq_true rfl) ⟨rfl, rfl⟩ (Nat.le_of_ble_eq_true rfl) (fun _ k => t_X7_isTown (by omega) e1 k) ?_
  rcases ab_i h with ⟨c4, h⟩ | ⟨c4, h⟩
  · refine rr_if_ne_p (t := 10) dX7_fits_4 (by decide) c4 ?_
    refine rr_ldc dX7_fits_7 cs_7_180 ?_
    obtain ⟨rfl, rfl⟩ := ab_r2 h
    exact rr_iret dX7_fits_9 rfl hQ
  · refine rr_if_ne_n (t := 10) dX7_fits_4 (by decide) c4 ?_
    refine rr_iload_n dX7_fits_10 rfl ?_
    obtain ⟨r6, σ7, e5, h⟩ := ab_2 h
    refine rr_Si (as := [am_i p1]) (rest := []) dX7_fits_11 ml_7_75 (Or.inl rfl) rfl rfl (Nat.le_of_ble_eq_true rfl) ⟨rfl, rfl⟩ (Nat.le_of_ble_eq_true rfl) (fun _ k => t_X7_isRow (by omega) e5 k) ?_
    rcases ab_i h with ⟨c8, h⟩ | ⟨c8, h⟩
    · refine rr_if_eq_p (t := 45) dX7_fits_14 (by decide) c8 ?_
      refine rr_ldc dX7_fits_45 cs_7_79 ?_
      obtain ⟨rfl, rfl⟩ := ab_r2 h
      exact rr_iret dX7_fits_47 rfl hQ
    · refine rr_if_eq_n (t := 45) dX7_fits_14 (by decide) c8 ?_
      refine rr_iload_n dX7_fits_17 rfl ?_
      obtain ⟨r10, σ11, e9, h⟩ := ab_2 h
      refine rr_Si (as := [am_i p3]) (rest := []) dX7_fits_18 ml_7_75 (Or.inl rfl) rfl rfl (Nat.le_of_ble_eq_true rfl) ⟨rfl, rfl⟩ (Nat.le_of_ble_eq_true rfl) (fun _ k => t_X7_isRow (by omega) e9 k) ?_
      rcases ab_i h with ⟨c12, h⟩ | ⟨c12, h⟩
      · refine rr_if_eq_p (t := 45) dX7_fits_21 (by decide) c12 ?_
        refine rr_ldc dX7_fits_45 cs_7_79 ?_
        obtain ⟨rfl, rfl⟩ := ab_r2 h
        exact rr_iret dX7_fits_47 rfl hQ
      · refine rr_if_eq_n (t := 45) dX7_fits_21 (by decide) c12 ?_
        refine rr_iload dX7_fits_24 rfl ?_
        refine rr_iconst dX7_fits_26 (by decide) ?_
        refine rr_bipush dX7_fits_27 (by decide) ?_
        obtain ⟨r14, σ15, e13, h⟩ := ab_2 h
        refine rr_Si (as := [am_i p5, am_i 1, am_i 8]) (rest := []) dX7_fits_29 ml_7_71 (Or.inl rfl) rfl rfl (Nat.le_of_ble_eq_true rfl) ⟨rfl, rfl⟩ (Nat.le_of_ble_eq_true rfl) (fun _ k => t_X7_in (by omega) e13 k) ?_
        rcases ab_i h with ⟨c16, h⟩ | ⟨c16, h⟩
        · refine rr_if_eq_p (t := 45) dX7_fits_32 (by decide) c16 ?_
          refine rr_ldc dX7_fits_45 cs_7_79 ?_
          obtain ⟨rfl, rfl⟩ := ab_r2 h
          exact rr_iret dX7_fits_47 rfl hQ
        · refine rr_if_eq_n (t := 45) dX7_fits_32 (by decide) c16 ?_
          refine rr_iload dX7_fits_35 rfl ?_
          refine rr_iconst dX7_fits_37 (by decide) ?_
          refine rr_iconst dX7_fits_38 (by decide) ?_
          obtain ⟨r18, σ19, e17, h⟩ := ab_2 h
          refine rr_Si (as := [am_i p6, am_i 0, am_i 1]) (rest := []) dX7_fits_39 ml_7_71 (Or.inl rfl) rfl rfl (Nat.le_of_ble_eq_true rfl) ⟨rfl, rfl⟩ (Nat.le_of_ble_eq_true rfl) (fun _ k => t_X7_in (by omega) e17 k) ?_
          rcases ab_i h with ⟨c20, h⟩ | ⟨c20, h⟩
          · refine rr_if_ne_p (t := 48) dX7_fits_42 (by decide) c20 ?_
            refine rr_ldc dX7_fits_45 cs_7_79 ?_
            obtain ⟨rfl, rfl⟩ := ab_r2 h
            exact rr_iret dX7_fits_47 rfl hQ
          · refine rr_if_ne_n (t := 48) dX7_fits_42 (by decide) c20 ?_
            refine rr_aload_n dX7_fits_48 rfl ?_
            refine rr_iload_n dX7_fits_49 rfl ?_
            refine rr_iload_n dX7_fits_50 rfl ?_
            refine rr_iload_n dX7_fits_51 rfl ?_
            refine rr_iload dX7_fits_52 rfl ?_
            refine rr_iload dX7_fits_54 rfl ?_
            obtain ⟨r22, σ23, e21, h⟩ := ab_2 h
            refine rr_Vi (as := [am_i p1, am_i p2, am_i p3, am_i p4, am_i p5]) (rest := []) dX7_fits_56 ml_7_232 (sh_75 L) ⟨(by decide), by decide, by decide⟩ rfl rfl rfl (Nat.le_of_ble_eq_true rfl) ⟨rfl, rfl⟩ (Nat.le_of_ble_eq_true rfl) (fun _ k => t_X7_bar (by omega) e21 k) ?_
            refine rr_istore (ls' := [some (am_r 75), some (am_i p1), some (am_i p2), some (am_i p3), some (am_i p4), some (am_i p5), some (am_i p6), some (am_i r22)]) dX7_fits_59 (Nat.le_of_ble_eq_true rfl) rfl ?_
            refine rr_iload dX7_fits_61 rfl ?_
            rcases ab_i h with ⟨c24, h⟩ | ⟨c24, h⟩
            · refine rr_if_eq_p (t := 69) dX7_fits_63 (by decide) c24 ?_
              refine rr_iload dX7_fits_69 rfl ?_
              rcases ab_i h with ⟨c25, h⟩ | ⟨c25, h⟩
              · refine rr_if_ne_p (t := 100) dX7_fits_71 (by decide) c25 ?_
                refine rr_aload_n dX7_fits_74 rfl ?_
                refine rr_iconst dX7_fits_75 (by decide) ?_
                refine rr_iconst dX7_fits_76 (by decide) ?_
                refine rr_bipush dX7_fits_77 (by decide) ?_
                refine rr_bipush dX7_fits_79 (by decide) ?_
                refine rr_iload_n dX7_fits_81 rfl ?_
                refine rr_imul dX7_fits_82 ?_
                refine rr_iload_n dX7_fits_83 rfl ?_
                refine rr_iadd dX7_fits_84 ?_
                refine rr_bipush dX7_fits_85 (by decide) ?_
                refine rr_iload_n dX7_fits_87 rfl ?_
                refine rr_imul dX7_fits_88 ?_
                refine rr_iload dX7_fits_89 rfl ?_
                refine rr_iadd dX7_fits_91 ?_
                refine rr_iload dX7_fits_92 rfl ?_
                obtain ⟨r27, σ28, e26, h⟩ := ab_2 h
                refine rr_Vi (as := [am_i 1, am_i 0, am_i 9, am_i (am_w ((am_w (40 * p1)) + p2)), am_i (am_w ((am_w (40 * p3)) + p4)), am_i p5]) (rest := []) dX7_fits_94 ml_7_236 (sh_75 L) ⟨(by decide), by decide, by decide⟩ rfl rfl rfl (Nat.le_of_ble_eq_true rfl) ⟨rfl, rfl⟩ (Nat.le_of_ble_eq_true rfl) (fun _ k => t_X7_all (by omega) e26 k) ?_
                refine rr_goto (t := 123) dX7_fits_97 (by decide) ?_
                obtain ⟨rfl, rfl⟩ := ab_r2 h
                exact rr_iret dX7_fits_123 rfl hQ
              · refine rr_if_ne_n (t := 100) dX7_fits_71 (by decide) c25 ?_
                refine rr_aload_n dX7_fits_100 rfl ?_
                refine rr_iconst dX7_fits_101 (by decide) ?_
                refine rr_iconst dX7_fits_102 (by decide) ?_
                refine rr_bipush dX7_fits_103 (by decide) ?_
                refine rr_bipush dX7_fits_105 (by decide) ?_
                refine rr_iload_n dX7_fits_107 rfl ?_
                refine rr_imul dX7_fits_108 ?_
                refine rr_iload_n dX7_fits_109 rfl ?_
                refine rr_iadd dX7_fits_110 ?_
                refine rr_bipush dX7_fits_111 (by decide) ?_
                refine rr_iload_n dX7_fits_113 rfl ?_
                refine rr_imul dX7_fits_114 ?_
                refine rr_iload dX7_fits_115 rfl ?_
                refine rr_iadd dX7_fits_117 ?_
                refine rr_iload dX7_fits_118 rfl ?_
                obtain ⟨r30, σ31, e29, h⟩ := ab_2 h
                refine rr_Vi (as := [am_i 0, am_i 1, am_i 9, am_i (am_w ((am_w (40 * p1)) + p2)), am_i (am_w ((am_w (40 * p3)) + p4)), am_i p5]) (rest := []) dX7_fits_120 ml_7_236 (sh_75 L) ⟨(by decide), by decide, by decide⟩ rfl rfl rfl (Nat.le_of_ble_eq_true rfl) ⟨rfl, rfl⟩ (Nat.le_of_ble_eq_true rfl) (fun _ k => t_X7_all (by omega) e29 k) ?_
                obtain ⟨rfl, rfl⟩ := ab_r2 h
                exact rr_iret dX7_fits_123 rfl hQ
            · refine rr_if_eq_n (t := 69) dX7_fits_63 (by decide) c24 ?_
              refine rr_iload dX7_fits_66 rfl ?_
              obtain ⟨rfl, rfl⟩ := ab_r2 h
              exact rr_iret dX7_fits_68 rfl hQ
def nw_X7_fits (a : Nat) : Prop := a ≠ 75 ∧ a ≠ 83
theorem w_X7_fits {n : Nat} {p1 : Int} {p2 : Int} {p3 : Int} {p4 : Int} {p5 : Int} {p6 : Int} {σ σr : am_Mem} {rr : Int} (h : f_X7_fits n p1 p2 p3 p4 p5 p6 σ = some (rr, σr)) : ∀ a : Nat, nw_X7_fits a → σr a = σ a := by
  unfold f_X7_fits at h
  have fr : ∀ a : Nat, nw_X7_fits a → σ a = σ a := fun _ _ => rfl
  obtain ⟨r2, σ3, e1, h⟩ := ab_2 h
  have fr := fun (a : Nat) (ha : nw_X7_fits a) => (congrFun (u_X7_isTown e1) a).trans (fr a ha)
  rcases ab_i h with ⟨c4, h⟩ | ⟨c4, h⟩
  · obtain ⟨q1, q2⟩ := ab_r2 h
    exact fun a ha => (congrFun q2.symm a).trans (fr a ha)
  · obtain ⟨r6, σ7, e5, h⟩ := ab_2 h
    have fr := fun (a : Nat) (ha : nw_X7_fits a) => (congrFun (u_X7_isRow e5) a).trans (fr a ha)
    rcases ab_i h with ⟨c8, h⟩ | ⟨c8, h⟩
    · obtain ⟨q1, q2⟩ := ab_r2 h
      exact fun a ha => (congrFun q2.symm a).trans (fr a ha)
    · obtain ⟨r10, σ11, e9, h⟩ := ab_2 h
      have fr := fun (a : Nat) (ha : nw_X7_fits a) => (congrFun (u_X7_isRow e9) a).trans (fr a ha)
      rcases ab_i h with ⟨c12, h⟩ | ⟨c12, h⟩
      · obtain ⟨q1, q2⟩ := ab_r2 h
        exact fun a ha => (congrFun q2.symm a).trans (fr a ha)
      · obtain ⟨r14, σ15, e13, h⟩ := ab_2 h
        have fr := fun (a : Nat) (ha : nw_X7_fits a) => (congrFun (u_X7_in e13) a).trans (fr a ha)
        rcases ab_i h with ⟨c16, h⟩ | ⟨c16, h⟩
        · obtain ⟨q1, q2⟩ := ab_r2 h
          exact fun a ha => (congrFun q2.symm a).trans (fr a ha)
        · obtain ⟨r18, σ19, e17, h⟩ := ab_2 h
          have fr := fun (a : Nat) (ha : nw_X7_fits a) => (congrFun (u_X7_in e17) a).trans (fr a ha)
          rcases ab_i h with ⟨c20, h⟩ | ⟨c20, h⟩
          · obtain ⟨q1, q2⟩ := ab_r2 h
            exact fun a ha => (congrFun q2.symm a).trans (fr a ha)
          · obtain ⟨r22, σ23, e21, h⟩ := ab_2 h
            have fr := fun (a : Nat) (ha : nw_X7_fits a) => (w_X7_bar e21 a (by unfold nw_X7_fits at ha; unfold nw_X7_bar; omega)).trans (fr a ha)
            rcases ab_i h with ⟨c24, h⟩ | ⟨c24, h⟩
            · rcases ab_i h with ⟨c25, h⟩ | ⟨c25, h⟩
              · obtain ⟨r27, σ28, e26, h⟩ := ab_2 h
                have fr := fun (a : Nat) (ha : nw_X7_fits a) => (w_X7_all e26 a (by unfold nw_X7_fits at ha; unfold nw_X7_all; omega)).trans (fr a ha)
                obtain ⟨q1, q2⟩ := ab_r2 h
                exact fun a ha => (congrFun q2.symm a).trans (fr a ha)
              · obtain ⟨r30, σ31, e29, h⟩ := ab_2 h
                have fr := fun (a : Nat) (ha : nw_X7_fits a) => (w_X7_all e29 a (by unfold nw_X7_fits at ha; unfold nw_X7_all; omega)).trans (fr a ha)
                obtain ⟨q1, q2⟩ := ab_r2 h
                exact fun a ha => (congrFun q2.symm a).trans (fr a ha)
            · obtain ⟨q1, q2⟩ := ab_r2 h
              exact fun a ha => (congrFun q2.symm a).trans (fr a ha)
/-! MoodFareModel.fitsOf -/
def f_X7_fitsOf (n : Nat) (p1 : Int) (p2 : Int) (p3 : Int) (p4 : Int) (p5 : Int) (p6 : Int) (p7 : Int) (σ : am_Mem) : Option (Int × am_Mem) :=
  am_b2 (f_X7_isCorner n p1 σ) fun r2 σ3 => if r2 = 0 then (some ((-1000001), σ3)) else (am_b2 (f_X7_isRow n p2 σ3) fun r6 σ7 => if r6 = 0 then (some ((-1000001), σ7)) else (am_b2 (f_X7_isRow n p4 σ7) fun r10 σ11 => if r10 = 0 then (some ((-1000001), σ11)) else (am_b2 (f_X7_in n p6 1 8 σ11) fun r14 σ15 => if r14 = 0 then (some ((-1000001), σ15)) else (am_b2 (f_X7_in n p7 0 1 σ15) fun r18 σ19 => if r18 = 0 then (some ((-1000001), σ19)) else (am_b2 (f_X7_bar n p2 p3 p4 p5 p6 σ19) fun r22 σ23 => if r22 = 0 then (if p7 = 0 then (am_b2 (f_X7_all n (am_w (7 + (am_w (3 * p1)))) 1 5 (am_w ((am_w (40 * p2)) + p3)) (am_w ((am_w (40 * p4)) + p5)) p6 σ23) fun r27 σ28 => some (r27, σ28)) else (am_b2 (f_X7_all n (am_w ((am_w (7 + (am_w (3 * p1)))) + 1)) 0 9 (am_w ((am_w (40 * p2)) + p3)) (am_w ((am_w (40 * p4)) + p5)) p6 σ23) fun r30 σ31 => some (r30, σ31))) else (some (r22, σ23)))))))
theorem t_X7_fitsOf {L n d : Nat} {Q : am_Post} {p1 : Int} {p2 : Int} {p3 : Int} {p4 : Int} {p5 : Int} {p6 : Int} {p7 : Int} {σ σr : am_Mem} {rr : Int} (hd : 5 < d) (h : f_X7_fitsOf n p1 p2 p3 p4 p5 p6 p7 σ = some (rr, σr)) (hQ : Q (some (am_i rr)) (rm_h L σr)) : xs_aw d me_X7_fitsOf [am_r 75, am_i p1, am_i p2, am_i p3, am_i p4, am_i p5, am_i p6, am_i p7] (rm_h L σ) Q := by
  obtain ⟨d, rfl⟩ : ∃ k, d = k + 1 := ⟨d - 1, by omega⟩
  have hd : 5 ≤ d := by omega
  unfold f_X7_fitsOf at h
  show xs_AW (xs_aw d) me_X7_fitsOf Q 0 [some (am_r 75), some (am_i p1), some (am_i p2), some (am_i p3), some (am_i p4), some (am_i p5), some (am_i p6), some (am_i p7), none, none] [] (rm_h L σ)
  refine rr_aload_n dX7_fitsOf_0 rfl ?_
  refine rr_iload_n dX7_fitsOf_1 rfl ?_
  obtain ⟨r2, σ3, e1, h⟩ := ab_2 h
  refine rr_Vi (as := [am_i p1]) (rest := []) dX7_fitsOf_2 ml_7_188 (sh_75 L) ⟨(by decide), by decide, by decide⟩ rfl rfl rfl (Nat.le_of_ble_eq_true rfl) ⟨rfl, rfl⟩ (Nat.le_of_ble_eq_true rfl) (fun _ k => t_X7_isCorner (by omega) e1 k) ?_
  rcases ab_i h with ⟨c4, h⟩ | ⟨c4, h⟩
  · refine rr_if_eq_p (t := 44) dX7_fitsOf_5 (by decide) c4 ?_
    refine rr_ldc dX7_fitsOf_44 cs_7_79 ?_
    obtain ⟨rfl, rfl⟩ := ab_r2 h
    exact rr_iret dX7_fitsOf_46 rfl hQ
  · refine rr_if_eq_n (t := 44) dX7_fitsOf_5 (by decide) c4 ?_
    refine rr_iload_n dX7_fitsOf_8 rfl ?_
    obtain ⟨r6, σ7, e5, h⟩ := ab_2 h
    refine rr_Si (as := [am_i p2]) (rest := []) dX7_fitsOf_9 ml_7_75 (Or.inl rfl) rfl rfl (Nat.le_of_ble_eq_true rfl) ⟨rfl, rfl⟩ (Nat.le_of_ble_eq_true rfl) (fun _ k => t_X7_isRow (by omega) e5 k) ?_
    rcases ab_i h with ⟨c8, h⟩ | ⟨c8, h⟩
    · refine rr_if_eq_p (t := 44) dX7_fitsOf_12 (by decide) c8 ?_
      refine rr_ldc dX7_fitsOf_44 cs_7_79 ?_
      obtain ⟨rfl, rfl⟩ := ab_r2 h
      exact rr_iret dX7_fitsOf_46 rfl hQ
    · refine rr_if_eq_n (t := 44) dX7_fitsOf_12 (by decide) c8 ?_
      refine rr_iload dX7_fitsOf_15 rfl ?_
      obtain ⟨r10, σ11, e9, h⟩ := ab_2 h
      refine rr_Si (as := [am_i p4]) (rest := []) dX7_fitsOf_17 ml_7_75 (Or.inl rfl) rfl rfl (Nat.le_of_ble_eq_true rfl) ⟨rfl, rfl⟩ (Nat.le_of_ble_eq_true rfl) (fun _ k => t_X7_isRow (by omega) e9 k) ?_
      rcases ab_i h with ⟨c12, h⟩ | ⟨c12, h⟩
      · refine rr_if_eq_p (t := 44) dX7_fitsOf_20 (by decide) c12 ?_
        refine rr_ldc dX7_fitsOf_44 cs_7_79 ?_
        obtain ⟨rfl, rfl⟩ := ab_r2 h
        exact rr_iret dX7_fitsOf_46 rfl hQ
      · refine rr_if_eq_n (t := 44) dX7_fitsOf_20 (by decide) c12 ?_
        refine rr_iload dX7_fitsOf_23 rfl ?_
        refine rr_iconst dX7_fitsOf_25 (by decide) ?_
        refine rr_bipush dX7_fitsOf_26 (by decide) ?_
        obtain ⟨r14, σ15, e13, h⟩ := ab_2 h
        refine rr_Si (as := [am_i p6, am_i 1, am_i 8]) (rest := []) dX7_fitsOf_28 ml_7_71 (Or.inl rfl) rfl rfl (Nat.le_of_ble_eq_true rfl) ⟨rfl, rfl⟩ (Nat.le_of_ble_eq_true rfl) (fun _ k => t_X7_in (by omega) e13 k) ?_
        rcases ab_i h with ⟨c16, h⟩ | ⟨c16, h⟩
        · refine rr_if_eq_p (t := 44) dX7_fitsOf_31 (by decide) c16 ?_
          refine rr_ldc dX7_fitsOf_44 cs_7_79 ?_
          obtain ⟨rfl, rfl⟩ := ab_r2 h
          exact rr_iret dX7_fitsOf_46 rfl hQ
        · refine rr_if_eq_n (t := 44) dX7_fitsOf_31 (by decide) c16 ?_
          refine rr_iload dX7_fitsOf_34 rfl ?_
          refine rr_iconst dX7_fitsOf_36 (by decide) ?_
          refine rr_iconst dX7_fitsOf_37 (by decide) ?_
          obtain ⟨r18, σ19, e17, h⟩ := ab_2 h
          refine rr_Si (as := [am_i p7, am_i 0, am_i 1]) (rest := []) dX7_fitsOf_38 ml_7_71 (Or.inl rfl) rfl rfl (Nat.le_of_ble_eq_true rfl) ⟨rfl, rfl⟩ (Nat.le_of_ble_eq_true rfl) (fun _ k => t_X7_in (by omega) e17 k) ?_
          rcases ab_i h with ⟨c20, h⟩ | ⟨c20, h⟩
          · refine rr_if_ne_p (t := 47) dX7_fitsOf_41 (by decide) c20 ?_
            refine rr_ldc dX7_fitsOf_44 cs_7_79 ?_
            obtain ⟨rfl, rfl⟩ := ab_r2 h
            exact rr_iret dX7_fitsOf_46 rfl hQ
          · refine rr_if_ne_n (t := 47) dX7_fitsOf_41 (by decide) c20 ?_
            refine rr_aload_n dX7_fitsOf_47 rfl ?_
            refine rr_iload_n dX7_fitsOf_48 rfl ?_
            refine rr_iload_n dX7_fitsOf_49 rfl ?_
            refine rr_iload dX7_fitsOf_50 rfl ?_
            refine rr_iload dX7_fitsOf_52 rfl ?_
            refine rr_iload dX7_fitsOf_54 rfl ?_
            obtain ⟨r22, σ23, e21, h⟩ := ab_2 h
            refine rr_Vi (as := [am_i p2, am_i p3, am_i p4, am_i p5, am_i p6]) (rest := []) dX7_fitsOf_56 ml_7_232 (sh_75 L) ⟨(by decide), by decide, by decide⟩ rfl rfl rfl (Nat.le_of_ble_eq_true rfl) ⟨rfl, rfl⟩ (Nat.le_of_ble_eq_true rfl) (fun _ k => t_X7_bar (by omega) e21 k) ?_
            refine rr_istore (ls' := [some (am_r 75), some (am_i p1), some (am_i p2), some (am_i p3), some (am_i p4), some (am_i p5), some (am_i p6), some (am_i p7), some (am_i r22), none]) dX7_fitsOf_59 (Nat.le_of_ble_eq_true rfl) rfl ?_
            refine rr_iload dX7_fitsOf_61 rfl ?_
            rcases ab_i h with ⟨c24, h⟩ | ⟨c24, h⟩
            · refine rr_if_eq_p (t := 69) dX7_fitsOf_63 (by decide) c24 ?_
              refine rr_bipush dX7_fitsOf_69 (by decide) ?_
              refine rr_iconst dX7_fitsOf_71 (by decide) ?_
              refine rr_iload_n dX7_fitsOf_72 rfl ?_
              refine rr_imul dX7_fitsOf_73 ?_
              refine rr_iadd dX7_fitsOf_74 ?_
              refine rr_istore (ls' := [some (am_r 75), some (am_i p1), some (am_i p2), some (am_i p3), some (am_i p4), some (am_i p5), some (am_i p6), some (am_i p7), some (am_i r22), some (am_i (am_w (7 + (am_w (3 * p1)))))]) dX7_fitsOf_75 (Nat.le_of_ble_eq_true rfl) rfl ?_
              refine rr_iload dX7_fitsOf_77 rfl ?_
              rcases ab_i h with ⟨c25, h⟩ | ⟨c25, h⟩
              · refine rr_if_ne_p (t := 109) dX7_fitsOf_79 (by decide) c25 ?_
                refine rr_aload_n dX7_fitsOf_82 rfl ?_
                refine rr_iload dX7_fitsOf_83 rfl ?_
                refine rr_iconst dX7_fitsOf_85 (by decide) ?_
                refine rr_iconst dX7_fitsOf_86 (by decide) ?_
                refine rr_bipush dX7_fitsOf_87 (by decide) ?_
                refine rr_iload_n dX7_fitsOf_89 rfl ?_
                refine rr_imul dX7_fitsOf_90 ?_
                refine rr_iload_n dX7_fitsOf_91 rfl ?_
                refine rr_iadd dX7_fitsOf_92 ?_
                refine rr_bipush dX7_fitsOf_93 (by decide) ?_
                refine rr_iload dX7_fitsOf_95 rfl ?_
                refine rr_imul dX7_fitsOf_97 ?_
                refine rr_iload dX7_fitsOf_98 rfl ?_
                refine rr_iadd dX7_fitsOf_100 ?_
                refine rr_iload dX7_fitsOf_101 rfl ?_
                obtain ⟨r27, σ28, e26, h⟩ := ab_2 h
                refine rr_Vi (as := [am_i (am_w (7 + (am_w (3 * p1)))), am_i 1, am_i 5, am_i (am_w ((am_w (40 * p2)) + p3)), am_i (am_w ((am_w (40 * p4)) + p5)), am_i p6]) (rest := []) dX7_fitsOf_103 ml_7_236 (sh_75 L) ⟨(by decide), by decide, by decide⟩ rfl rfl rfl (Nat.le_of_ble_eq_true rfl) ⟨rfl, rfl⟩ (Nat.le_of_ble_eq_true rfl) (fun _ k => t_X7_all (by omega) e26 k) ?_
                refine rr_goto (t := 136) dX7_fitsOf_106 (by decide) ?_
                obtain ⟨rfl, rfl⟩ := ab_r2 h
                exact rr_iret dX7_fitsOf_136 rfl hQ
              · refine rr_if_ne_n (t := 109) dX7_fitsOf_79 (by decide) c25 ?_
                refine rr_aload_n dX7_fitsOf_109 rfl ?_
                refine rr_iload dX7_fitsOf_110 rfl ?_
                refine rr_iconst dX7_fitsOf_112 (by decide) ?_
                refine rr_iadd dX7_fitsOf_113 ?_
                refine rr_iconst dX7_fitsOf_114 (by decide) ?_
                refine rr_bipush dX7_fitsOf_115 (by decide) ?_
                refine rr_bipush dX7_fitsOf_117 (by decide) ?_
                refine rr_iload_n dX7_fitsOf_119 rfl ?_
                refine rr_imul dX7_fitsOf_120 ?_
                refine rr_iload_n dX7_fitsOf_121 rfl ?_
                refine rr_iadd dX7_fitsOf_122 ?_
                refine rr_bipush dX7_fitsOf_123 (by decide) ?_
                refine rr_iload dX7_fitsOf_125 rfl ?_
                refine rr_imul dX7_fitsOf_127 ?_
                refine rr_iload dX7_fitsOf_128 rfl ?_
                refine rr_iadd dX7_fitsOf_130 ?_
                refine rr_iload dX7_fitsOf_131 rfl ?_
                obtain ⟨r30, σ31, e29, h⟩ := ab_2 h
                refine rr_Vi (as := [am_i (am_w ((am_w (7 + (am_w (3 * p1)))) + 1)), am_i 0, am_i 9, am_i (am_w ((am_w (40 * p2)) + p3)), am_i (am_w ((am_w (40 * p4)) + p5)), am_i p6]) (rest := []) dX7_fitsOf_133 ml_7_236 (sh_75 L) ⟨(by decide), by decide, by decide⟩ rfl rfl rfl (Nat.le_of_ble_eq_true rfl) ⟨rfl, rfl⟩ (Nat.le_of_ble_eq_true rfl) (fun _ k => t_X7_all (by omega) e29 k) ?_
                obtain ⟨rfl, rfl⟩ := ab_r2 h
                exact rr_iret dX7_fitsOf_136 rfl hQ
            · refine rr_if_eq_n (t := 69) dX7_fitsOf_63 (by decide) c24 ?_
              refine rr_iload dX7_fitsOf_66 rfl ?_
              obtain ⟨rfl, rfl⟩ := ab_r2 h
              exact rr_iret dX7_fitsOf_68 rfl hQ
def nw_X7_fitsOf (a : Nat) : Prop := a ≠ 75 ∧ a ≠ 83
theorem w_X7_fitsOf {n : Nat} {p1 : Int} {p2 : Int} {p3 : Int} {p4 : Int} {p5 : Int} {p6 : Int} {p7 : Int} {σ σr : am_Mem} {rr : Int} (h : f_X7_fitsOf n p1 p2 p3 p4 p5 p6 p7 σ = some (rr, σr)) : ∀ a : Nat, nw_X7_fitsOf a → σr a = σ a := by
  unfold f_X7_fitsOf at h
  have fr : ∀ a : Nat, nw_X7_fitsOf a → σ a = σ a := fun _ _ => rfl
  obtain ⟨r2, σ3, e1, h⟩ := ab_2 h
  have fr := fun (a : Nat) (ha : nw_X7_fitsOf a) => (congrFun (u_X7_isCorner e1) a).trans (fr a ha)
  rcases ab_i h with ⟨c4, h⟩ | ⟨c4, h⟩
  · obtain ⟨q1, q2⟩ := ab_r2 h
    exact fun a ha => (congrFun q2.symm a).trans (fr a ha)
  · obtain ⟨r6, σ7, e5, h⟩ := ab_2 h
    have fr := fun (a : Nat) (ha : nw_X7_fitsOf a) => (congrFun (u_X7_isRow e5) a).trans (fr a ha)
    rcases ab_i h with ⟨c8, h⟩ | ⟨c8, h⟩
    · obtain ⟨q1, q2⟩ := ab_r2 h
      exact fun a ha => (congrFun q2.symm a).trans (fr a ha)
    · obtain ⟨r10, σ11, e9, h⟩ := ab_2 h
      have fr := fun (a : Nat) (ha : nw_X7_fitsOf a) => (congrFun (u_X7_isRow e9) a).trans (fr a ha)
      rcases ab_i h with ⟨c12, h⟩ | ⟨c12, h⟩
      · obtain ⟨q1, q2⟩ := ab_r2 h
        exact fun a ha => (congrFun q2.symm a).trans (fr a ha)
      · obtain ⟨r14, σ15, e13, h⟩ := ab_2 h
        have fr := fun (a : Nat) (ha : nw_X7_fitsOf a) => (congrFun (u_X7_in e13) a).trans (fr a ha)
        rcases ab_i h with ⟨c16, h⟩ | ⟨c16, h⟩
        · obtain ⟨q1, q2⟩ := ab_r2 h
          exact fun a ha => (congrFun q2.symm a).trans (fr a ha)
        · obtain ⟨r18, σ19, e17, h⟩ := ab_2 h
          have fr := fun (a : Nat) (ha : nw_X7_fitsOf a) => (congrFun (u_X7_in e17) a).trans (fr a ha)
          rcases ab_i h with ⟨c20, h⟩ | ⟨c20, h⟩
          · obtain ⟨q1, q2⟩ := ab_r2 h
            exact fun a ha => (congrFun q2.symm a).trans (fr a ha)
          · obtain ⟨r22, σ23, e21, h⟩ := ab_2 h
            have fr := fun (a : Nat) (ha : nw_X7_fitsOf a) => (w_X7_bar e21 a (by unfold nw_X7_fitsOf at ha; unfold nw_X7_bar; omega)).trans (fr a ha)
            rcases ab_i h with ⟨c24, h⟩ | ⟨c24, h⟩
            · rcases ab_i h with ⟨c25, h⟩ | ⟨c25, h⟩
              · obtain ⟨r27, σ28, e26, h⟩ := ab_2 h
                have fr := fun (a : Nat) (ha : nw_X7_fitsOf a) => (w_X7_all e26 a (by unfold nw_X7_fitsOf at ha; unfold nw_X7_all; omega)).trans (fr a ha)
                obtain ⟨q1, q2⟩ := ab_r2 h
                exact fun a ha => (congrFun q2.symm a).trans (fr a ha)
              · obtain ⟨r30, σ31, e29, h⟩ := ab_2 h
                have fr := fun (a : Nat) (ha : nw_X7_fitsOf a) => (w_X7_all e29 a (by unfold nw_X7_fitsOf at ha; unfold nw_X7_all; omega)).trans (fr a ha)
                obtain ⟨q1, q2⟩ := ab_r2 h
                exact fun a ha => (congrFun q2.symm a).trans (fr a ha)
            · obtain ⟨q1, q2⟩ := ab_r2 h
              exact fun a ha => (congrFun q2.symm a).trans (fr a ha)
/-! MoodFareModel.share -/
def fb_X7_share_91 (n : Nat) (kh91 : Int → Int → Int → Int → Int → Int → am_Mem → Option (Int × am_Mem)) (x1 : Int) (x2 : Int) (x3 : Int) (x4 : Int) (x5 : Int) (x6 : Int) (σ : am_Mem) : Option (Int × am_Mem) :=
  if x6 < x3 then (if (0 : Int) ≤ am_w ((am_w ((am_w (40 * x1)) + x2)) + x6) ∧ am_w ((am_w ((am_w (40 * x1)) + x2)) + x6) < 320 then am_b2 (f_X7_goes n 83 42 (σ 78 (am_w ((am_w ((am_w (40 * x1)) + x2)) + x6))) (σ 83 4) σ) fun r34 σ35 => if r34 = 0 then (am_b2 (f_X7_well n (-1000000) σ35) fun r38 σ39 => some (r38, σ39)) else (if x6 < x4 then (am_b1 (f_X7_rides n 83 42 (σ 78 (am_w ((am_w ((am_w (40 * x1)) + x2)) + x6))) σ35) fun σ43 => kh91 x1 x2 x3 x4 (am_w (x5 + 0)) (am_w (x6 + 1)) σ43) else (if (0 : Int) ≤ am_w ((am_w (26 + (am_w (2 * (σ 78 (am_w ((am_w ((am_w (40 * x1)) + x2)) + x6))))))) + 1) ∧ am_w ((am_w (26 + (am_w (2 * (σ 78 (am_w ((am_w ((am_w (40 * x1)) + x2)) + x6))))))) + 1) < 42 then am_b2 (f_X7_cost n 83 42 (σ35 83 (am_w ((am_w (26 + (am_w (2 * (σ 78 (am_w ((am_w ((am_w (40 * x1)) + x2)) + x6))))))) + 1))) (σ35 83 1) (σ35 83 3) σ35) fun r46 σ47 => am_b1 (f_X7_rides n 83 42 (σ 78 (am_w ((am_w ((am_w (40 * x1)) + x2)) + x6))) σ47) fun σ50 => kh91 x1 x2 x3 x4 (am_w (x5 + (am_w (Int.tdiv r46 2)))) (am_w (x6 + 1)) σ50 else none)) else none) else (am_b2 (f_X7_well n x5 σ) fun r52 σ53 => some (r52, σ53))
def fl_X7_share_91 (n : Nat) : Nat → Int → Int → Int → Int → Int → Int → am_Mem → Option (Int × am_Mem)
  | 0, _, _, _, _, _, _, _ => none
  | m + 1, x1, x2, x3, x4, x5, x6, σ => fb_X7_share_91 n (fun yx1 yx2 yx3 yx4 yx5 yx6 σ => fl_X7_share_91 n m yx1 yx2 yx3 yx4 yx5 yx6 σ) x1 x2 x3 x4 x5 x6 σ
def f_X7_share (n : Nat) (p1 : Int) (p2 : Int) (p3 : Int) (p4 : Int) (σ : am_Mem) : Option (Int × am_Mem) :=
  am_b2 (f_X7_isTown n σ) fun r2 σ3 => if r2 = 0 then (some ((-1000002), σ3)) else (am_b2 (f_X7_isRow n p1 σ3) fun r6 σ7 => if r6 = 0 then (some ((-1000001), σ7)) else (am_b2 (f_X7_in n p3 1 8 σ7) fun r10 σ11 => if r10 = 0 then (some ((-1000001), σ11)) else (am_b2 (f_X7_in n p4 0 (am_w (p3 - 1)) σ11) fun r14 σ15 => if r14 = 0 then (some ((-1000001), σ15)) else (am_b2 (f_X7_isMissing n p1 σ15) fun r18 σ19 => if r18 = 0 then (am_b2 (f_X7_isPart n p1 p2 p3 σ19) fun r22 σ23 => if r22 = 0 then (am_b2 (f_X7_found n 2 σ23) fun r26 σ27 => some (r26, σ27)) else (am_b1 (f_X7_copies n 81 42 83 42 0 0 σ23) fun σ30 => fl_X7_share_91 n n p1 p2 p3 p4 0 0 σ30)) else (am_b2 (f_X7_found n 1 σ19) fun r55 σ56 => some (r55, σ56))))))
theorem tb_X7_share_91 {L n d : Nat} {Q : am_Post} {kh91 : Int → Int → Int → Int → Int → Int → am_Mem → Option (Int × am_Mem)} {x1 : Int} {x2 : Int} {x3 : Int} {x4 : Int} {x5 : Int} {x6 : Int} {o7 : Option am_V} {σ σr : am_Mem} {rr : Int} (hd : 3 ≤ d) (hk91 : ∀ (y1 : Int) (y2 : Int) (y3 : Int) (y4 : Int) (y5 : Int) (y6 : Int) (σ : am_Mem), kh91 y1 y2 y3 y4 y5 y6 σ = some (rr, σr) → ∀ (o7 : Option am_V), xs_AW (xs_aw d) me_X7_share Q 91 [some (am_r 75), some (am_i y1), some (am_i y2), some (am_i y3), some (am_i y4), some (am_i y5), some (am_i y6), o7] [] (rm_h L σ)) (hQ : Q (some (am_i rr)) (rm_h L σr)) (h : fb_X7_share_91 n kh91 x1 x2 x3 x4 x5 x6 σ = some (rr, σr)) : xs_AW (xs_aw d) me_X7_share Q 91 [some (am_r 75), some (am_i x1), some (am_i x2), some (am_i x3), some (am_i x4), some (am_i x5), some (am_i x6), o7] [] (rm_h L σ) := by
  unfold fb_X7_share_91 at h
  refine rr_iload dX7_share_91 rfl ?_
  refine rr_iload_n dX7_share_93 rfl ?_
  rcases ab_i h with ⟨c31, h⟩ | ⟨c31, h⟩
  · refine rr_icmp_ge_p (t := 204) dX7_share_94 (by decide) c31 ?_
    refine rr_aload_n dX7_share_97 rfl ?_
    refine rr_getr (t := 78) dX7_share_98 fl_7_16 (sh_75 L) ⟨(by decide), by decide⟩ rfl rfl ?_
    refine rr_bipush dX7_share_101 (by decide) ?_
    refine rr_iload_n dX7_share_103 rfl ?_
    refine rr_imul dX7_share_104 ?_
    refine rr_iload_n dX7_share_105 rfl ?_
    refine rr_iadd dX7_share_106 ?_
    refine rr_iload dX7_share_107 rfl ?_
    refine rr_iadd dX7_share_109 ?_
    obtain ⟨g32, h⟩ := ab_g h
    refine rr_iald (nz := 320) dX7_share_110 (sh_78 L) rfl g32 ?_
    refine rr_istore (ls' := [some (am_r 75), some (am_i x1), some (am_i x2), some (am_i x3), some (am_i x4), some (am_i x5), some (am_i x6), some (am_i (σ 78 (am_w ((am_w ((am_w (40 * x1)) + x2)) + x6))))]) dX7_share_111 (Nat.le_of_ble_eq_true rfl) rfl ?_
    refine rr_aload_n dX7_share_113 rfl ?_
    refine rr_getr (t := 83) dX7_share_114 fl_7_31 (sh_75 L) ⟨(by decide), by decide⟩ rfl rfl ?_
    refine rr_iload dX7_share_117 rfl ?_
    refine rr_aload_n dX7_share_119 rfl ?_
    refine rr_getr (t := 83) dX7_share_120 fl_7_31 (sh_75 L) ⟨(by decide), by decide⟩ rfl rfl ?_
    refine rr_iconst dX7_share_123 (by decide) ?_
    refine rr_iald (nz := 42) dX7_share_124 (sh_83 L) rfl ⟨by decide, by decide⟩ ?_
    obtain ⟨r34, σ35, e33, h⟩ := ab_2 h
    refine rr_Si (as := [am_r 83, am_i (σ 78 (am_w ((am_w ((am_w (40 * x1)) + x2)) + x6))), am_i (σ 83 4)]) (rest := []) dX7_share_125 ml_7_176 (Or.inl rfl) rfl rfl (Nat.le_of_ble_eq_true rfl) ⟨rfl, rfl⟩ (Nat.le_of_ble_eq_true rfl) (fun _ k => t_X7_goes (by omega) (sh_83 L) (by decide) e33 k) ?_
    rcases ab_i h with ⟨c36, h⟩ | ⟨c36, h⟩
    · refine rr_if_ne_p (t := 138) dX7_share_128 (by decide) c36 ?_
      refine rr_aload_n dX7_share_131 rfl ?_
      refine rr_ldc dX7_share_132 cs_7_65 ?_
      obtain ⟨r38, σ39, e37, h⟩ := ab_2 h
      refine rr_Vi (as := [am_i (-1000000)]) (rest := []) dX7_share_134 ml_7_84 (sh_75 L) ⟨(by decide), by decide, by decide⟩ rfl rfl rfl (Nat.le_of_ble_eq_true rfl) ⟨rfl, rfl⟩ (Nat.le_of_ble_eq_true rfl) (fun _ k => t_X7_well (by omega) e37 k) ?_
      obtain ⟨rfl, rfl⟩ := ab_r2 h
      exact rr_iret dX7_share_137 rfl hQ
    · refine rr_if_ne_n (t := 138) dX7_share_128 (by decide) c36 ?_
      refine rr_iload dX7_share_138 rfl ?_
      refine rr_iload dX7_share_140 rfl ?_
      refine rr_iload dX7_share_142 rfl ?_
      rcases ab_i h with ⟨c40, h⟩ | ⟨c40, h⟩
      · refine rr_icmp_ge_p (t := 151) dX7_share_144 (by decide) c40 ?_
        refine rr_iconst dX7_share_147 (by decide) ?_
        refine rr_goto (t := 186) dX7_share_148 (by decide) ?_
        refine rr_iadd dX7_share_186 ?_
        refine rr_istore (ls' := [some (am_r 75), some (am_i x1), some (am_i x2), some (am_i x3), some (am_i x4), some (am_i (am_w (x5 + 0))), some (am_i x6), some (am_i (σ 78 (am_w ((am_w ((am_w (40 * x1)) + x2)) + x6))))]) dX7_share_187 (Nat.le_of_ble_eq_true rfl) rfl ?_
        refine rr_aload_n dX7_share_189 rfl ?_
        refine rr_getr (t := 83) dX7_share_190 fl_7_31 (sh_75 L) ⟨(by decide), by decide⟩ rfl rfl ?_
        refine rr_iload dX7_share_193 rfl ?_
        obtain ⟨σ43, e41, h⟩ := ab_1 h
        refine rr_Sv (as := [am_r 83, am_i (σ 78 (am_w ((am_w ((am_w (40 * x1)) + x2)) + x6)))]) (rest := []) dX7_share_195 ml_7_184 (Or.inl rfl) rfl rfl (Nat.le_of_ble_eq_true rfl) ⟨rfl, rfl⟩ (Nat.le_of_ble_eq_true rfl) (fun _ k => t_X7_rides (by omega) (sh_83 L) (by decide) e41 k) ?_
        refine rr_iinc (ls' := [some (am_r 75), some (am_i x1), some (am_i x2), some (am_i x3), some (am_i x4), some (am_i (am_w (x5 + 0))), some (am_i (am_w (x6 + 1))), some (am_i (σ 78 (am_w ((am_w ((am_w (40 * x1)) + x2)) + x6))))]) dX7_share_198 rfl (Nat.le_of_ble_eq_true rfl) rfl ?_
        refine rr_goto (t := 91) dX7_share_201 (by decide) ?_
        exact hk91 _ _ _ _ _ _ _ h _
      · refine rr_icmp_ge_n (t := 151) dX7_share_144 (by decide) c40 ?_
        refine rr_aload_n dX7_share_151 rfl ?_
        refine rr_getr (t := 83) dX7_share_152 fl_7_31 (sh_75 L) ⟨(by decide), by decide⟩ rfl rfl ?_
        refine rr_aload_n dX7_share_155 rfl ?_
        refine rr_getr (t := 83) dX7_share_156 fl_7_31 (sh_75 L) ⟨(by decide), by decide⟩ rfl rfl ?_
        refine rr_bipush dX7_share_159 (by decide) ?_
        refine rr_iconst dX7_share_161 (by decide) ?_
        refine rr_iload dX7_share_162 rfl ?_
        refine rr_imul dX7_share_164 ?_
        refine rr_iadd dX7_share_165 ?_
        refine rr_iconst dX7_share_166 (by decide) ?_
        refine rr_iadd dX7_share_167 ?_
        obtain ⟨g44, h⟩ := ab_g h
        refine rr_iald (nz := 42) dX7_share_168 (sh_83 L) rfl g44 ?_
        refine rr_aload_n dX7_share_169 rfl ?_
        refine rr_getr (t := 83) dX7_share_170 fl_7_31 (sh_75 L) ⟨(by decide), by decide⟩ rfl rfl ?_
        refine rr_iconst dX7_share_173 (by decide) ?_
        refine rr_iald (nz := 42) dX7_share_174 (sh_83 L) rfl ⟨by decide, by decide⟩ ?_
        refine rr_aload_n dX7_share_175 rfl ?_
        refine rr_getr (t := 83) dX7_share_176 fl_7_31 (sh_75 L) ⟨(by decide), by decide⟩ rfl rfl ?_
        refine rr_iconst dX7_share_179 (by decide) ?_
        refine rr_iald (nz := 42) dX7_share_180 (sh_83 L) rfl ⟨by decide, by decide⟩ ?_
        obtain ⟨r46, σ47, e45, h⟩ := ab_2 h
        refine rr_Si (as := [am_r 83, am_i (σ35 83 (am_w ((am_w (26 + (am_w (2 * (σ 78 (am_w ((am_w ((am_w (40 * x1)) + x2)) + x6))))))) + 1))), am_i (σ35 83 1), am_i (σ35 83 3)]) (rest := [am_i x5]) dX7_share_181 ml_7_170 (Or.inl rfl) rfl rfl (Nat.le_of_ble_eq_true rfl) ⟨rfl, rfl⟩ (Nat.le_of_ble_eq_true rfl) (fun _ k => t_X7_cost (by omega) (sh_83 L) (by decide) e45 k) ?_
        refine rr_iconst dX7_share_184 (by decide) ?_
        refine rr_idiv dX7_share_185 (by decide) ?_
        refine rr_iadd dX7_share_186 ?_
        refine rr_istore (ls' := [some (am_r 75), some (am_i x1), some (am_i x2), some (am_i x3), some (am_i x4), some (am_i (am_w (x5 + (am_w (Int.tdiv r46 2))))), some (am_i x6), some (am_i (σ 78 (am_w ((am_w ((am_w (40 * x1)) + x2)) + x6))))]) dX7_share_187 (Nat.le_of_ble_eq_true rfl) rfl ?_
        refine rr_aload_n dX7_share_189 rfl ?_
        refine rr_getr (t := 83) dX7_share_190 fl_7_31 (sh_75 L) ⟨(by decide), by decide⟩ rfl rfl ?_
        refine rr_iload dX7_share_193 rfl ?_
        obtain ⟨σ50, e48, h⟩ := ab_1 h
        refine rr_Sv (as := [am_r 83, am_i (σ 78 (am_w ((am_w ((am_w (40 * x1)) + x2)) + x6)))]) (rest := []) dX7_share_195 ml_7_184 (Or.inl rfl) rfl rfl (Nat.le_of_ble_eq_true rfl) ⟨rfl, rfl⟩ (Nat.le_of_ble_eq_true rfl) (fun _ k => t_X7_rides (by omega) (sh_83 L) (by decide) e48 k) ?_
        refine rr_iinc (ls' := [some (am_r 75), some (am_i x1), some (am_i x2), some (am_i x3), some (am_i x4), some (am_i (am_w (x5 + (am_w (Int.tdiv r46 2))))), some (am_i (am_w (x6 + 1))), some (am_i (σ 78 (am_w ((am_w ((am_w (40 * x1)) + x2)) + x6))))]) dX7_share_198 rfl (Nat.le_of_ble_eq_true rfl) rfl ?_
        refine rr_goto (t := 91) dX7_share_201 (by decide) ?_
        exact hk91 _ _ _ _ _ _ _ h _
  · refine rr_icmp_ge_n (t := 204) dX7_share_94 (by decide) c31 ?_
    refine rr_aload_n dX7_share_204 rfl ?_
    refine rr_iload dX7_share_205 rfl ?_
    obtain ⟨r52, σ53, e51, h⟩ := ab_2 h
    refine rr_Vi (as := [am_i x5]) (rest := []) dX7_share_207 ml_7_84 (sh_75 L) ⟨(by decide), by decide, by decide⟩ rfl rfl rfl (Nat.le_of_ble_eq_true rfl) ⟨rfl, rfl⟩ (Nat.le_of_ble_eq_true rfl) (fun _ k => t_X7_well (by omega) e51 k) ?_
    obtain ⟨rfl, rfl⟩ := ab_r2 h
    exact rr_iret dX7_share_210 rfl hQ
theorem tl_X7_share_91 {L n d : Nat} {Q : am_Post} {σr : am_Mem} {rr : Int} (hd : 3 ≤ d) (hQ : Q (some (am_i rr)) (rm_h L σr)) : ∀ (m : Nat) (x1 : Int) (x2 : Int) (x3 : Int) (x4 : Int) (x5 : Int) (x6 : Int) (σ : am_Mem) (o7 : Option am_V), fl_X7_share_91 n m x1 x2 x3 x4 x5 x6 σ = some (rr, σr) → xs_AW (xs_aw d) me_X7_share Q 91 [some (am_r 75), some (am_i x1), some (am_i x2), some (am_i x3), some (am_i x4), some (am_i x5), some (am_i x6), o7] [] (rm_h L σ) := by
  intro m
  induction m with
  | zero => intro x1 x2 x3 x4 x5 x6 σ o7 h; cases h
  | succ m ih =>
    intro x1 x2 x3 x4 x5 x6 σ o7 h
    exact tb_X7_share_91 hd (fun x1 x2 x3 x4 x5 x6 σ h o7 => ih x1 x2 x3 x4 x5 x6 σ o7 h) hQ h
theorem t_X7_share {L n d : Nat} {Q : am_Post} {p1 : Int} {p2 : Int} {p3 : Int} {p4 : Int} {σ σr : am_Mem} {rr : Int} (hd : 3 < d) (h : f_X7_share n p1 p2 p3 p4 σ = some (rr, σr)) (hQ : Q (some (am_i rr)) (rm_h L σr)) : xs_aw d me_X7_share [am_r 75, am_i p1, am_i p2, am_i p3, am_i p4] (rm_h L σ) Q := by
  obtain ⟨d, rfl⟩ : ∃ k, d = k + 1 := ⟨d - 1, by omega⟩
  have hd : 3 ≤ d := by omega
  unfold f_X7_share at h
  show xs_AW (xs_aw d) me_X7_share Q 0 [some (am_r 75), some (am_i p1), some (am_i p2), some (am_i p3), some (am_i p4), none, none, none] [] (rm_h L σ)
  refine rr_aload_n dX7_share_0 rfl ?_
  obtain ⟨r2, σ3, e1, h⟩ := ab_2 h
  refine rr_Vi (as := []) (rest := []) dX7_share_1 ml_7_191 (sh_75 L) ⟨(by decide), by decide, by decide⟩ rfl rfl rfl (Nat.le_of_ble_eq_true rfl) ⟨rfl, rfl⟩ (Nat.le_of_ble_eq_true rfl) (fun _ k => t_X7_isTown (by omega) e1 k) ?_
  rcases ab_i h with ⟨c4, h⟩ | ⟨c4, h⟩
  · refine rr_if_ne_p (t := 10) dX7_share_4 (by decide) c4 ?_
    refine rr_ldc dX7_share_7 cs_7_180 ?_
    obtain ⟨rfl, rfl⟩ := ab_r2 h
    exact rr_iret dX7_share_9 rfl hQ
  · refine rr_if_ne_n (t := 10) dX7_share_4 (by decide) c4 ?_
    refine rr_iload_n dX7_share_10 rfl ?_
    obtain ⟨r6, σ7, e5, h⟩ := ab_2 h
    refine rr_Si (as := [am_i p1]) (rest := []) dX7_share_11 ml_7_75 (Or.inl rfl) rfl rfl (Nat.le_of_ble_eq_true rfl) ⟨rfl, rfl⟩ (Nat.le_of_ble_eq_true rfl) (fun _ k => t_X7_isRow (by omega) e5 k) ?_
    rcases ab_i h with ⟨c8, h⟩ | ⟨c8, h⟩
    · refine rr_if_eq_p (t := 39) dX7_share_14 (by decide) c8 ?_
      refine rr_ldc dX7_share_39 cs_7_79 ?_
      obtain ⟨rfl, rfl⟩ := ab_r2 h
      exact rr_iret dX7_share_41 rfl hQ
    · refine rr_if_eq_n (t := 39) dX7_share_14 (by decide) c8 ?_
      refine rr_iload_n dX7_share_17 rfl ?_
      refine rr_iconst dX7_share_18 (by decide) ?_
      refine rr_bipush dX7_share_19 (by decide) ?_
      obtain ⟨r10, σ11, e9, h⟩ := ab_2 h
      refine rr_Si (as := [am_i p3, am_i 1, am_i 8]) (rest := []) dX7_share_21 ml_7_71 (Or.inl rfl) rfl rfl (Nat.le_of_ble_eq_true rfl) ⟨rfl, rfl⟩ (Nat.le_of_ble_eq_true rfl) (fun _ k => t_X7_in (by omega) e9 k) ?_
      rcases ab_i h with ⟨c12, h⟩ | ⟨c12, h⟩
      · refine rr_if_eq_p (t := 39) dX7_share_24 (by decide) c12 ?_
        refine rr_ldc dX7_share_39 cs_7_79 ?_
        obtain ⟨rfl, rfl⟩ := ab_r2 h
        exact rr_iret dX7_share_41 rfl hQ
      · refine rr_if_eq_n (t := 39) dX7_share_24 (by decide) c12 ?_
        refine rr_iload dX7_share_27 rfl ?_
        refine rr_iconst dX7_share_29 (by decide) ?_
        refine rr_iload_n dX7_share_30 rfl ?_
        refine rr_iconst dX7_share_31 (by decide) ?_
        refine rr_isub dX7_share_32 ?_
        obtain ⟨r14, σ15, e13, h⟩ := ab_2 h
        refine rr_Si (as := [am_i p4, am_i 0, am_i (am_w (p3 - 1))]) (rest := []) dX7_share_33 ml_7_71 (Or.inl rfl) rfl rfl (Nat.le_of_ble_eq_true rfl) ⟨rfl, rfl⟩ (Nat.le_of_ble_eq_true rfl) (fun _ k => t_X7_in (by omega) e13 k) ?_
        rcases ab_i h with ⟨c16, h⟩ | ⟨c16, h⟩
        · refine rr_if_ne_p (t := 42) dX7_share_36 (by decide) c16 ?_
          refine rr_ldc dX7_share_39 cs_7_79 ?_
          obtain ⟨rfl, rfl⟩ := ab_r2 h
          exact rr_iret dX7_share_41 rfl hQ
        · refine rr_if_ne_n (t := 42) dX7_share_36 (by decide) c16 ?_
          refine rr_aload_n dX7_share_42 rfl ?_
          refine rr_iload_n dX7_share_43 rfl ?_
          obtain ⟨r18, σ19, e17, h⟩ := ab_2 h
          refine rr_Vi (as := [am_i p1]) (rest := []) dX7_share_44 ml_7_87 (sh_75 L) ⟨(by decide), by decide, by decide⟩ rfl rfl rfl (Nat.le_of_ble_eq_true rfl) ⟨rfl, rfl⟩ (Nat.le_of_ble_eq_true rfl) (fun _ k => t_X7_isMissing (by omega) e17 k) ?_
          rcases ab_i h with ⟨c20, h⟩ | ⟨c20, h⟩
          · refine rr_if_eq_p (t := 56) dX7_share_47 (by decide) c20 ?_
            refine rr_aload_n dX7_share_56 rfl ?_
            refine rr_iload_n dX7_share_57 rfl ?_
            refine rr_iload_n dX7_share_58 rfl ?_
            refine rr_iload_n dX7_share_59 rfl ?_
            obtain ⟨r22, σ23, e21, h⟩ := ab_2 h
            refine rr_Vi (as := [am_i p1, am_i p2, am_i p3]) (rest := []) dX7_share_60 ml_7_94 (sh_75 L) ⟨(by decide), by decide, by decide⟩ rfl rfl rfl (Nat.le_of_ble_eq_true rfl) ⟨rfl, rfl⟩ (Nat.le_of_ble_eq_true rfl) (fun _ k => t_X7_isPart (by omega) e21 k) ?_
            rcases ab_i h with ⟨c24, h⟩ | ⟨c24, h⟩
            · refine rr_if_ne_p (t := 72) dX7_share_63 (by decide) c24 ?_
              refine rr_aload_n dX7_share_66 rfl ?_
              refine rr_iconst dX7_share_67 (by decide) ?_
              obtain ⟨r26, σ27, e25, h⟩ := ab_2 h
              refine rr_Vi (as := [am_i 2]) (rest := []) dX7_share_68 ml_7_80 (sh_75 L) ⟨(by decide), by decide, by decide⟩ rfl rfl rfl (Nat.le_of_ble_eq_true rfl) ⟨rfl, rfl⟩ (Nat.le_of_ble_eq_true rfl) (fun _ k => t_X7_found (by omega) e25 k) ?_
              obtain ⟨rfl, rfl⟩ := ab_r2 h
              exact rr_iret dX7_share_71 rfl hQ
            · refine rr_if_ne_n (t := 72) dX7_share_63 (by decide) c24 ?_
              refine rr_aload_n dX7_share_72 rfl ?_
              refine rr_getr (t := 81) dX7_share_73 fl_7_25 (sh_75 L) ⟨(by decide), by decide⟩ rfl rfl ?_
              refine rr_iconst dX7_share_76 (by decide) ?_
              refine rr_aload_n dX7_share_77 rfl ?_
              refine rr_getr (t := 83) dX7_share_78 fl_7_31 (sh_75 L) ⟨(by decide), by decide⟩ rfl rfl ?_
              refine rr_iconst dX7_share_81 (by decide) ?_
              obtain ⟨σ30, e28, h⟩ := ab_1 h
              refine rr_Sv (as := [am_r 81, am_i 0, am_r 83, am_i 0]) (rest := []) dX7_share_82 ml_7_156 (Or.inl rfl) rfl rfl (Nat.le_of_ble_eq_true rfl) ⟨rfl, rfl⟩ (Nat.le_of_ble_eq_true rfl) (fun _ k => t_X7_copies (by omega) (sh_81 L) (by decide) (sh_83 L) (by decide) e28 k) ?_
              refine rr_iconst dX7_share_85 (by decide) ?_
              refine rr_istore (ls' := [some (am_r 75), some (am_i p1), some (am_i p2), some (am_i p3), some (am_i p4), some (am_i 0), none, none]) dX7_share_86 (Nat.le_of_ble_eq_true rfl) rfl ?_
              refine rr_iconst dX7_share_88 (by decide) ?_
              refine rr_istore (ls' := [some (am_r 75), some (am_i p1), some (am_i p2), some (am_i p3), some (am_i p4), some (am_i 0), some (am_i 0), none]) dX7_share_89 (Nat.le_of_ble_eq_true rfl) rfl ?_
              exact tl_X7_share_91 hd hQ n _ _ _ _ _ _ _ _ h
          · refine rr_if_eq_n (t := 56) dX7_share_47 (by decide) c20 ?_
            refine rr_aload_n dX7_share_50 rfl ?_
            refine rr_iconst dX7_share_51 (by decide) ?_
            obtain ⟨r55, σ56, e54, h⟩ := ab_2 h
            refine rr_Vi (as := [am_i 1]) (rest := []) dX7_share_52 ml_7_80 (sh_75 L) ⟨(by decide), by decide, by decide⟩ rfl rfl rfl (Nat.le_of_ble_eq_true rfl) ⟨rfl, rfl⟩ (Nat.le_of_ble_eq_true rfl) (fun _ k => t_X7_found (by omega) e54 k) ?_
            obtain ⟨rfl, rfl⟩ := ab_r2 h
            exact rr_iret dX7_share_55 rfl hQ
def nw_X7_share (a : Nat) : Prop := a ≠ 75 ∧ a ≠ 83
theorem wb_X7_share_91 {n : Nat} {kh91 : Int → Int → Int → Int → Int → Int → am_Mem → Option (Int × am_Mem)} {x1 : Int} {x2 : Int} {x3 : Int} {x4 : Int} {x5 : Int} {x6 : Int} {σ σr : am_Mem} {rr : Int} (hk91 : ∀ (y1 : Int) (y2 : Int) (y3 : Int) (y4 : Int) (y5 : Int) (y6 : Int) (σ : am_Mem), kh91 y1 y2 y3 y4 y5 y6 σ = some (rr, σr) → ∀ a : Nat, nw_X7_share a → σr a = σ a) (h : fb_X7_share_91 n kh91 x1 x2 x3 x4 x5 x6 σ = some (rr, σr)) : ∀ a : Nat, nw_X7_share a → σr a = σ a := by
  unfold fb_X7_share_91 at h
  have fr : ∀ a : Nat, nw_X7_share a → σ a = σ a := fun _ _ => rfl
  rcases ab_i h with ⟨c31, h⟩ | ⟨c31, h⟩
  · obtain ⟨g32, h⟩ := ab_g h
    obtain ⟨r34, σ35, e33, h⟩ := ab_2 h
    have fr := fun (a : Nat) (ha : nw_X7_share a) => (congrFun (u_X7_goes e33) a).trans (fr a ha)
    rcases ab_i h with ⟨c36, h⟩ | ⟨c36, h⟩
    · obtain ⟨r38, σ39, e37, h⟩ := ab_2 h
      have fr := fun (a : Nat) (ha : nw_X7_share a) => (w_X7_well e37 a (by unfold nw_X7_share at ha; unfold nw_X7_well; omega)).trans (fr a ha)
      obtain ⟨q1, q2⟩ := ab_r2 h
      exact fun a ha => (congrFun q2.symm a).trans (fr a ha)
    · rcases ab_i h with ⟨c40, h⟩ | ⟨c40, h⟩
      · obtain ⟨σ43, e41, h⟩ := ab_1 h
        have fr := fun (a : Nat) (ha : nw_X7_share a) => (w_X7_rides e41 a (by unfold nw_X7_share at ha; unfold nw_X7_rides; omega)).trans (fr a ha)
        exact fun a ha => (hk91 _ _ _ _ _ _ _ h a ha).trans (fr a ha)
      · obtain ⟨g44, h⟩ := ab_g h
        obtain ⟨r46, σ47, e45, h⟩ := ab_2 h
        have fr := fun (a : Nat) (ha : nw_X7_share a) => (congrFun (u_X7_cost e45) a).trans (fr a ha)
        obtain ⟨σ50, e48, h⟩ := ab_1 h
        have fr := fun (a : Nat) (ha : nw_X7_share a) => (w_X7_rides e48 a (by unfold nw_X7_share at ha; unfold nw_X7_rides; omega)).trans (fr a ha)
        exact fun a ha => (hk91 _ _ _ _ _ _ _ h a ha).trans (fr a ha)
  · obtain ⟨r52, σ53, e51, h⟩ := ab_2 h
    have fr := fun (a : Nat) (ha : nw_X7_share a) => (w_X7_well e51 a (by unfold nw_X7_share at ha; unfold nw_X7_well; omega)).trans (fr a ha)
    obtain ⟨q1, q2⟩ := ab_r2 h
    exact fun a ha => (congrFun q2.symm a).trans (fr a ha)
theorem wl_X7_share_91 {n : Nat} {σr : am_Mem} {rr : Int} : ∀ (m : Nat) (x1 : Int) (x2 : Int) (x3 : Int) (x4 : Int) (x5 : Int) (x6 : Int) (σ : am_Mem), fl_X7_share_91 n m x1 x2 x3 x4 x5 x6 σ = some (rr, σr) → ∀ a : Nat, nw_X7_share a → σr a = σ a := by
  intro m
  induction m with
  | zero => intro x1 x2 x3 x4 x5 x6 σ h; cases h
  | succ m ih =>
    intro x1 x2 x3 x4 x5 x6 σ h
    exact wb_X7_share_91 (fun x1 x2 x3 x4 x5 x6 σ h => ih x1 x2 x3 x4 x5 x6 σ h) h
theorem w_X7_share {n : Nat} {p1 : Int} {p2 : Int} {p3 : Int} {p4 : Int} {σ σr : am_Mem} {rr : Int} (h : f_X7_share n p1 p2 p3 p4 σ = some (rr, σr)) : ∀ a : Nat, nw_X7_share a → σr a = σ a := by
  unfold f_X7_share at h
  have fr : ∀ a : Nat, nw_X7_share a → σ a = σ a := fun _ _ => rfl
  obtain ⟨r2, σ3, e1, h⟩ := ab_2 h
  have fr := fun (a : Nat) (ha : nw_X7_share a) => (congrFun (u_X7_isTown e1) a).trans (fr a ha)
  rcases ab_i h with ⟨c4, h⟩ | ⟨c4, h⟩
  · obtain ⟨q1, q2⟩ := ab_r2 h
    exact fun a ha => (congrFun q2.symm a).trans (fr a ha)
  · obtain ⟨r6, σ7, e5, h⟩ := ab_2 h
    have fr := fun (a : Nat) (ha : nw_X7_share a) => (congrFun (u_X7_isRow e5) a).trans (fr a ha)
    rcases ab_i h with ⟨c8, h⟩ | ⟨c8, h⟩
    · obtain ⟨q1, q2⟩ := ab_r2 h
      exact fun a ha => (congrFun q2.symm a).trans (fr a ha)
    · obtain ⟨r10, σ11, e9, h⟩ := ab_2 h
      have fr := fun (a : Nat) (ha : nw_X7_share a) => (congrFun (u_X7_in e9) a).trans (fr a ha)
      rcases ab_i h with ⟨c12, h⟩ | ⟨c12, h⟩
      · obtain ⟨q1, q2⟩ := ab_r2 h
        exact fun a ha => (congrFun q2.symm a).trans (fr a ha)
      · obtain ⟨r14, σ15, e13, h⟩ := ab_2 h
        have fr := fun (a : Nat) (ha : nw_X7_share a) => (congrFun (u_X7_in e13) a).trans (fr a ha)
        rcases ab_i h with ⟨c16, h⟩ | ⟨c16, h⟩
        · obtain ⟨q1, q2⟩ := ab_r2 h
          exact fun a ha => (congrFun q2.symm a).trans (fr a ha)
        · obtain ⟨r18, σ19, e17, h⟩ := ab_2 h
          have fr := fun (a : Nat) (ha : nw_X7_share a) => (congrFun (u_X7_isMissing e17) a).trans (fr a ha)
          rcases ab_i h with ⟨c20, h⟩ | ⟨c20, h⟩
          · obtain ⟨r22, σ23, e21, h⟩ := ab_2 h
            have fr := fun (a : Nat) (ha : nw_X7_share a) => (congrFun (u_X7_isPart e21) a).trans (fr a ha)
            rcases ab_i h with ⟨c24, h⟩ | ⟨c24, h⟩
            · obtain ⟨r26, σ27, e25, h⟩ := ab_2 h
              have fr := fun (a : Nat) (ha : nw_X7_share a) => (w_X7_found e25 a (by unfold nw_X7_share at ha; unfold nw_X7_found; omega)).trans (fr a ha)
              obtain ⟨q1, q2⟩ := ab_r2 h
              exact fun a ha => (congrFun q2.symm a).trans (fr a ha)
            · obtain ⟨σ30, e28, h⟩ := ab_1 h
              have fr := fun (a : Nat) (ha : nw_X7_share a) => (w_X7_copies e28 a (by unfold nw_X7_share at ha; unfold nw_X7_copies; omega)).trans (fr a ha)
              exact fun a ha => (wl_X7_share_91 n _ _ _ _ _ _ _ h a ha).trans (fr a ha)
          · obtain ⟨r55, σ56, e54, h⟩ := ab_2 h
            have fr := fun (a : Nat) (ha : nw_X7_share a) => (w_X7_found e54 a (by unfold nw_X7_share at ha; unfold nw_X7_found; omega)).trans (fr a ha)
            obtain ⟨q1, q2⟩ := ab_r2 h
            exact fun a ha => (congrFun q2.symm a).trans (fr a ha)
/-! MoodFareModel.shut -/
def fb_X7_shut_132 (n : Nat) (kh97 : Int → Int → Int → Int → Int → Int → Int → am_Mem → Option (Int × am_Mem)) (kh132 : Int → Int → Int → Int → Int → Int → Int → Int → Int → am_Mem → Option (Int × am_Mem)) (x1 : Int) (x2 : Int) (x3 : Int) (x4 : Int) (x5 : Int) (x6 : Int) (x7 : Int) (x8 : Int) (x9 : Int) (σ : am_Mem) : Option (Int × am_Mem) :=
  if x9 < σ 81 25 then (am_b2 (f_X7_has n (σ 81 5) x9 σ) fun r26 σ27 => if r26 = 0 then (kh132 x1 x2 x3 x4 x5 x6 x7 (am_w (x8 * 1)) (am_w (x9 + 1)) σ27) else (am_b2 (f_X7_has n x7 x9 σ27) fun r30 σ31 => if r30 = 0 then (kh132 x1 x2 x3 x4 x5 x6 x7 (am_w (x8 * x3)) (am_w (x9 + 1)) σ31) else (kh132 x1 x2 x3 x4 x5 x6 x7 (am_w (x8 * (am_w (10 - x3)))) (am_w (x9 + 1)) σ31))) else (if x8 ≤ 0 then (kh97 x1 x2 x3 x4 x5 x6 (am_w (x7 + 1)) σ) else (am_b1 (f_X7_finds n x1 x7 σ) fun σ36 => if σ36 75 27 = (-1000000) then (kh97 x1 x2 x3 x4 (am_w (x5 + 0)) x6 (am_w (x7 + 1)) σ36) else (if σ36 75 27 ≤ x2 then (kh97 x1 x2 x3 x4 (am_w (x5 + x8)) x6 (am_w (x7 + 1)) σ36) else (kh97 x1 x2 x3 x4 (am_w (x5 + 0)) x6 (am_w (x7 + 1)) σ36))))
def fl_X7_shut_132 (n : Nat) (kh97 : Int → Int → Int → Int → Int → Int → Int → am_Mem → Option (Int × am_Mem)) : Nat → Int → Int → Int → Int → Int → Int → Int → Int → Int → am_Mem → Option (Int × am_Mem)
  | 0, _, _, _, _, _, _, _, _, _, _ => none
  | m + 1, x1, x2, x3, x4, x5, x6, x7, x8, x9, σ => fb_X7_shut_132 n kh97 (fun yx1 yx2 yx3 yx4 yx5 yx6 yx7 yx8 yx9 σ => fl_X7_shut_132 n kh97 m yx1 yx2 yx3 yx4 yx5 yx6 yx7 yx8 yx9 σ) x1 x2 x3 x4 x5 x6 x7 x8 x9 σ
def fb_X7_shut_245 (n : Nat) (kh245 : Int → Int → Int → Int → Int → am_Mem → Option (Int × am_Mem)) (x4 : Int) (x5 : Int) (x6 : Int) (x7 : Int) (x8 : Int) (σ : am_Mem) : Option (Int × am_Mem) :=
  if x8 = 0 then (if x4 = 0 then (if x7 ≠ 0 then some (am_w (Int.tdiv x5 x7), σ) else none) else (if x7 ≠ 0 then some (am_w (Int.tdiv x6 x7), σ) else none)) else (if x8 ≠ 0 then kh245 x4 x5 x6 x8 (Int.tmod x7 x8) σ else none)
def fl_X7_shut_245 (n : Nat) : Nat → Int → Int → Int → Int → Int → am_Mem → Option (Int × am_Mem)
  | 0, _, _, _, _, _, _ => none
  | m + 1, x4, x5, x6, x7, x8, σ => fb_X7_shut_245 n (fun yx4 yx5 yx6 yx7 yx8 σ => fl_X7_shut_245 n m yx4 yx5 yx6 yx7 yx8 σ) x4 x5 x6 x7 x8 σ
def fb_X7_shut_97 (n : Nat) (kh97 : Int → Int → Int → Int → Int → Int → Int → am_Mem → Option (Int × am_Mem)) (x1 : Int) (x2 : Int) (x3 : Int) (x4 : Int) (x5 : Int) (x6 : Int) (x7 : Int) (σ : am_Mem) : Option (Int × am_Mem) :=
  if x7 ≤ σ 81 5 then (if am_and x7 (am_xor (σ 81 5) (-1)) = 0 then (fl_X7_shut_132 n kh97 n x1 x2 x3 x4 x5 x6 x7 1 0 σ) else (fl_X7_shut_132 n kh97 n x1 x2 x3 x4 x5 x6 x7 0 0 σ)) else (fl_X7_shut_245 n n x4 x5 x6 x5 x6 σ)
def fl_X7_shut_97 (n : Nat) : Nat → Int → Int → Int → Int → Int → Int → Int → am_Mem → Option (Int × am_Mem)
  | 0, _, _, _, _, _, _, _, _ => none
  | m + 1, x1, x2, x3, x4, x5, x6, x7, σ => fb_X7_shut_97 n (fun yx1 yx2 yx3 yx4 yx5 yx6 yx7 σ => fl_X7_shut_97 n m yx1 yx2 yx3 yx4 yx5 yx6 yx7 σ) x1 x2 x3 x4 x5 x6 x7 σ
def fb_X7_shut_51 (n : Nat) (kh51 : Int → Int → Int → Int → Int → Int → Int → am_Mem → Option (Int × am_Mem)) (x1 : Int) (x2 : Int) (x3 : Int) (x4 : Int) (x5 : Int) (x6 : Int) (x7 : Int) (σ : am_Mem) : Option (Int × am_Mem) :=
  if x7 < σ 81 25 then (am_b2 (f_X7_has n (σ 81 5) x7 σ) fun r19 σ20 => if r19 = 0 then (kh51 x1 x2 x3 x4 x5 (am_w (x6 * 1)) (am_w (x7 + 1)) σ20) else (kh51 x1 x2 x3 x4 x5 (am_w (x6 * 10)) (am_w (x7 + 1)) σ20)) else (fl_X7_shut_97 n n x1 x2 x3 x4 x5 x6 0 σ)
def fl_X7_shut_51 (n : Nat) : Nat → Int → Int → Int → Int → Int → Int → Int → am_Mem → Option (Int × am_Mem)
  | 0, _, _, _, _, _, _, _, _ => none
  | m + 1, x1, x2, x3, x4, x5, x6, x7, σ => fb_X7_shut_51 n (fun yx1 yx2 yx3 yx4 yx5 yx6 yx7 σ => fl_X7_shut_51 n m yx1 yx2 yx3 yx4 yx5 yx6 yx7 σ) x1 x2 x3 x4 x5 x6 x7 σ
def f_X7_shut (n : Nat) (p1 : Int) (p2 : Int) (p3 : Int) (p4 : Int) (σ : am_Mem) : Option (Int × am_Mem) :=
  am_b2 (f_X7_isCorner n p1 σ) fun r2 σ3 => if r2 = 0 then (some ((-1000001), σ3)) else (am_b2 (f_X7_in n p2 0 999 σ3) fun r6 σ7 => if r6 = 0 then (some ((-1000001), σ7)) else (am_b2 (f_X7_in n p3 0 10 σ7) fun r10 σ11 => if r10 = 0 then (some ((-1000001), σ11)) else (am_b2 (f_X7_in n p4 0 1 σ11) fun r14 σ15 => if r14 = 0 then (some ((-1000001), σ15)) else (fl_X7_shut_51 n n p1 p2 p3 p4 0 1 0 σ15))))
theorem tb_X7_shut_132 {L n d : Nat} {Q : am_Post} {kh97 : Int → Int → Int → Int → Int → Int → Int → am_Mem → Option (Int × am_Mem)} {kh132 : Int → Int → Int → Int → Int → Int → Int → Int → Int → am_Mem → Option (Int × am_Mem)} {x1 : Int} {x2 : Int} {x3 : Int} {x4 : Int} {x5 : Int} {x6 : Int} {x7 : Int} {x8 : Int} {x9 : Int} {σ σr : am_Mem} {rr : Int} (hd : 5 ≤ d) (hk97 : ∀ (y1 : Int) (y2 : Int) (y3 : Int) (y4 : Int) (y5 : Int) (y6 : Int) (y7 : Int) (σ : am_Mem), kh97 y1 y2 y3 y4 y5 y6 y7 σ = some (rr, σr) → ∀ (o8 : Option am_V) (o9 : Option am_V), xs_AW (xs_aw d) me_X7_shut Q 97 [some (am_r 75), some (am_i y1), some (am_i y2), some (am_i y3), some (am_i y4), some (am_i y5), some (am_i y6), some (am_i y7), o8, o9] [] (rm_h L σ)) (hk132 : ∀ (y1 : Int) (y2 : Int) (y3 : Int) (y4 : Int) (y5 : Int) (y6 : Int) (y7 : Int) (y8 : Int) (y9 : Int) (σ : am_Mem), kh132 y1 y2 y3 y4 y5 y6 y7 y8 y9 σ = some (rr, σr) → xs_AW (xs_aw d) me_X7_shut Q 132 [some (am_r 75), some (am_i y1), some (am_i y2), some (am_i y3), some (am_i y4), some (am_i y5), some (am_i y6), some (am_i y7), some (am_i y8), some (am_i y9)] [] (rm_h L σ)) (hQ : Q (some (am_i rr)) (rm_h L σr)) (h : fb_X7_shut_132 n kh97 kh132 x1 x2 x3 x4 x5 x6 x7 x8 x9 σ = some (rr, σr)) : xs_AW (xs_aw d) me_X7_shut Q 132 [some (am_r 75), some (am_i x1), some (am_i x2), some (am_i x3), some (am_i x4), some (am_i x5), some (am_i x6), some (am_i x7), some (am_i x8), some (am_i x9)] [] (rm_h L σ) := by
  unfold fb_X7_shut_132 at h
  refine rr_iload dX7_shut_132 rfl ?_
  refine rr_aload_n dX7_shut_134 rfl ?_
  refine rr_getr (t := 81) dX7_shut_135 fl_7_25 (sh_75 L) ⟨(by decide), by decide⟩ rfl rfl ?_
  refine rr_bipush dX7_shut_138 (by decide) ?_
  refine rr_iald (nz := 42) dX7_shut_140 (sh_81 L) rfl ⟨by decide, by decide⟩ ?_
  rcases ab_i h with ⟨c24, h⟩ | ⟨c24, h⟩
  · refine rr_icmp_ge_p (t := 191) dX7_shut_141 (by decide) c24 ?_
    refine rr_iload dX7_shut_144 rfl ?_
    refine rr_aload_n dX7_shut_146 rfl ?_
    refine rr_getr (t := 81) dX7_shut_147 fl_7_25 (sh_75 L) ⟨(by decide), by decide⟩ rfl rfl ?_
    refine rr_iconst dX7_shut_150 (by decide) ?_
    refine rr_iald (nz := 42) dX7_shut_151 (sh_81 L) rfl ⟨by decide, by decide⟩ ?_
    refine rr_iload dX7_shut_152 rfl ?_
    obtain ⟨r26, σ27, e25, h⟩ := ab_2 h
    refine rr_Si (as := [am_i (σ 81 5), am_i x9]) (rest := [am_i x8]) dX7_shut_154 ml_7_167 (Or.inl rfl) rfl rfl (Nat.le_of_ble_eq_true rfl) ⟨rfl, rfl⟩ (Nat.le_of_ble_eq_true rfl) (fun _ k => t_X7_has (by omega) e25 k) ?_
    rcases ab_i h with ⟨c28, h⟩ | ⟨c28, h⟩
    · refine rr_if_ne_p (t := 164) dX7_shut_157 (by decide) c28 ?_
      refine rr_iconst dX7_shut_160 (by decide) ?_
      refine rr_goto (t := 182) dX7_shut_161 (by decide) ?_
      refine rr_imul dX7_shut_182 ?_
      refine rr_istore (ls' := [some (am_r 75), some (am_i x1), some (am_i x2), some (am_i x3), some (am_i x4), some (am_i x5), some (am_i x6), some (am_i x7), some (am_i (am_w (x8 * 1))), some (am_i x9)]) dX7_shut_183 (Nat.le_of_ble_eq_true rfl) rfl ?_
      refine rr_iinc (ls' := [some (am_r 75), some (am_i x1), some (am_i x2), some (am_i x3), some (am_i x4), some (am_i x5), some (am_i x6), some (am_i x7), some (am_i (am_w (x8 * 1))), some (am_i (am_w (x9 + 1)))]) dX7_shut_185 rfl (Nat.le_of_ble_eq_true rfl) rfl ?_
      refine rr_goto (t := 132) dX7_shut_188 (by decide) ?_
      exact hk132 _ _ _ _ _ _ _ _ _ _ h
    · refine rr_if_ne_n (t := 164) dX7_shut_157 (by decide) c28 ?_
      refine rr_iload dX7_shut_164 rfl ?_
      refine rr_iload dX7_shut_166 rfl ?_
      obtain ⟨r30, σ31, e29, h⟩ := ab_2 h
      refine rr_Si (as := [am_i x7, am_i x9]) (rest := [am_i x8]) dX7_shut_168 ml_7_167 (Or.inl rfl) rfl rfl (Nat.le_of_ble_eq_true rfl) ⟨rfl, rfl⟩ (Nat.le_of_ble_eq_true rfl) (fun _ k => t_X7_has (by omega) e29 k) ?_
      rcases ab_i h with ⟨c32, h⟩ | ⟨c32, h⟩
      · refine rr_if_eq_p (t := 181) dX7_shut_171 (by decide) c32 ?_
        refine rr_iload_n dX7_shut_181 rfl ?_
        refine rr_imul dX7_shut_182 ?_
        refine rr_istore (ls' := [some (am_r 75), some (am_i x1), some (am_i x2), some (am_i x3), some (am_i x4), some (am_i x5), some (am_i x6), some (am_i x7), some (am_i (am_w (x8 * x3))), some (am_i x9)]) dX7_shut_183 (Nat.le_of_ble_eq_true rfl) rfl ?_
        refine rr_iinc (ls' := [some (am_r 75), some (am_i x1), some (am_i x2), some (am_i x3), some (am_i x4), some (am_i x5), some (am_i x6), some (am_i x7), some (am_i (am_w (x8 * x3))), some (am_i (am_w (x9 + 1)))]) dX7_shut_185 rfl (Nat.le_of_ble_eq_true rfl) rfl ?_
        refine rr_goto (t := 132) dX7_shut_188 (by decide) ?_
        exact hk132 _ _ _ _ _ _ _ _ _ _ h
      · refine rr_if_eq_n (t := 181) dX7_shut_171 (by decide) c32 ?_
        refine rr_bipush dX7_shut_174 (by decide) ?_
        refine rr_iload_n dX7_shut_176 rfl ?_
        refine rr_isub dX7_shut_177 ?_
        refine rr_goto (t := 182) dX7_shut_178 (by decide) ?_
        refine rr_imul dX7_shut_182 ?_
        refine rr_istore (ls' := [some (am_r 75), some (am_i x1), some (am_i x2), some (am_i x3), some (am_i x4), some (am_i x5), some (am_i x6), some (am_i x7), some (am_i (am_w (x8 * (am_w (10 - x3))))), some (am_i x9)]) dX7_shut_183 (Nat.le_of_ble_eq_true rfl) rfl ?_
        refine rr_iinc (ls' := [some (am_r 75), some (am_i x1), some (am_i x2), some (am_i x3), some (am_i x4), some (am_i x5), some (am_i x6), some (am_i x7), some (am_i (am_w (x8 * (am_w (10 - x3))))), some (am_i (am_w (x9 + 1)))]) dX7_shut_185 rfl (Nat.le_of_ble_eq_true rfl) rfl ?_
        refine rr_goto (t := 132) dX7_shut_188 (by decide) ?_
        exact hk132 _ _ _ _ _ _ _ _ _ _ h
  · refine rr_icmp_ge_n (t := 191) dX7_shut_141 (by decide) c24 ?_
    refine rr_iload dX7_shut_191 rfl ?_
    rcases ab_i h with ⟨c33, h⟩ | ⟨c33, h⟩
    · refine rr_if_le_p (t := 231) dX7_shut_193 (by decide) c33 ?_
      refine rr_iinc (ls' := [some (am_r 75), some (am_i x1), some (am_i x2), some (am_i x3), some (am_i x4), some (am_i x5), some (am_i x6), some (am_i (am_w (x7 + 1))), some (am_i x8), some (am_i x9)]) dX7_shut_231 rfl (Nat.le_of_ble_eq_true rfl) rfl ?_
      refine rr_goto (t := 97) dX7_shut_234 (by decide) ?_
      exact hk97 _ _ _ _ _ _ _ _ h _ _
    · refine rr_if_le_n (t := 231) dX7_shut_193 (by decide) c33 ?_
      refine rr_aload_n dX7_shut_196 rfl ?_
      refine rr_iload_n dX7_shut_197 rfl ?_
      refine rr_iload dX7_shut_198 rfl ?_
      obtain ⟨σ36, e34, h⟩ := ab_1 h
      refine rr_Vv (as := [am_i x1, am_i x7]) (rest := []) dX7_shut_200 ml_7_222 (sh_75 L) ⟨(by decide), by decide, by decide⟩ rfl rfl rfl (Nat.le_of_ble_eq_true rfl) ⟨rfl, rfl⟩ (Nat.le_of_ble_eq_true rfl) (fun _ k => t_X7_finds (by omega) e34 k) ?_
      refine rr_iload dX7_shut_203 rfl ?_
      refine rr_aload_n dX7_shut_205 rfl ?_
      refine rr_geti (kz := 27) dX7_shut_206 fl_7_204 (sh_75 L) ⟨(by decide), by decide⟩ rfl rfl ?_
      refine rr_ldc dX7_shut_209 cs_7_65 ?_
      rcases ab_i h with ⟨c37, h⟩ | ⟨c37, h⟩
      · refine rr_icmp_eq_p (t := 227) dX7_shut_211 (by decide) c37 ?_
        refine rr_iconst dX7_shut_227 (by decide) ?_
        refine rr_iadd dX7_shut_228 ?_
        refine rr_istore (ls' := [some (am_r 75), some (am_i x1), some (am_i x2), some (am_i x3), some (am_i x4), some (am_i (am_w (x5 + 0))), some (am_i x6), some (am_i x7), some (am_i x8), some (am_i x9)]) dX7_shut_229 (Nat.le_of_ble_eq_true rfl) rfl ?_
        refine rr_iinc (ls' := [some (am_r 75), some (am_i x1), some (am_i x2), some (am_i x3), some (am_i x4), some (am_i (am_w (x5 + 0))), some (am_i x6), some (am_i (am_w (x7 + 1))), some (am_i x8), some (am_i x9)]) dX7_shut_231 rfl (Nat.le_of_ble_eq_true rfl) rfl ?_
        refine rr_goto (t := 97) dX7_shut_234 (by decide) ?_
        exact hk97 _ _ _ _ _ _ _ _ h _ _
      · refine rr_icmp_eq_n (t := 227) dX7_shut_211 (by decide) c37 ?_
        refine rr_aload_n dX7_shut_214 rfl ?_
        refine rr_geti (kz := 27) dX7_shut_215 fl_7_204 (sh_75 L) ⟨(by decide), by decide⟩ rfl rfl ?_
        refine rr_iload_n dX7_shut_218 rfl ?_
        rcases ab_i h with ⟨c38, h⟩ | ⟨c38, h⟩
        · refine rr_icmp_gt_p (t := 227) dX7_shut_219 (by decide) c38 ?_
          refine rr_iload dX7_shut_222 rfl ?_
          refine rr_goto (t := 228) dX7_shut_224 (by decide) ?_
          refine rr_iadd dX7_shut_228 ?_
          refine rr_istore (ls' := [some (am_r 75), some (am_i x1), some (am_i x2), some (am_i x3), some (am_i x4), some (am_i (am_w (x5 + x8))), some (am_i x6), some (am_i x7), some (am_i x8), some (am_i x9)]) dX7_shut_229 (Nat.le_of_ble_eq_true rfl) rfl ?_
          refine rr_iinc (ls' := [some (am_r 75), some (am_i x1), some (am_i x2), some (am_i x3), some (am_i x4), some (am_i (am_w (x5 + x8))), some (am_i x6), some (am_i (am_w (x7 + 1))), some (am_i x8), some (am_i x9)]) dX7_shut_231 rfl (Nat.le_of_ble_eq_true rfl) rfl ?_
          refine rr_goto (t := 97) dX7_shut_234 (by decide) ?_
          exact hk97 _ _ _ _ _ _ _ _ h _ _
        · refine rr_icmp_gt_n (t := 227) dX7_shut_219 (by decide) c38 ?_
          refine rr_iconst dX7_shut_227 (by decide) ?_
          refine rr_iadd dX7_shut_228 ?_
          refine rr_istore (ls' := [some (am_r 75), some (am_i x1), some (am_i x2), some (am_i x3), some (am_i x4), some (am_i (am_w (x5 + 0))), some (am_i x6), some (am_i x7), some (am_i x8), some (am_i x9)]) dX7_shut_229 (Nat.le_of_ble_eq_true rfl) rfl ?_
          refine rr_iinc (ls' := [some (am_r 75), some (am_i x1), some (am_i x2), some (am_i x3), some (am_i x4), some (am_i (am_w (x5 + 0))), some (am_i x6), some (am_i (am_w (x7 + 1))), some (am_i x8), some (am_i x9)]) dX7_shut_231 rfl (Nat.le_of_ble_eq_true rfl) rfl ?_
          refine rr_goto (t := 97) dX7_shut_234 (by decide) ?_
          exact hk97 _ _ _ _ _ _ _ _ h _ _
theorem tl_X7_shut_132 {L n d : Nat} {Q : am_Post} {kh97 : Int → Int → Int → Int → Int → Int → Int → am_Mem → Option (Int × am_Mem)} {σr : am_Mem} {rr : Int} (hd : 5 ≤ d) (hk97 : ∀ (y1 : Int) (y2 : Int) (y3 : Int) (y4 : Int) (y5 : Int) (y6 : Int) (y7 : Int) (σ : am_Mem), kh97 y1 y2 y3 y4 y5 y6 y7 σ = some (rr, σr) → ∀ (o8 : Option am_V) (o9 : Option am_V), xs_AW (xs_aw d) me_X7_shut Q 97 [some (am_r 75), some (am_i y1), some (am_i y2), some (am_i y3), some (am_i y4), some (am_i y5), some (am_i y6), some (am_i y7), o8, o9] [] (rm_h L σ)) (hQ : Q (some (am_i rr)) (rm_h L σr)) : ∀ (m : Nat) (x1 : Int) (x2 : Int) (x3 : Int) (x4 : Int) (x5 : Int) (x6 : Int) (x7 : Int) (x8 : Int) (x9 : Int) (σ : am_Mem), fl_X7_shut_132 n kh97 m x1 x2 x3 x4 x5 x6 x7 x8 x9 σ = some (rr, σr) → xs_AW (xs_aw d) me_X7_shut Q 132 [some (am_r 75), some (am_i x1), some (am_i x2), some (am_i x3), some (am_i x4), some (am_i x5), some (am_i x6), some (am_i x7), some (am_i x8), some (am_i x9)] [] (rm_h L σ) := by
  intro m
  induction m with
  | zero => intro x1 x2 x3 x4 x5 x6 x7 x8 x9 σ h; cases h
  | succ m ih =>
    intro x1 x2 x3 x4 x5 x6 x7 x8 x9 σ h
    exact tb_X7_shut_132 hd hk97 (fun x1 x2 x3 x4 x5 x6 x7 x8 x9 σ h => ih x1 x2 x3 x4 x5 x6 x7 x8 x9 σ h) hQ h
theorem tb_X7_shut_245 {L n d : Nat} {Q : am_Post} {kh245 : Int → Int → Int → Int → Int → am_Mem → Option (Int × am_Mem)} {x4 : Int} {x5 : Int} {x6 : Int} {x7 : Int} {x8 : Int} {o0 : Nat} {o1 : Int} {o2 : Int} {o3 : Int} {o9 : Option am_V} {σ σr : am_Mem} {rr : Int} (hd : 5 ≤ d) (hk245 : ∀ (y4 : Int) (y5 : Int) (y6 : Int) (y7 : Int) (y8 : Int) (σ : am_Mem), kh245 y4 y5 y6 y7 y8 σ = some (rr, σr) → ∀ (o0 : Nat) (o1 : Int) (o2 : Int) (o3 : Int) (o9 : Option am_V), xs_AW (xs_aw d) me_X7_shut Q 245 [some (am_r o0), some (am_i o1), some (am_i o2), some (am_i o3), some (am_i y4), some (am_i y5), some (am_i y6), some (am_i y7), some (am_i y8), o9] [] (rm_h L σ)) (hQ : Q (some (am_i rr)) (rm_h L σr)) (h : fb_X7_shut_245 n kh245 x4 x5 x6 x7 x8 σ = some (rr, σr)) : xs_AW (xs_aw d) me_X7_shut Q 245 [some (am_r o0), some (am_i o1), some (am_i o2), some (am_i o3), some (am_i x4), some (am_i x5), some (am_i x6), some (am_i x7), some (am_i x8), o9] [] (rm_h L σ) := by
  unfold fb_X7_shut_245 at h
  refine rr_iload dX7_shut_245 rfl ?_
  rcases ab_i h with ⟨c39, h⟩ | ⟨c39, h⟩
  · refine rr_if_eq_p (t := 268) dX7_shut_247 (by decide) c39 ?_
    refine rr_iload dX7_shut_268 rfl ?_
    rcases ab_i h with ⟨c40, h⟩ | ⟨c40, h⟩
    · refine rr_if_ne_p (t := 278) dX7_shut_270 (by decide) c40 ?_
      refine rr_iload dX7_shut_273 rfl ?_
      refine rr_goto (t := 280) dX7_shut_275 (by decide) ?_
      refine rr_iload dX7_shut_280 rfl ?_
      obtain ⟨g41, h⟩ := ab_g h
      refine rr_idiv dX7_shut_282 g41 ?_
      obtain ⟨rfl, rfl⟩ := ab_r2 h
      exact rr_iret dX7_shut_283 rfl hQ
    · refine rr_if_ne_n (t := 278) dX7_shut_270 (by decide) c40 ?_
      refine rr_iload dX7_shut_278 rfl ?_
      refine rr_iload dX7_shut_280 rfl ?_
      obtain ⟨g42, h⟩ := ab_g h
      refine rr_idiv dX7_shut_282 g42 ?_
      obtain ⟨rfl, rfl⟩ := ab_r2 h
      exact rr_iret dX7_shut_283 rfl hQ
  · refine rr_if_eq_n (t := 268) dX7_shut_247 (by decide) c39 ?_
    refine rr_iload dX7_shut_250 rfl ?_
    refine rr_iload dX7_shut_252 rfl ?_
    obtain ⟨g43, h⟩ := ab_g h
    refine rr_irem dX7_shut_254 g43 ?_
    refine rr_istore (ls' := [some (am_r o0), some (am_i o1), some (am_i o2), some (am_i o3), some (am_i x4), some (am_i x5), some (am_i x6), some (am_i x7), some (am_i x8), some (am_i (Int.tmod x7 x8))]) dX7_shut_255 (Nat.le_of_ble_eq_true rfl) rfl ?_
    refine rr_iload dX7_shut_257 rfl ?_
    refine rr_istore (ls' := [some (am_r o0), some (am_i o1), some (am_i o2), some (am_i o3), some (am_i x4), some (am_i x5), some (am_i x6), some (am_i x8), some (am_i x8), some (am_i (Int.tmod x7 x8))]) dX7_shut_259 (Nat.le_of_ble_eq_true rfl) rfl ?_
    refine rr_iload dX7_shut_261 rfl ?_
    refine rr_istore (ls' := [some (am_r o0), some (am_i o1), some (am_i o2), some (am_i o3), some (am_i x4), some (am_i x5), some (am_i x6), some (am_i x8), some (am_i (Int.tmod x7 x8)), some (am_i (Int.tmod x7 x8))]) dX7_shut_263 (Nat.le_of_ble_eq_true rfl) rfl ?_
    refine rr_goto (t := 245) dX7_shut_265 (by decide) ?_
    exact hk245 _ _ _ _ _ _ h _ _ _ _ _
theorem tl_X7_shut_245 {L n d : Nat} {Q : am_Post} {σr : am_Mem} {rr : Int} (hd : 5 ≤ d) (hQ : Q (some (am_i rr)) (rm_h L σr)) : ∀ (m : Nat) (x4 : Int) (x5 : Int) (x6 : Int) (x7 : Int) (x8 : Int) (σ : am_Mem) (o0 : Nat) (o1 : Int) (o2 : Int) (o3 : Int) (o9 : Option am_V), fl_X7_shut_245 n m x4 x5 x6 x7 x8 σ = some (rr, σr) → xs_AW (xs_aw d) me_X7_shut Q 245 [some (am_r o0), some (am_i o1), some (am_i o2), some (am_i o3), some (am_i x4), some (am_i x5), some (am_i x6), some (am_i x7), some (am_i x8), o9] [] (rm_h L σ) := by
  intro m
  induction m with
  | zero => intro x4 x5 x6 x7 x8 σ o0 o1 o2 o3 o9 h; cases h
  | succ m ih =>
    intro x4 x5 x6 x7 x8 σ o0 o1 o2 o3 o9 h
    exact tb_X7_shut_245 hd (fun x4 x5 x6 x7 x8 σ h o0 o1 o2 o3 o9 => ih x4 x5 x6 x7 x8 σ o0 o1 o2 o3 o9 h) hQ h
theorem tb_X7_shut_97 {L n d : Nat} {Q : am_Post} {kh97 : Int → Int → Int → Int → Int → Int → Int → am_Mem → Option (Int × am_Mem)} {x1 : Int} {x2 : Int} {x3 : Int} {x4 : Int} {x5 : Int} {x6 : Int} {x7 : Int} {o8 : Option am_V} {o9 : Option am_V} {σ σr : am_Mem} {rr : Int} (hd : 5 ≤ d) (hk97 : ∀ (y1 : Int) (y2 : Int) (y3 : Int) (y4 : Int) (y5 : Int) (y6 : Int) (y7 : Int) (σ : am_Mem), kh97 y1 y2 y3 y4 y5 y6 y7 σ = some (rr, σr) → ∀ (o8 : Option am_V) (o9 : Option am_V), xs_AW (xs_aw d) me_X7_shut Q 97 [some (am_r 75), some (am_i y1), some (am_i y2), some (am_i y3), some (am_i y4), some (am_i y5), some (am_i y6), some (am_i y7), o8, o9] [] (rm_h L σ)) (hQ : Q (some (am_i rr)) (rm_h L σr)) (h : fb_X7_shut_97 n kh97 x1 x2 x3 x4 x5 x6 x7 σ = some (rr, σr)) : xs_AW (xs_aw d) me_X7_shut Q 97 [some (am_r 75), some (am_i x1), some (am_i x2), some (am_i x3), some (am_i x4), some (am_i x5), some (am_i x6), some (am_i x7), o8, o9] [] (rm_h L σ) := by
  unfold fb_X7_shut_97 at h
  refine rr_iload dX7_shut_97 rfl ?_
  refine rr_aload_n dX7_shut_99 rfl ?_
  refine rr_getr (t := 81) dX7_shut_100 fl_7_25 (sh_75 L) ⟨(by decide), by decide⟩ rfl rfl ?_
  refine rr_iconst dX7_shut_103 (by decide) ?_
  refine rr_iald (nz := 42) dX7_shut_104 (sh_81 L) rfl ⟨by decide, by decide⟩ ?_
  rcases ab_i h with ⟨c22, h⟩ | ⟨c22, h⟩
  · refine rr_icmp_gt_p (t := 237) dX7_shut_105 (by decide) c22 ?_
    refine rr_iload dX7_shut_108 rfl ?_
    refine rr_aload_n dX7_shut_110 rfl ?_
    refine rr_getr (t := 81) dX7_shut_111 fl_7_25 (sh_75 L) ⟨(by decide), by decide⟩ rfl rfl ?_
    refine rr_iconst dX7_shut_114 (by decide) ?_
    refine rr_iald (nz := 42) dX7_shut_115 (sh_81 L) rfl ⟨by decide, by decide⟩ ?_
    refine rr_iconst dX7_shut_116 (by decide) ?_
    refine rr_ixor dX7_shut_117 ?_
    refine rr_iand dX7_shut_118 ?_
    rcases ab_i h with ⟨c23, h⟩ | ⟨c23, h⟩
    · refine rr_if_ne_p (t := 126) dX7_shut_119 (by decide) c23 ?_
      refine rr_iconst dX7_shut_122 (by decide) ?_
      refine rr_goto (t := 127) dX7_shut_123 (by decide) ?_
      refine rr_istore (ls' := [some (am_r 75), some (am_i x1), some (am_i x2), some (am_i x3), some (am_i x4), some (am_i x5), some (am_i x6), some (am_i x7), some (am_i 1), o9]) dX7_shut_127 (Nat.le_of_ble_eq_true rfl) rfl ?_
      refine rr_iconst dX7_shut_129 (by decide) ?_
      refine rr_istore (ls' := [some (am_r 75), some (am_i x1), some (am_i x2), some (am_i x3), some (am_i x4), some (am_i x5), some (am_i x6), some (am_i x7), some (am_i 1), some (am_i 0)]) dX7_shut_130 (Nat.le_of_ble_eq_true rfl) rfl ?_
      exact tl_X7_shut_132 hd hk97 hQ n _ _ _ _ _ _ _ _ _ _ h
    · refine rr_if_ne_n (t := 126) dX7_shut_119 (by decide) c23 ?_
      refine rr_iconst dX7_shut_126 (by decide) ?_
      refine rr_istore (ls' := [some (am_r 75), some (am_i x1), some (am_i x2), some (am_i x3), some (am_i x4), some (am_i x5), some (am_i x6), some (am_i x7), some (am_i 0), o9]) dX7_shut_127 (Nat.le_of_ble_eq_true rfl) rfl ?_
      refine rr_iconst dX7_shut_129 (by decide) ?_
      refine rr_istore (ls' := [some (am_r 75), some (am_i x1), some (am_i x2), some (am_i x3), some (am_i x4), some (am_i x5), some (am_i x6), some (am_i x7), some (am_i 0), some (am_i 0)]) dX7_shut_130 (Nat.le_of_ble_eq_true rfl) rfl ?_
      exact tl_X7_shut_132 hd hk97 hQ n _ _ _ _ _ _ _ _ _ _ h
  · refine rr_icmp_gt_n (t := 237) dX7_shut_105 (by decide) c22 ?_
    refine rr_iload dX7_shut_237 rfl ?_
    refine rr_istore (ls' := [some (am_r 75), some (am_i x1), some (am_i x2), some (am_i x3), some (am_i x4), some (am_i x5), some (am_i x6), some (am_i x5), o8, o9]) dX7_shut_239 (Nat.le_of_ble_eq_true rfl) rfl ?_
    refine rr_iload dX7_shut_241 rfl ?_
    refine rr_istore (ls' := [some (am_r 75), some (am_i x1), some (am_i x2), some (am_i x3), some (am_i x4), some (am_i x5), some (am_i x6), some (am_i x5), some (am_i x6), o9]) dX7_shut_243 (Nat.le_of_ble_eq_true rfl) rfl ?_
    exact tl_X7_shut_245 hd hQ n _ _ _ _ _ _ _ _ _ _ _ h
theorem tl_X7_shut_97 {L n d : Nat} {Q : am_Post} {σr : am_Mem} {rr : Int} (hd : 5 ≤ d) (hQ : Q (some (am_i rr)) (rm_h L σr)) : ∀ (m : Nat) (x1 : Int) (x2 : Int) (x3 : Int) (x4 : Int) (x5 : Int) (x6 : Int) (x7 : Int) (σ : am_Mem) (o8 : Option am_V) (o9 : Option am_V), fl_X7_shut_97 n m x1 x2 x3 x4 x5 x6 x7 σ = some (rr, σr) → xs_AW (xs_aw d) me_X7_shut Q 97 [some (am_r 75), some (am_i x1), some (am_i x2), some (am_i x3), some (am_i x4), some (am_i x5), some (am_i x6), some (am_i x7), o8, o9] [] (rm_h L σ) := by
  intro m
  induction m with
  | zero => intro x1 x2 x3 x4 x5 x6 x7 σ o8 o9 h; cases h
  | succ m ih =>
    intro x1 x2 x3 x4 x5 x6 x7 σ o8 o9 h
    exact tb_X7_shut_97 hd (fun x1 x2 x3 x4 x5 x6 x7 σ h o8 o9 => ih x1 x2 x3 x4 x5 x6 x7 σ o8 o9 h) hQ h
theorem tb_X7_shut_51 {L n d : Nat} {Q : am_Post} {kh51 : Int → Int → Int → Int → Int → Int → Int → am_Mem → Option (Int × am_Mem)} {x1 : Int} {x2 : Int} {x3 : Int} {x4 : Int} {x5 : Int} {x6 : Int} {x7 : Int} {o8 : Option am_V} {o9 : Option am_V} {σ σr : am_Mem} {rr : Int} (hd : 5 ≤ d) (hk51 : ∀ (y1 : Int) (y2 : Int) (y3 : Int) (y4 : Int) (y5 : Int) (y6 : Int) (y7 : Int) (σ : am_Mem), kh51 y1 y2 y3 y4 y5 y6 y7 σ = some (rr, σr) → ∀ (o8 : Option am_V) (o9 : Option am_V), xs_AW (xs_aw d) me_X7_shut Q 51 [some (am_r 75), some (am_i y1), some (am_i y2), some (am_i y3), some (am_i y4), some (am_i y5), some (am_i y6), some (am_i y7), o8, o9] [] (rm_h L σ)) (hQ : Q (some (am_i rr)) (rm_h L σr)) (h : fb_X7_shut_51 n kh51 x1 x2 x3 x4 x5 x6 x7 σ = some (rr, σr)) : xs_AW (xs_aw d) me_X7_shut Q 51 [some (am_r 75), some (am_i x1), some (am_i x2), some (am_i x3), some (am_i x4), some (am_i x5), some (am_i x6), some (am_i x7), o8, o9] [] (rm_h L σ) := by
  unfold fb_X7_shut_51 at h
  refine rr_iload dX7_shut_51 rfl ?_
  refine rr_aload_n dX7_shut_53 rfl ?_
  refine rr_getr (t := 81) dX7_shut_54 fl_7_25 (sh_75 L) ⟨(by decide), by decide⟩ rfl rfl ?_
  refine rr_bipush dX7_shut_57 (by decide) ?_
  refine rr_iald (nz := 42) dX7_shut_59 (sh_81 L) rfl ⟨by decide, by decide⟩ ?_
  rcases ab_i h with ⟨c17, h⟩ | ⟨c17, h⟩
  · refine rr_icmp_ge_p (t := 94) dX7_shut_60 (by decide) c17 ?_
    refine rr_iload dX7_shut_63 rfl ?_
    refine rr_aload_n dX7_shut_65 rfl ?_
    refine rr_getr (t := 81) dX7_shut_66 fl_7_25 (sh_75 L) ⟨(by decide), by decide⟩ rfl rfl ?_
    refine rr_iconst dX7_shut_69 (by decide) ?_
    refine rr_iald (nz := 42) dX7_shut_70 (sh_81 L) rfl ⟨by decide, by decide⟩ ?_
    refine rr_iload dX7_shut_71 rfl ?_
    obtain ⟨r19, σ20, e18, h⟩ := ab_2 h
    refine rr_Si (as := [am_i (σ 81 5), am_i x7]) (rest := [am_i x6]) dX7_shut_73 ml_7_167 (Or.inl rfl) rfl rfl (Nat.le_of_ble_eq_true rfl) ⟨rfl, rfl⟩ (Nat.le_of_ble_eq_true rfl) (fun _ k => t_X7_has (by omega) e18 k) ?_
    rcases ab_i h with ⟨c21, h⟩ | ⟨c21, h⟩
    · refine rr_if_eq_p (t := 84) dX7_shut_76 (by decide) c21 ?_
      refine rr_iconst dX7_shut_84 (by decide) ?_
      refine rr_imul dX7_shut_85 ?_
      refine rr_istore (ls' := [some (am_r 75), some (am_i x1), some (am_i x2), some (am_i x3), some (am_i x4), some (am_i x5), some (am_i (am_w (x6 * 1))), some (am_i x7), o8, o9]) dX7_shut_86 (Nat.le_of_ble_eq_true rfl) rfl ?_
      refine rr_iinc (ls' := [some (am_r 75), some (am_i x1), some (am_i x2), some (am_i x3), some (am_i x4), some (am_i x5), some (am_i (am_w (x6 * 1))), some (am_i (am_w (x7 + 1))), o8, o9]) dX7_shut_88 rfl (Nat.le_of_ble_eq_true rfl) rfl ?_
      refine rr_goto (t := 51) dX7_shut_91 (by decide) ?_
      exact hk51 _ _ _ _ _ _ _ _ h _ _
    · refine rr_if_eq_n (t := 84) dX7_shut_76 (by decide) c21 ?_
      refine rr_bipush dX7_shut_79 (by decide) ?_
      refine rr_goto (t := 85) dX7_shut_81 (by decide) ?_
      refine rr_imul dX7_shut_85 ?_
      refine rr_istore (ls' := [some (am_r 75), some (am_i x1), some (am_i x2), some (am_i x3), some (am_i x4), some (am_i x5), some (am_i (am_w (x6 * 10))), some (am_i x7), o8, o9]) dX7_shut_86 (Nat.le_of_ble_eq_true rfl) rfl ?_
      refine rr_iinc (ls' := [some (am_r 75), some (am_i x1), some (am_i x2), some (am_i x3), some (am_i x4), some (am_i x5), some (am_i (am_w (x6 * 10))), some (am_i (am_w (x7 + 1))), o8, o9]) dX7_shut_88 rfl (Nat.le_of_ble_eq_true rfl) rfl ?_
      refine rr_goto (t := 51) dX7_shut_91 (by decide) ?_
      exact hk51 _ _ _ _ _ _ _ _ h _ _
  · refine rr_icmp_ge_n (t := 94) dX7_shut_60 (by decide) c17 ?_
    refine rr_iconst dX7_shut_94 (by decide) ?_
    refine rr_istore (ls' := [some (am_r 75), some (am_i x1), some (am_i x2), some (am_i x3), some (am_i x4), some (am_i x5), some (am_i x6), some (am_i 0), o8, o9]) dX7_shut_95 (Nat.le_of_ble_eq_true rfl) rfl ?_
    exact tl_X7_shut_97 hd hQ n _ _ _ _ _ _ _ _ _ _ h
theorem tl_X7_shut_51 {L n d : Nat} {Q : am_Post} {σr : am_Mem} {rr : Int} (hd : 5 ≤ d) (hQ : Q (some (am_i rr)) (rm_h L σr)) : ∀ (m : Nat) (x1 : Int) (x2 : Int) (x3 : Int) (x4 : Int) (x5 : Int) (x6 : Int) (x7 : Int) (σ : am_Mem) (o8 : Option am_V) (o9 : Option am_V), fl_X7_shut_51 n m x1 x2 x3 x4 x5 x6 x7 σ = some (rr, σr) → xs_AW (xs_aw d) me_X7_shut Q 51 [some (am_r 75), some (am_i x1), some (am_i x2), some (am_i x3), some (am_i x4), some (am_i x5), some (am_i x6), some (am_i x7), o8, o9] [] (rm_h L σ) := by
  intro m
  induction m with
  | zero => intro x1 x2 x3 x4 x5 x6 x7 σ o8 o9 h; cases h
  | succ m ih =>
    intro x1 x2 x3 x4 x5 x6 x7 σ o8 o9 h
    exact tb_X7_shut_51 hd (fun x1 x2 x3 x4 x5 x6 x7 σ h o8 o9 => ih x1 x2 x3 x4 x5 x6 x7 σ o8 o9 h) hQ h
theorem t_X7_shut {L n d : Nat} {Q : am_Post} {p1 : Int} {p2 : Int} {p3 : Int} {p4 : Int} {σ σr : am_Mem} {rr : Int} (hd : 5 < d) (h : f_X7_shut n p1 p2 p3 p4 σ = some (rr, σr)) (hQ : Q (some (am_i rr)) (rm_h L σr)) : xs_aw d me_X7_shut [am_r 75, am_i p1, am_i p2, am_i p3, am_i p4] (rm_h L σ) Q := by
  obtain ⟨d, rfl⟩ : ∃ k, d = k + 1 := ⟨d - 1, by omega⟩
  have hd : 5 ≤ d := by omega
  unfold f_X7_shut at h
  show xs_AW (xs_aw d) me_X7_shut Q 0 [some (am_r 75), some (am_i p1), some (am_i p2), some (am_i p3), some (am_i p4), none, none, none, none, none] [] (rm_h L σ)
  refine rr_aload_n dX7_shut_0 rfl ?_
  refine rr_iload_n dX7_shut_1 rfl ?_
  obtain ⟨r2, σ3, e1, h⟩ := ab_2 h
  refine rr_Vi (as := [am_i p1]) (rest := []) dX7_shut_2 ml_7_188 (sh_75 L) ⟨(by decide), by decide, by decide⟩ rfl rfl rfl (Nat.le_of_ble_eq_true rfl) ⟨rfl, rfl⟩ (Nat.le_of_ble_eq_true rfl) (fun _ k => t_X7_isCorner (by omega) e1 k) ?_
  rcases ab_i h with ⟨c4, h⟩ | ⟨c4, h⟩
  · refine rr_if_eq_p (t := 39) dX7_shut_5 (by decide) c4 ?_
    refine rr_ldc dX7_shut_39 cs_7_79 ?_
    obtain ⟨rfl, rfl⟩ := ab_r2 h
    exact rr_iret dX7_shut_41 rfl hQ
  · refine rr_if_eq_n (t := 39) dX7_shut_5 (by decide) c4 ?_
    refine rr_iload_n dX7_shut_8 rfl ?_
    refine rr_iconst dX7_shut_9 (by decide) ?_
    refine rr_sipush dX7_shut_10 (by decide) ?_
    obtain ⟨r6, σ7, e5, h⟩ := ab_2 h
    refine rr_Si (as := [am_i p2, am_i 0, am_i 999]) (rest := []) dX7_shut_13 ml_7_71 (Or.inl rfl) rfl rfl (Nat.le_of_ble_eq_true rfl) ⟨rfl, rfl⟩ (Nat.le_of_ble_eq_true rfl) (fun _ k => t_X7_in (by omega) e5 k) ?_
    rcases ab_i h with ⟨c8, h⟩ | ⟨c8, h⟩
    · refine rr_if_eq_p (t := 39) dX7_shut_16 (by decide) c8 ?_
      refine rr_ldc dX7_shut_39 cs_7_79 ?_
      obtain ⟨rfl, rfl⟩ := ab_r2 h
      exact rr_iret dX7_shut_41 rfl hQ
    · refine rr_if_eq_n (t := 39) dX7_shut_16 (by decide) c8 ?_
      refine rr_iload_n dX7_shut_19 rfl ?_
      refine rr_iconst dX7_shut_20 (by decide) ?_
      refine rr_bipush dX7_shut_21 (by decide) ?_
      obtain ⟨r10, σ11, e9, h⟩ := ab_2 h
      refine rr_Si (as := [am_i p3, am_i 0, am_i 10]) (rest := []) dX7_shut_23 ml_7_71 (Or.inl rfl) rfl rfl (Nat.le_of_ble_eq_true rfl) ⟨rfl, rfl⟩ (Nat.le_of_ble_eq_true rfl) (fun _ k => t_X7_in (by omega) e9 k) ?_
      rcases ab_i h with ⟨c12, h⟩ | ⟨c12, h⟩
      · refine rr_if_eq_p (t := 39) dX7_shut_26 (by decide) c12 ?_
        refine rr_ldc dX7_shut_39 cs_7_79 ?_
        obtain ⟨rfl, rfl⟩ := ab_r2 h
        exact rr_iret dX7_shut_41 rfl hQ
      · refine rr_if_eq_n (t := 39) dX7_shut_26 (by decide) c12 ?_
        refine rr_iload dX7_shut_29 rfl ?_
        refine rr_iconst dX7_shut_31 (by decide) ?_
        refine rr_iconst dX7_shut_32 (by decide) ?_
        obtain ⟨r14, σ15, e13, h⟩ := ab_2 h
        refine rr_Si (as := [am_i p4, am_i 0, am_i 1]) (rest := []) dX7_shut_33 ml_7_71 (Or.inl rfl) rfl rfl (Nat.le_of_ble_eq_true rfl) ⟨rfl, rfl⟩ (Nat.le_of_ble_eq_true rfl) (fun _ k => t_X7_in (by omega) e13 k) ?_
        rcases ab_i h with ⟨c16, h⟩ | ⟨c16, h⟩
        · refine rr_if_ne_p (t := 42) dX7_shut_36 (by decide) c16 ?_
          refine rr_ldc dX7_shut_39 cs_7_79 ?_
          obtain ⟨rfl, rfl⟩ := ab_r2 h
          exact rr_iret dX7_shut_41 rfl hQ
        · refine rr_if_ne_n (t := 42) dX7_shut_36 (by decide) c16 ?_
          refine rr_iconst dX7_shut_42 (by decide) ?_
          refine rr_istore (ls' := [some (am_r 75), some (am_i p1), some (am_i p2), some (am_i p3), some (am_i p4), some (am_i 0), none, none, none, none]) dX7_shut_43 (Nat.le_of_ble_eq_true rfl) rfl ?_
          refine rr_iconst dX7_shut_45 (by decide) ?_
          refine rr_istore (ls' := [some (am_r 75), some (am_i p1), some (am_i p2), some (am_i p3), some (am_i p4), some (am_i 0), some (am_i 1), none, none, none]) dX7_shut_46 (Nat.le_of_ble_eq_true rfl) rfl ?_
          refine rr_iconst dX7_shut_48 (by decide) ?_
          refine rr_istore (ls' := [some (am_r 75), some (am_i p1), some (am_i p2), some (am_i p3), some (am_i p4), some (am_i 0), some (am_i 1), some (am_i 0), none, none]) dX7_shut_49 (Nat.le_of_ble_eq_true rfl) rfl ?_
          exact tl_X7_shut_51 hd hQ n _ _ _ _ _ _ _ _ _ _ h
def nw_X7_shut (a : Nat) : Prop := a ≠ 75 ∧ a ≠ 83 ∧ a ≠ 87 ∧ a ≠ 88 ∧ a ≠ 89 ∧ a ≠ 90 ∧ a ≠ 91 ∧ a ≠ 92
theorem wb_X7_shut_132 {n : Nat} {kh97 : Int → Int → Int → Int → Int → Int → Int → am_Mem → Option (Int × am_Mem)} {kh132 : Int → Int → Int → Int → Int → Int → Int → Int → Int → am_Mem → Option (Int × am_Mem)} {x1 : Int} {x2 : Int} {x3 : Int} {x4 : Int} {x5 : Int} {x6 : Int} {x7 : Int} {x8 : Int} {x9 : Int} {σ σr : am_Mem} {rr : Int} (hk97 : ∀ (y1 : Int) (y2 : Int) (y3 : Int) (y4 : Int) (y5 : Int) (y6 : Int) (y7 : Int) (σ : am_Mem), kh97 y1 y2 y3 y4 y5 y6 y7 σ = some (rr, σr) → ∀ a : Nat, nw_X7_shut a → σr a = σ a) (hk132 : ∀ (y1 : Int) (y2 : Int) (y3 : Int) (y4 : Int) (y5 : Int) (y6 : Int) (y7 : Int) (y8 : Int) (y9 : Int) (σ : am_Mem), kh132 y1 y2 y3 y4 y5 y6 y7 y8 y9 σ = some (rr, σr) → ∀ a : Nat, nw_X7_shut a → σr a = σ a) (h : fb_X7_shut_132 n kh97 kh132 x1 x2 x3 x4 x5 x6 x7 x8 x9 σ = some (rr, σr)) : ∀ a : Nat, nw_X7_shut a → σr a = σ a := by
  unfold fb_X7_shut_132 at h
  have fr : ∀ a : Nat, nw_X7_shut a → σ a = σ a := fun _ _ => rfl
  rcases ab_i h with ⟨c24, h⟩ | ⟨c24, h⟩
  · obtain ⟨r26, σ27, e25, h⟩ := ab_2 h
    have fr := fun (a : Nat) (ha : nw_X7_shut a) => (congrFun (u_X7_has e25) a).trans (fr a ha)
    rcases ab_i h with ⟨c28, h⟩ | ⟨c28, h⟩
    · exact fun a ha => (hk132 _ _ _ _ _ _ _ _ _ _ h a ha).trans (fr a ha)
    · obtain ⟨r30, σ31, e29, h⟩ := ab_2 h
      have fr := fun (a : Nat) (ha : nw_X7_shut a) => (congrFun (u_X7_has e29) a).trans (fr a ha)
      rcases ab_i h with ⟨c32, h⟩ | ⟨c32, h⟩
      · exact fun a ha => (hk132 _ _ _ _ _ _ _ _ _ _ h a ha).trans (fr a ha)
      · exact fun a ha => (hk132 _ _ _ _ _ _ _ _ _ _ h a ha).trans (fr a ha)
  · rcases ab_i h with ⟨c33, h⟩ | ⟨c33, h⟩
    · exact fun a ha => (hk97 _ _ _ _ _ _ _ _ h a ha).trans (fr a ha)
    · obtain ⟨σ36, e34, h⟩ := ab_1 h
      have fr := fun (a : Nat) (ha : nw_X7_shut a) => (w_X7_finds e34 a (by unfold nw_X7_shut at ha; unfold nw_X7_finds; omega)).trans (fr a ha)
      rcases ab_i h with ⟨c37, h⟩ | ⟨c37, h⟩
      · exact fun a ha => (hk97 _ _ _ _ _ _ _ _ h a ha).trans (fr a ha)
      · rcases ab_i h with ⟨c38, h⟩ | ⟨c38, h⟩
        · exact fun a ha => (hk97 _ _ _ _ _ _ _ _ h a ha).trans (fr a ha)
        · exact fun a ha => (hk97 _ _ _ _ _ _ _ _ h a ha).trans (fr a ha)
theorem wl_X7_shut_132 {n : Nat} {kh97 : Int → Int → Int → Int → Int → Int → Int → am_Mem → Option (Int × am_Mem)} {σr : am_Mem} {rr : Int} (hk97 : ∀ (y1 : Int) (y2 : Int) (y3 : Int) (y4 : Int) (y5 : Int) (y6 : Int) (y7 : Int) (σ : am_Mem), kh97 y1 y2 y3 y4 y5 y6 y7 σ = some (rr, σr) → ∀ a : Nat, nw_X7_shut a → σr a = σ a) : ∀ (m : Nat) (x1 : Int) (x2 : Int) (x3 : Int) (x4 : Int) (x5 : Int) (x6 : Int) (x7 : Int) (x8 : Int) (x9 : Int) (σ : am_Mem), fl_X7_shut_132 n kh97 m x1 x2 x3 x4 x5 x6 x7 x8 x9 σ = some (rr, σr) → ∀ a : Nat, nw_X7_shut a → σr a = σ a := by
  intro m
  induction m with
  | zero => intro x1 x2 x3 x4 x5 x6 x7 x8 x9 σ h; cases h
  | succ m ih =>
    intro x1 x2 x3 x4 x5 x6 x7 x8 x9 σ h
    exact wb_X7_shut_132 hk97 (fun x1 x2 x3 x4 x5 x6 x7 x8 x9 σ h => ih x1 x2 x3 x4 x5 x6 x7 x8 x9 σ h) h
theorem wb_X7_shut_245 {n : Nat} {kh245 : Int → Int → Int → Int → Int → am_Mem → Option (Int × am_Mem)} {x4 : Int} {x5 : Int} {x6 : Int} {x7 : Int} {x8 : Int} {σ σr : am_Mem} {rr : Int} (hk245 : ∀ (y4 : Int) (y5 : Int) (y6 : Int) (y7 : Int) (y8 : Int) (σ : am_Mem), kh245 y4 y5 y6 y7 y8 σ = some (rr, σr) → ∀ a : Nat, nw_X7_shut a → σr a = σ a) (h : fb_X7_shut_245 n kh245 x4 x5 x6 x7 x8 σ = some (rr, σr)) : ∀ a : Nat, nw_X7_shut a → σr a = σ a := by
  unfold fb_X7_shut_245 at h
  have fr : ∀ a : Nat, nw_X7_shut a → σ a = σ a := fun _ _ => rfl
  rcases ab_i h with ⟨c39, h⟩ | ⟨c39, h⟩
  · rcases ab_i h with ⟨c40, h⟩ | ⟨c40, h⟩
    · obtain ⟨g41, h⟩ := ab_g h
      obtain ⟨q1, q2⟩ := ab_r2 h
      exact fun a ha => (congrFun q2.symm a).trans (fr a ha)
    · obtain ⟨g42, h⟩ := ab_g h
      obtain ⟨q1, q2⟩ := ab_r2 h
      exact fun a ha => (congrFun q2.symm a).trans (fr a ha)
  · obtain ⟨g43, h⟩ := ab_g h
    exact fun a ha => (hk245 _ _ _ _ _ _ h a ha).trans (fr a ha)
theorem wl_X7_shut_245 {n : Nat} {σr : am_Mem} {rr : Int} : ∀ (m : Nat) (x4 : Int) (x5 : Int) (x6 : Int) (x7 : Int) (x8 : Int) (σ : am_Mem), fl_X7_shut_245 n m x4 x5 x6 x7 x8 σ = some (rr, σr) → ∀ a : Nat, nw_X7_shut a → σr a = σ a := by
  intro m
  induction m with
  | zero => intro x4 x5 x6 x7 x8 σ h; cases h
  | succ m ih =>
    intro x4 x5 x6 x7 x8 σ h
    exact wb_X7_shut_245 (fun x4 x5 x6 x7 x8 σ h => ih x4 x5 x6 x7 x8 σ h) h
theorem wb_X7_shut_97 {n : Nat} {kh97 : Int → Int → Int → Int → Int → Int → Int → am_Mem → Option (Int × am_Mem)} {x1 : Int} {x2 : Int} {x3 : Int} {x4 : Int} {x5 : Int} {x6 : Int} {x7 : Int} {σ σr : am_Mem} {rr : Int} (hk97 : ∀ (y1 : Int) (y2 : Int) (y3 : Int) (y4 : Int) (y5 : Int) (y6 : Int) (y7 : Int) (σ : am_Mem), kh97 y1 y2 y3 y4 y5 y6 y7 σ = some (rr, σr) → ∀ a : Nat, nw_X7_shut a → σr a = σ a) (h : fb_X7_shut_97 n kh97 x1 x2 x3 x4 x5 x6 x7 σ = some (rr, σr)) : ∀ a : Nat, nw_X7_shut a → σr a = σ a := by
  unfold fb_X7_shut_97 at h
  have fr : ∀ a : Nat, nw_X7_shut a → σ a = σ a := fun _ _ => rfl
  rcases ab_i h with ⟨c22, h⟩ | ⟨c22, h⟩
  · rcases ab_i h with ⟨c23, h⟩ | ⟨c23, h⟩
    · exact fun a ha => (wl_X7_shut_132 hk97 n _ _ _ _ _ _ _ _ _ _ h a ha).trans (fr a ha)
    · exact fun a ha => (wl_X7_shut_132 hk97 n _ _ _ _ _ _ _ _ _ _ h a ha).trans (fr a ha)
  · exact fun a ha => (wl_X7_shut_245 n _ _ _ _ _ _ h a ha).trans (fr a ha)
theorem wl_X7_shut_97 {n : Nat} {σr : am_Mem} {rr : Int} : ∀ (m : Nat) (x1 : Int) (x2 : Int) (x3 : Int) (x4 : Int) (x5 : Int) (x6 : Int) (x7 : Int) (σ : am_Mem), fl_X7_shut_97 n m x1 x2 x3 x4 x5 x6 x7 σ = some (rr, σr) → ∀ a : Nat, nw_X7_shut a → σr a = σ a := by
  intro m
  induction m with
  | zero => intro x1 x2 x3 x4 x5 x6 x7 σ h; cases h
  | succ m ih =>
    intro x1 x2 x3 x4 x5 x6 x7 σ h
    exact wb_X7_shut_97 (fun x1 x2 x3 x4 x5 x6 x7 σ h => ih x1 x2 x3 x4 x5 x6 x7 σ h) h
theorem wb_X7_shut_51 {n : Nat} {kh51 : Int → Int → Int → Int → Int → Int → Int → am_Mem → Option (Int × am_Mem)} {x1 : Int} {x2 : Int} {x3 : Int} {x4 : Int} {x5 : Int} {x6 : Int} {x7 : Int} {σ σr : am_Mem} {rr : Int} (hk51 : ∀ (y1 : Int) (y2 : Int) (y3 : Int) (y4 : Int) (y5 : Int) (y6 : Int) (y7 : Int) (σ : am_Mem), kh51 y1 y2 y3 y4 y5 y6 y7 σ = some (rr, σr) → ∀ a : Nat, nw_X7_shut a → σr a = σ a) (h : fb_X7_shut_51 n kh51 x1 x2 x3 x4 x5 x6 x7 σ = some (rr, σr)) : ∀ a : Nat, nw_X7_shut a → σr a = σ a := by
  unfold fb_X7_shut_51 at h
  have fr : ∀ a : Nat, nw_X7_shut a → σ a = σ a := fun _ _ => rfl
  rcases ab_i h with ⟨c17, h⟩ | ⟨c17, h⟩
  · obtain ⟨r19, σ20, e18, h⟩ := ab_2 h
    have fr := fun (a : Nat) (ha : nw_X7_shut a) => (congrFun (u_X7_has e18) a).trans (fr a ha)
    rcases ab_i h with ⟨c21, h⟩ | ⟨c21, h⟩
    · exact fun a ha => (hk51 _ _ _ _ _ _ _ _ h a ha).trans (fr a ha)
    · exact fun a ha => (hk51 _ _ _ _ _ _ _ _ h a ha).trans (fr a ha)
  · exact fun a ha => (wl_X7_shut_97 n _ _ _ _ _ _ _ _ h a ha).trans (fr a ha)
theorem wl_X7_shut_51 {n : Nat} {σr : am_Mem} {rr : Int} : ∀ (m : Nat) (x1 : Int) (x2 : Int) (x3 : Int) (x4 : Int) (x5 : Int) (x6 : Int) (x7 : Int) (σ : am_Mem), fl_X7_shut_51 n m x1 x2 x3 x4 x5 x6 x7 σ = some (rr, σr) → ∀ a : Nat, nw_X7_shut a → σr a = σ a := by
  intro m
  induction m with
  | zero => intro x1 x2 x3 x4 x5 x6 x7 σ h; cases h
  | succ m ih =>
    intro x1 x2 x3 x4 x5 x6 x7 σ h
    exact wb_X7_shut_51 (fun x1 x2 x3 x4 x5 x6 x7 σ h => ih x1 x2 x3 x4 x5 x6 x7 σ h) h
theorem w_X7_shut {n : Nat} {p1 : Int} {p2 : Int} {p3 : Int} {p4 : Int} {σ σr : am_Mem} {rr : Int} (h : f_X7_shut n p1 p2 p3 p4 σ = some (rr, σr)) : ∀ a : Nat, nw_X7_shut a → σr a = σ a := by
  unfold f_X7_shut at h
  have fr : ∀ a : Nat, nw_X7_shut a → σ a = σ a := fun _ _ => rfl
  obtain ⟨r2, σ3, e1, h⟩ := ab_2 h
  have fr := fun (a : Nat) (ha : nw_X7_shut a) => (congrFun (u_X7_isCorner e1) a).trans (fr a ha)
  rcases ab_i h with ⟨c4, h⟩ | ⟨c4, h⟩
  · obtain ⟨q1, q2⟩ := ab_r2 h
    exact fun a ha => (congrFun q2.symm a).trans (fr a ha)
  · obtain ⟨r6, σ7, e5, h⟩ := ab_2 h
    have fr := fun (a : Nat) (ha : nw_X7_shut a) => (congrFun (u_X7_in e5) a).trans (fr a ha)
    rcases ab_i h with ⟨c8, h⟩ | ⟨c8, h⟩
    · obtain ⟨q1, q2⟩ := ab_r2 h
      exact fun a ha => (congrFun q2.symm a).trans (fr a ha)
    · obtain ⟨r10, σ11, e9, h⟩ := ab_2 h
      have fr := fun (a : Nat) (ha : nw_X7_shut a) => (congrFun (u_X7_in e9) a).trans (fr a ha)
      rcases ab_i h with ⟨c12, h⟩ | ⟨c12, h⟩
      · obtain ⟨q1, q2⟩ := ab_r2 h
        exact fun a ha => (congrFun q2.symm a).trans (fr a ha)
      · obtain ⟨r14, σ15, e13, h⟩ := ab_2 h
        have fr := fun (a : Nat) (ha : nw_X7_shut a) => (congrFun (u_X7_in e13) a).trans (fr a ha)
        rcases ab_i h with ⟨c16, h⟩ | ⟨c16, h⟩
        · obtain ⟨q1, q2⟩ := ab_r2 h
          exact fun a ha => (congrFun q2.symm a).trans (fr a ha)
        · exact fun a ha => (wl_X7_shut_51 n _ _ _ _ _ _ _ _ h a ha).trans (fr a ha)
/-! MoodFareModel.streetAfter -/
def fb_X7_streetAfter_4 (n : Nat) (kh4 : Int → Int → am_Mem → Option (Int × am_Mem)) (x2 : Int) (x3 : Int) (σ : am_Mem) : Option (Int × am_Mem) :=
  if x3 < σ 83 25 then (am_b2 (f_X7_goes n 83 42 x3 (σ 83 4) σ) fun r3 σ4 => if r3 = 0 then (kh4 x2 (am_w (x3 + 1)) σ4) else (if x2 = 0 then (some (x3, σ4)) else (kh4 (am_w (x2 + (-1))) (am_w (x3 + 1)) σ4))) else (some ((-1000000), σ))
def fl_X7_streetAfter_4 (n : Nat) : Nat → Int → Int → am_Mem → Option (Int × am_Mem)
  | 0, _, _, _ => none
  | m + 1, x2, x3, σ => fb_X7_streetAfter_4 n (fun yx2 yx3 σ => fl_X7_streetAfter_4 n m yx2 yx3 σ) x2 x3 σ
def f_X7_streetAfter (n : Nat) (p1 : Int) (σ : am_Mem) : Option (Int × am_Mem) :=
  fl_X7_streetAfter_4 n n p1 0 σ
theorem tb_X7_streetAfter_4 {L n d : Nat} {Q : am_Post} {kh4 : Int → Int → am_Mem → Option (Int × am_Mem)} {x2 : Int} {x3 : Int} {o1 : Int} {σ σr : am_Mem} {rr : Int} (hd : 2 ≤ d) (hk4 : ∀ (y2 : Int) (y3 : Int) (σ : am_Mem), kh4 y2 y3 σ = some (rr, σr) → ∀ (o1 : Int), xs_AW (xs_aw d) me_X7_streetAfter Q 4 [some (am_r 75), some (am_i o1), some (am_i y2), some (am_i y3)] [] (rm_h L σ)) (hQ : Q (some (am_i rr)) (rm_h L σr)) (h : fb_X7_streetAfter_4 n kh4 x2 x3 σ = some (rr, σr)) : xs_AW (xs_aw d) me_X7_streetAfter Q 4 [some (am_r 75), some (am_i o1), some (am_i x2), some (am_i x3)] [] (rm_h L σ) := by
  unfold fb_X7_streetAfter_4 at h
  refine rr_iload_n dX7_streetAfter_4 rfl ?_
  refine rr_aload_n dX7_streetAfter_5 rfl ?_
  refine rr_getr (t := 83) dX7_streetAfter_6 fl_7_31 (sh_75 L) ⟨(by decide), by decide⟩ rfl rfl ?_
  refine rr_bipush dX7_streetAfter_9 (by decide) ?_
  refine rr_iald (nz := 42) dX7_streetAfter_11 (sh_83 L) rfl ⟨by decide, by decide⟩ ?_
  rcases ab_i h with ⟨c1, h⟩ | ⟨c1, h⟩
  · refine rr_icmp_ge_p (t := 47) dX7_streetAfter_12 (by decide) c1 ?_
    refine rr_aload_n dX7_streetAfter_15 rfl ?_
    refine rr_getr (t := 83) dX7_streetAfter_16 fl_7_31 (sh_75 L) ⟨(by decide), by decide⟩ rfl rfl ?_
    refine rr_iload_n dX7_streetAfter_19 rfl ?_
    refine rr_aload_n dX7_streetAfter_20 rfl ?_
    refine rr_getr (t := 83) dX7_streetAfter_21 fl_7_31 (sh_75 L) ⟨(by decide), by decide⟩ rfl rfl ?_
    refine rr_iconst dX7_streetAfter_24 (by decide) ?_
    refine rr_iald (nz := 42) dX7_streetAfter_25 (sh_83 L) rfl ⟨by decide, by decide⟩ ?_
    obtain ⟨r3, σ4, e2, h⟩ := ab_2 h
    refine rr_Si (as := [am_r 83, am_i x3, am_i (σ 83 4)]) (rest := []) dX7_streetAfter_26 ml_7_176 (Or.inl rfl) rfl rfl (Nat.le_of_ble_eq_true rfl) ⟨rfl, rfl⟩ (Nat.le_of_ble_eq_true rfl) (fun _ k => t_X7_goes (by omega) (sh_83 L) (by decide) e2 k) ?_
    rcases ab_i h with ⟨c5, h⟩ | ⟨c5, h⟩
    · refine rr_if_eq_p (t := 41) dX7_streetAfter_29 (by decide) c5 ?_
      refine rr_iinc (ls' := [some (am_r 75), some (am_i o1), some (am_i x2), some (am_i (am_w (x3 + 1)))]) dX7_streetAfter_41 rfl (Nat.le_of_ble_eq_true rfl) rfl ?_
      refine rr_goto (t := 4) dX7_streetAfter_44 (by decide) ?_
      exact hk4 _ _ _ h _
    · refine rr_if_eq_n (t := 41) dX7_streetAfter_29 (by decide) c5 ?_
      refine rr_iload_n dX7_streetAfter_32 rfl ?_
      rcases ab_i h with ⟨c6, h⟩ | ⟨c6, h⟩
      · refine rr_if_ne_p (t := 38) dX7_streetAfter_33 (by decide) c6 ?_
        refine rr_iload_n dX7_streetAfter_36 rfl ?_
        obtain ⟨rfl, rfl⟩ := ab_r2 h
        exact rr_iret dX7_streetAfter_37 rfl hQ
      · refine rr_if_ne_n (t := 38) dX7_streetAfter_33 (by decide) c6 ?_
        refine rr_iinc (ls' := [some (am_r 75), some (am_i o1), some (am_i (am_w (x2 + (-1)))), some (am_i x3)]) dX7_streetAfter_38 rfl (Nat.le_of_ble_eq_true rfl) rfl ?_
        refine rr_iinc (ls' := [some (am_r 75), some (am_i o1), some (am_i (am_w (x2 + (-1)))), some (am_i (am_w (x3 + 1)))]) dX7_streetAfter_41 rfl (Nat.le_of_ble_eq_true rfl) rfl ?_
        refine rr_goto (t := 4) dX7_streetAfter_44 (by decide) ?_
        exact hk4 _ _ _ h _
  · refine rr_icmp_ge_n (t := 47) dX7_streetAfter_12 (by decide) c1 ?_
    refine rr_ldc dX7_streetAfter_47 cs_7_65 ?_
    obtain ⟨rfl, rfl⟩ := ab_r2 h
    exact rr_iret dX7_streetAfter_49 rfl hQ
theorem tl_X7_streetAfter_4 {L n d : Nat} {Q : am_Post} {σr : am_Mem} {rr : Int} (hd : 2 ≤ d) (hQ : Q (some (am_i rr)) (rm_h L σr)) : ∀ (m : Nat) (x2 : Int) (x3 : Int) (σ : am_Mem) (o1 : Int), fl_X7_streetAfter_4 n m x2 x3 σ = some (rr, σr) → xs_AW (xs_aw d) me_X7_streetAfter Q 4 [some (am_r 75), some (am_i o1), some (am_i x2), some (am_i x3)] [] (rm_h L σ) := by
  intro m
  induction m with
  | zero => intro x2 x3 σ o1 h; cases h
  | succ m ih =>
    intro x2 x3 σ o1 h
    exact tb_X7_streetAfter_4 hd (fun x2 x3 σ h o1 => ih x2 x3 σ o1 h) hQ h
theorem t_X7_streetAfter {L n d : Nat} {Q : am_Post} {p1 : Int} {σ σr : am_Mem} {rr : Int} (hd : 2 < d) (h : f_X7_streetAfter n p1 σ = some (rr, σr)) (hQ : Q (some (am_i rr)) (rm_h L σr)) : xs_aw d me_X7_streetAfter [am_r 75, am_i p1] (rm_h L σ) Q := by
  obtain ⟨d, rfl⟩ : ∃ k, d = k + 1 := ⟨d - 1, by omega⟩
  have hd : 2 ≤ d := by omega
  unfold f_X7_streetAfter at h
  show xs_AW (xs_aw d) me_X7_streetAfter Q 0 [some (am_r 75), some (am_i p1), none, none] [] (rm_h L σ)
  refine rr_iload_n dX7_streetAfter_0 rfl ?_
  refine rr_istore_n (ls' := [some (am_r 75), some (am_i p1), some (am_i p1), none]) dX7_streetAfter_1 (Nat.le_of_ble_eq_true rfl) rfl ?_
  refine rr_iconst dX7_streetAfter_2 (by decide) ?_
  refine rr_istore_n (ls' := [some (am_r 75), some (am_i p1), some (am_i p1), some (am_i 0)]) dX7_streetAfter_3 (Nat.le_of_ble_eq_true rfl) rfl ?_
  exact tl_X7_streetAfter_4 hd hQ n _ _ _ _ h
theorem ub_X7_streetAfter_4 {n : Nat} {kh4 : Int → Int → am_Mem → Option (Int × am_Mem)} {x2 : Int} {x3 : Int} {σ σr : am_Mem} {rr : Int} (hk4 : ∀ (y2 : Int) (y3 : Int) (σ : am_Mem), kh4 y2 y3 σ = some (rr, σr) → σr = σ) (h : fb_X7_streetAfter_4 n kh4 x2 x3 σ = some (rr, σr)) : σr = σ := by
  unfold fb_X7_streetAfter_4 at h
  have fr : σ = σ := rfl
  rcases ab_i h with ⟨c1, h⟩ | ⟨c1, h⟩
  · obtain ⟨r3, σ4, e2, h⟩ := ab_2 h
    have fr := (u_X7_goes e2).trans fr
    rcases ab_i h with ⟨c5, h⟩ | ⟨c5, h⟩
    · exact (hk4 _ _ _ h).trans fr
    · rcases ab_i h with ⟨c6, h⟩ | ⟨c6, h⟩
      · obtain ⟨q1, q2⟩ := ab_r2 h
        exact q2.symm.trans fr
      · exact (hk4 _ _ _ h).trans fr
  · obtain ⟨q1, q2⟩ := ab_r2 h
    exact q2.symm.trans fr
theorem ul_X7_streetAfter_4 {n : Nat} {σr : am_Mem} {rr : Int} : ∀ (m : Nat) (x2 : Int) (x3 : Int) (σ : am_Mem), fl_X7_streetAfter_4 n m x2 x3 σ = some (rr, σr) → σr = σ := by
  intro m
  induction m with
  | zero => intro x2 x3 σ h; cases h
  | succ m ih =>
    intro x2 x3 σ h
    exact ub_X7_streetAfter_4 (fun x2 x3 σ h => ih x2 x3 σ h) h
theorem u_X7_streetAfter {n : Nat} {p1 : Int} {σ σr : am_Mem} {rr : Int} (h : f_X7_streetAfter n p1 σ = some (rr, σr)) : σr = σ := by
  unfold f_X7_streetAfter at h
  have fr : σ = σ := rfl
  exact (ul_X7_streetAfter_4 n _ _ _ h).trans fr
/-! MoodFareModel.drawn -/
def fb_X7_drawn_83 (n : Nat) (kh62 : Int → Int → Int → Int → am_Mem → Option (Int × am_Mem)) (kh83 : Int → Int → Int → Int → Int → am_Mem → Option (Int × am_Mem)) (x1 : Int) (x3 : Int) (x4 : Int) (x6 : Int) (x7 : Int) (σ : am_Mem) : Option (Int × am_Mem) :=
  am_b2 (f_X7_streetAfter n x7 σ) fun r22 σ23 => if r22 = (-1000000) then (if x7 ≤ 0 then (am_b1 (some (am_up σ23 83 3 (am_w ((σ23 83 3) + 1)))) fun σ26 => kh62 x1 x3 x4 (am_w (x6 + 1)) σ26) else (if x7 ≠ 0 then am_b2 (f_X7_streetAfter n (am_w (Int.tmod x4 x7)) σ23) fun r30 σ31 => am_b1 (f_X7_rides n 83 42 r30 σ31) fun σ34 => kh62 x1 x3 x4 (am_w (x6 + 1)) σ34 else none)) else (kh83 x1 x3 x4 x6 (am_w (x7 + 1)) σ23)
def fl_X7_drawn_83 (n : Nat) (kh62 : Int → Int → Int → Int → am_Mem → Option (Int × am_Mem)) : Nat → Int → Int → Int → Int → Int → am_Mem → Option (Int × am_Mem)
  | 0, _, _, _, _, _, _ => none
  | m + 1, x1, x3, x4, x6, x7, σ => fb_X7_drawn_83 n kh62 (fun yx1 yx3 yx4 yx6 yx7 σ => fl_X7_drawn_83 n kh62 m yx1 yx3 yx4 yx6 yx7 σ) x1 x3 x4 x6 x7 σ
def fb_X7_drawn_62 (n : Nat) (kh62 : Int → Int → Int → Int → am_Mem → Option (Int × am_Mem)) (x1 : Int) (x3 : Int) (x4 : Int) (x6 : Int) (σ : am_Mem) : Option (Int × am_Mem) :=
  if x6 < x1 then (fl_X7_drawn_83 n kh62 n x1 x3 (Int.tmod (am_wl (x4 * 16807)) 2147483647) x6 0 σ) else (if x3 = 0 then (some (σ 83 2, σ)) else (some (σ 83 4, σ)))
def fl_X7_drawn_62 (n : Nat) : Nat → Int → Int → Int → Int → am_Mem → Option (Int × am_Mem)
  | 0, _, _, _, _, _ => none
  | m + 1, x1, x3, x4, x6, σ => fb_X7_drawn_62 n (fun yx1 yx3 yx4 yx6 σ => fl_X7_drawn_62 n m yx1 yx3 yx4 yx6 σ) x1 x3 x4 x6 σ
def f_X7_drawn (n : Nat) (p1 : Int) (p2 : Int) (p3 : Int) (σ : am_Mem) : Option (Int × am_Mem) :=
  am_b2 (f_X7_isTown n σ) fun r2 σ3 => if r2 = 0 then (some ((-1000002), σ3)) else (am_b2 (f_X7_in n p1 0 60 σ3) fun r6 σ7 => if r6 = 0 then (some ((-1000001), σ7)) else (am_b2 (f_X7_in n p2 1 999999 σ7) fun r10 σ11 => if r10 = 0 then (some ((-1000001), σ11)) else (am_b2 (f_X7_in n p3 0 1 σ11) fun r14 σ15 => if r14 = 0 then (some ((-1000001), σ15)) else (am_b1 (f_X7_copies n 81 42 83 42 0 0 σ15) fun σ19 => fl_X7_drawn_62 n n p1 p3 p2 0 σ19))))
theorem tb_X7_drawn_83 {L n d : Nat} {Q : am_Post} {kh62 : Int → Int → Int → Int → am_Mem → Option (Int × am_Mem)} {kh83 : Int → Int → Int → Int → Int → am_Mem → Option (Int × am_Mem)} {x1 : Int} {x3 : Int} {x4 : Int} {x6 : Int} {x7 : Int} {o2 : Int} {σ σr : am_Mem} {rr : Int} (hd : 3 ≤ d) (hk62 : ∀ (y1 : Int) (y3 : Int) (y4 : Int) (y6 : Int) (σ : am_Mem), kh62 y1 y3 y4 y6 σ = some (rr, σr) → ∀ (o2 : Int) (o7 : Option am_V), xs_AW (xs_aw d) me_X7_drawn Q 62 [some (am_r 75), some (am_i y1), some (am_i o2), some (am_i y3), some (am_l y4), none, some (am_i y6), o7] [] (rm_h L σ)) (hk83 : ∀ (y1 : Int) (y3 : Int) (y4 : Int) (y6 : Int) (y7 : Int) (σ : am_Mem), kh83 y1 y3 y4 y6 y7 σ = some (rr, σr) → ∀ (o2 : Int), xs_AW (xs_aw d) me_X7_drawn Q 83 [some (am_r 75), some (am_i y1), some (am_i o2), some (am_i y3), some (am_l y4), none, some (am_i y6), some (am_i y7)] [] (rm_h L σ)) (hQ : Q (some (am_i rr)) (rm_h L σr)) (h : fb_X7_drawn_83 n kh62 kh83 x1 x3 x4 x6 x7 σ = some (rr, σr)) : xs_AW (xs_aw d) me_X7_drawn Q 83 [some (am_r 75), some (am_i x1), some (am_i o2), some (am_i x3), some (am_l x4), none, some (am_i x6), some (am_i x7)] [] (rm_h L σ) := by
  unfold fb_X7_drawn_83 at h
  refine rr_aload_n dX7_drawn_83 rfl ?_
  refine rr_iload dX7_drawn_84 rfl ?_
  obtain ⟨r22, σ23, e21, h⟩ := ab_2 h
  refine rr_Vi (as := [am_i x7]) (rest := []) dX7_drawn_86 ml_7_245 (sh_75 L) ⟨(by decide), by decide, by decide⟩ rfl rfl rfl (Nat.le_of_ble_eq_true rfl) ⟨rfl, rfl⟩ (Nat.le_of_ble_eq_true rfl) (fun _ k => t_X7_streetAfter (by omega) e21 k) ?_
  refine rr_ldc dX7_drawn_89 cs_7_65 ?_
  rcases ab_i h with ⟨c24, h⟩ | ⟨c24, h⟩
  · refine rr_icmp_eq_p (t := 100) dX7_drawn_91 (by decide) c24 ?_
    refine rr_iload dX7_drawn_100 rfl ?_
    rcases ab_i h with ⟨c25, h⟩ | ⟨c25, h⟩
    · refine rr_if_le_p (t := 126) dX7_drawn_102 (by decide) c25 ?_
      refine rr_aload_n dX7_drawn_126 rfl ?_
      refine rr_getr (t := 83) dX7_drawn_127 fl_7_31 (sh_75 L) ⟨(by decide), by decide⟩ rfl rfl ?_
      refine rr_iconst dX7_drawn_130 (by decide) ?_
      refine rr_dup2 dX7_drawn_131 rfl rfl ?_
      refine rr_iald (nz := 42) dX7_drawn_132 (sh_83 L) rfl ⟨by decide, by decide⟩ ?_
      refine rr_iconst dX7_drawn_133 (by decide) ?_
      refine rr_iadd dX7_drawn_134 ?_
      refine rr_iast (nz := 42) dX7_drawn_135 (sh_83 L) (by decide) rfl ⟨by decide, by decide⟩ ?_
      obtain ⟨σ26, e27, h⟩ := ab_1 h
      refine ab_m e27 ?_
      refine rr_iinc (ls' := [some (am_r 75), some (am_i x1), some (am_i o2), some (am_i x3), some (am_l x4), none, some (am_i (am_w (x6 + 1))), some (am_i x7)]) dX7_drawn_136 rfl (Nat.le_of_ble_eq_true rfl) rfl ?_
      refine rr_goto (t := 62) dX7_drawn_139 (by decide) ?_
      exact hk62 _ _ _ _ _ h _ _
    · refine rr_if_le_n (t := 126) dX7_drawn_102 (by decide) c25 ?_
      refine rr_aload_n dX7_drawn_105 rfl ?_
      refine rr_getr (t := 83) dX7_drawn_106 fl_7_31 (sh_75 L) ⟨(by decide), by decide⟩ rfl rfl ?_
      refine rr_aload_n dX7_drawn_109 rfl ?_
      refine rr_lload dX7_drawn_110 rfl ?_
      refine rr_iload dX7_drawn_112 rfl ?_
      refine rr_i2l dX7_drawn_114 ?_
      obtain ⟨g28, h⟩ := ab_g h
      refine rr_lrem dX7_drawn_115 g28 ?_
      refine rr_l2i dX7_drawn_116 ?_
      obtain ⟨r30, σ31, e29, h⟩ := ab_2 h
      refine rr_Vi (as := [am_i (am_w (Int.tmod x4 x7))]) (rest := [am_r 83]) dX7_drawn_117 ml_7_245 (sh_75 L) ⟨(by decide), by decide, by decide⟩ rfl rfl rfl (Nat.le_of_ble_eq_true rfl) ⟨rfl, rfl⟩ (Nat.le_of_ble_eq_true rfl) (fun _ k => t_X7_streetAfter (by omega) e29 k) ?_
      obtain ⟨σ34, e32, h⟩ := ab_1 h
      refine rr_Sv (as := [am_r 83, am_i r30]) (rest := []) dX7_drawn_120 ml_7_184 (Or.inl rfl) rfl rfl (Nat.le_of_ble_eq_true rfl) ⟨rfl, rfl⟩ (Nat.le_of_ble_eq_true rfl) (fun _ k => t_X7_rides (by omega) (sh_83 L) (by decide) e32 k) ?_
      refine rr_goto (t := 136) dX7_drawn_123 (by decide) ?_
      refine rr_iinc (ls' := [some (am_r 75), some (am_i x1), some (am_i o2), some (am_i x3), some (am_l x4), none, some (am_i (am_w (x6 + 1))), some (am_i x7)]) dX7_drawn_136 rfl (Nat.le_of_ble_eq_true rfl) rfl ?_
      refine rr_goto (t := 62) dX7_drawn_139 (by decide) ?_
      exact hk62 _ _ _ _ _ h _ _
  · refine rr_icmp_eq_n (t := 100) dX7_drawn_91 (by decide) c24 ?_
    refine rr_iinc (ls' := [some (am_r 75), some (am_i x1), some (am_i o2), some (am_i x3), some (am_l x4), none, some (am_i x6), some (am_i (am_w (x7 + 1)))]) dX7_drawn_94 rfl (Nat.le_of_ble_eq_true rfl) rfl ?_
    refine rr_goto (t := 83) dX7_drawn_97 (by decide) ?_
    exact hk83 _ _ _ _ _ _ h _
theorem tl_X7_drawn_83 {L n d : Nat} {Q : am_Post} {kh62 : Int → Int → Int → Int → am_Mem → Option (Int × am_Mem)} {σr : am_Mem} {rr : Int} (hd : 3 ≤ d) (hk62 : ∀ (y1 : Int) (y3 : Int) (y4 : Int) (y6 : Int) (σ : am_Mem), kh62 y1 y3 y4 y6 σ = some (rr, σr) → ∀ (o2 : Int) (o7 : Option am_V), xs_AW (xs_aw d) me_X7_drawn Q 62 [some (am_r 75), some (am_i y1), some (am_i o2), some (am_i y3), some (am_l y4), none, some (am_i y6), o7] [] (rm_h L σ)) (hQ : Q (some (am_i rr)) (rm_h L σr)) : ∀ (m : Nat) (x1 : Int) (x3 : Int) (x4 : Int) (x6 : Int) (x7 : Int) (σ : am_Mem) (o2 : Int), fl_X7_drawn_83 n kh62 m x1 x3 x4 x6 x7 σ = some (rr, σr) → xs_AW (xs_aw d) me_X7_drawn Q 83 [some (am_r 75), some (am_i x1), some (am_i o2), some (am_i x3), some (am_l x4), none, some (am_i x6), some (am_i x7)] [] (rm_h L σ) := by
  intro m
  induction m with
  | zero => intro x1 x3 x4 x6 x7 σ o2 h; cases h
  | succ m ih =>
    intro x1 x3 x4 x6 x7 σ o2 h
    exact tb_X7_drawn_83 hd hk62 (fun x1 x3 x4 x6 x7 σ h o2 => ih x1 x3 x4 x6 x7 σ o2 h) hQ h
theorem tb_X7_drawn_62 {L n d : Nat} {Q : am_Post} {kh62 : Int → Int → Int → Int → am_Mem → Option (Int × am_Mem)} {x1 : Int} {x3 : Int} {x4 : Int} {x6 : Int} {o2 : Int} {o7 : Option am_V} {σ σr : am_Mem} {rr : Int} (hd : 3 ≤ d) (hk62 : ∀ (y1 : Int) (y3 : Int) (y4 : Int) (y6 : Int) (σ : am_Mem), kh62 y1 y3 y4 y6 σ = some (rr, σr) → ∀ (o2 : Int) (o7 : Option am_V), xs_AW (xs_aw d) me_X7_drawn Q 62 [some (am_r 75), some (am_i y1), some (am_i o2), some (am_i y3), some (am_l y4), none, some (am_i y6), o7] [] (rm_h L σ)) (hQ : Q (some (am_i rr)) (rm_h L σr)) (h : fb_X7_drawn_62 n kh62 x1 x3 x4 x6 σ = some (rr, σr)) : xs_AW (xs_aw d) me_X7_drawn Q 62 [some (am_r 75), some (am_i x1), some (am_i o2), some (am_i x3), some (am_l x4), none, some (am_i x6), o7] [] (rm_h L σ) := by
  unfold fb_X7_drawn_62 at h
  refine rr_iload dX7_drawn_62 rfl ?_
  refine rr_iload_n dX7_drawn_64 rfl ?_
  rcases ab_i h with ⟨c20, h⟩ | ⟨c20, h⟩
  · refine rr_icmp_ge_p (t := 142) dX7_drawn_65 (by decide) c20 ?_
    refine rr_lload dX7_drawn_68 rfl ?_
    refine rr_ldc2_w dX7_drawn_70 cl_7_241 ?_
    refine rr_lmul dX7_drawn_73 ?_
    refine rr_ldc2_w dX7_drawn_74 cl_7_243 ?_
    refine rr_lrem dX7_drawn_77 (by decide) ?_
    refine rr_lstore (ls' := [some (am_r 75), some (am_i x1), some (am_i o2), some (am_i x3), some (am_l (Int.tmod (am_wl (x4 * 16807)) 2147483647)), none, some (am_i x6), o7]) dX7_drawn_78 (Nat.le_of_ble_eq_true rfl) rfl ?_
    refine rr_iconst dX7_drawn_80 (by decide) ?_
    refine rr_istore (ls' := [some (am_r 75), some (am_i x1), some (am_i o2), some (am_i x3), some (am_l (Int.tmod (am_wl (x4 * 16807)) 2147483647)), none, some (am_i x6), some (am_i 0)]) dX7_drawn_81 (Nat.le_of_ble_eq_true rfl) rfl ?_
    exact tl_X7_drawn_83 hd hk62 hQ n _ _ _ _ _ _ _ h
  · refine rr_icmp_ge_n (t := 142) dX7_drawn_65 (by decide) c20 ?_
    refine rr_iload_n dX7_drawn_142 rfl ?_
    rcases ab_i h with ⟨c35, h⟩ | ⟨c35, h⟩
    · refine rr_if_ne_p (t := 155) dX7_drawn_143 (by decide) c35 ?_
      refine rr_aload_n dX7_drawn_146 rfl ?_
      refine rr_getr (t := 83) dX7_drawn_147 fl_7_31 (sh_75 L) ⟨(by decide), by decide⟩ rfl rfl ?_
      refine rr_iconst dX7_drawn_150 (by decide) ?_
      refine rr_iald (nz := 42) dX7_drawn_151 (sh_83 L) rfl ⟨by decide, by decide⟩ ?_
      refine rr_goto (t := 161) dX7_drawn_152 (by decide) ?_
      obtain ⟨rfl, rfl⟩ := ab_r2 h
      exact rr_iret dX7_drawn_161 rfl hQ
    · refine rr_if_ne_n (t := 155) dX7_drawn_143 (by decide) c35 ?_
      refine rr_aload_n dX7_drawn_155 rfl ?_
      refine rr_getr (t := 83) dX7_drawn_156 fl_7_31 (sh_75 L) ⟨(by decide), by decide⟩ rfl rfl ?_
      refine rr_iconst dX7_drawn_159 (by decide) ?_
      refine rr_iald (nz := 42) dX7_drawn_160 (sh_83 L) rfl ⟨by decide, by decide⟩ ?_
      obtain ⟨rfl, rfl⟩ := ab_r2 h
      exact rr_iret dX7_drawn_161 rfl hQ
theorem tl_X7_drawn_62 {L n d : Nat} {Q : am_Post} {σr : am_Mem} {rr : Int} (hd : 3 ≤ d) (hQ : Q (some (am_i rr)) (rm_h L σr)) : ∀ (m : Nat) (x1 : Int) (x3 : Int) (x4 : Int) (x6 : Int) (σ : am_Mem) (o2 : Int) (o7 : Option am_V), fl_X7_drawn_62 n m x1 x3 x4 x6 σ = some (rr, σr) → xs_AW (xs_aw d) me_X7_drawn Q 62 [some (am_r 75), some (am_i x1), some (am_i o2), some (am_i x3), some (am_l x4), none, some (am_i x6), o7] [] (rm_h L σ) := by
  intro m
  induction m with
  | zero => intro x1 x3 x4 x6 σ o2 o7 h; cases h
  | succ m ih =>
    intro x1 x3 x4 x6 σ o2 o7 h
    exact tb_X7_drawn_62 hd (fun x1 x3 x4 x6 σ h o2 o7 => ih x1 x3 x4 x6 σ o2 o7 h) hQ h
theorem t_X7_drawn {L n d : Nat} {Q : am_Post} {p1 : Int} {p2 : Int} {p3 : Int} {σ σr : am_Mem} {rr : Int} (hd : 3 < d) (h : f_X7_drawn n p1 p2 p3 σ = some (rr, σr)) (hQ : Q (some (am_i rr)) (rm_h L σr)) : xs_aw d me_X7_drawn [am_r 75, am_i p1, am_i p2, am_i p3] (rm_h L σ) Q := by
  obtain ⟨d, rfl⟩ : ∃ k, d = k + 1 := ⟨d - 1, by omega⟩
  have hd : 3 ≤ d := by omega
  unfold f_X7_drawn at h
  show xs_AW (xs_aw d) me_X7_drawn Q 0 [some (am_r 75), some (am_i p1), some (am_i p2), some (am_i p3), none, none, none, none] [] (rm_h L σ)
  refine rr_aload_n dX7_drawn_0 rfl ?_
  obtain ⟨r2, σ3, e1, h⟩ := ab_2 h
  refine rr_Vi (as := []) (rest := []) dX7_drawn_1 ml_7_191 (sh_75 L) ⟨(by decide), by decide, by decide⟩ rfl rfl rfl (Nat.le_of_ble_eq_true rfl) ⟨rfl, rfl⟩ (Nat.le_of_ble_eq_true rfl) (fun _ k => t_X7_isTown (by omega) e1 k) ?_
  rcases ab_i h with ⟨c4, h⟩ | ⟨c4, h⟩
  · refine rr_if_ne_p (t := 10) dX7_drawn_4 (by decide) c4 ?_
    refine rr_ldc dX7_drawn_7 cs_7_180 ?_
    obtain ⟨rfl, rfl⟩ := ab_r2 h
    exact rr_iret dX7_drawn_9 rfl hQ
  · refine rr_if_ne_n (t := 10) dX7_drawn_4 (by decide) c4 ?_
    refine rr_iload_n dX7_drawn_10 rfl ?_
    refine rr_iconst dX7_drawn_11 (by decide) ?_
    refine rr_bipush dX7_drawn_12 (by decide) ?_
    obtain ⟨r6, σ7, e5, h⟩ := ab_2 h
    refine rr_Si (as := [am_i p1, am_i 0, am_i 60]) (rest := []) dX7_drawn_14 ml_7_71 (Or.inl rfl) rfl rfl (Nat.le_of_ble_eq_true rfl) ⟨rfl, rfl⟩ (Nat.le_of_ble_eq_true rfl) (fun _ k => t_X7_in (by omega) e5 k) ?_
    rcases ab_i h with ⟨c8, h⟩ | ⟨c8, h⟩
    · refine rr_if_eq_p (t := 39) dX7_drawn_17 (by decide) c8 ?_
      refine rr_ldc dX7_drawn_39 cs_7_79 ?_
      obtain ⟨rfl, rfl⟩ := ab_r2 h
      exact rr_iret dX7_drawn_41 rfl hQ
    · refine rr_if_eq_n (t := 39) dX7_drawn_17 (by decide) c8 ?_
      refine rr_iload_n dX7_drawn_20 rfl ?_
      refine rr_iconst dX7_drawn_21 (by decide) ?_
      refine rr_ldc dX7_drawn_22 cs_7_240 ?_
      obtain ⟨r10, σ11, e9, h⟩ := ab_2 h
      refine rr_Si (as := [am_i p2, am_i 1, am_i 999999]) (rest := []) dX7_drawn_24 ml_7_71 (Or.inl rfl) rfl rfl (Nat.le_of_ble_eq_true rfl) ⟨rfl, rfl⟩ (Nat.le_of_ble_eq_true rfl) (fun _ k => t_X7_in (by omega) e9 k) ?_
      rcases ab_i h with ⟨c12, h⟩ | ⟨c12, h⟩
      · refine rr_if_eq_p (t := 39) dX7_drawn_27 (by decide) c12 ?_
        refine rr_ldc dX7_drawn_39 cs_7_79 ?_
        obtain ⟨rfl, rfl⟩ := ab_r2 h
        exact rr_iret dX7_drawn_41 rfl hQ
      · refine rr_if_eq_n (t := 39) dX7_drawn_27 (by decide) c12 ?_
        refine rr_iload_n dX7_drawn_30 rfl ?_
        refine rr_iconst dX7_drawn_31 (by decide) ?_
        refine rr_iconst dX7_drawn_32 (by decide) ?_
        obtain ⟨r14, σ15, e13, h⟩ := ab_2 h
        refine rr_Si (as := [am_i p3, am_i 0, am_i 1]) (rest := []) dX7_drawn_33 ml_7_71 (Or.inl rfl) rfl rfl (Nat.le_of_ble_eq_true rfl) ⟨rfl, rfl⟩ (Nat.le_of_ble_eq_true rfl) (fun _ k => t_X7_in (by omega) e13 k) ?_
        rcases ab_i h with ⟨c16, h⟩ | ⟨c16, h⟩
        · refine rr_if_ne_p (t := 42) dX7_drawn_36 (by decide) c16 ?_
          refine rr_ldc dX7_drawn_39 cs_7_79 ?_
          obtain ⟨rfl, rfl⟩ := ab_r2 h
          exact rr_iret dX7_drawn_41 rfl hQ
        · refine rr_if_ne_n (t := 42) dX7_drawn_36 (by decide) c16 ?_
          refine rr_aload_n dX7_drawn_42 rfl ?_
          refine rr_getr (t := 81) dX7_drawn_43 fl_7_25 (sh_75 L) ⟨(by decide), by decide⟩ rfl rfl ?_
          refine rr_iconst dX7_drawn_46 (by decide) ?_
          refine rr_aload_n dX7_drawn_47 rfl ?_
          refine rr_getr (t := 83) dX7_drawn_48 fl_7_31 (sh_75 L) ⟨(by decide), by decide⟩ rfl rfl ?_
          refine rr_iconst dX7_drawn_51 (by decide) ?_
          obtain ⟨σ19, e17, h⟩ := ab_1 h
          refine rr_Sv (as := [am_r 81, am_i 0, am_r 83, am_i 0]) (rest := []) dX7_drawn_52 ml_7_156 (Or.inl rfl) rfl rfl (Nat.le_of_ble_eq_true rfl) ⟨rfl, rfl⟩ (Nat.le_of_ble_eq_true rfl) (fun _ k => t_X7_copies (by omega) (sh_81 L) (by decide) (sh_83 L) (by decide) e17 k) ?_
          refine rr_iload_n dX7_drawn_55 rfl ?_
          refine rr_i2l dX7_drawn_56 ?_
          refine rr_lstore (ls' := [some (am_r 75), some (am_i p1), some (am_i p2), some (am_i p3), some (am_l p2), none, none, none]) dX7_drawn_57 (Nat.le_of_ble_eq_true rfl) rfl ?_
          refine rr_iconst dX7_drawn_59 (by decide) ?_
          refine rr_istore (ls' := [some (am_r 75), some (am_i p1), some (am_i p2), some (am_i p3), some (am_l p2), none, some (am_i 0), none]) dX7_drawn_60 (Nat.le_of_ble_eq_true rfl) rfl ?_
          exact tl_X7_drawn_62 hd hQ n _ _ _ _ _ _ _ h
def nw_X7_drawn (a : Nat) : Prop := a ≠ 83
theorem wb_X7_drawn_83 {n : Nat} {kh62 : Int → Int → Int → Int → am_Mem → Option (Int × am_Mem)} {kh83 : Int → Int → Int → Int → Int → am_Mem → Option (Int × am_Mem)} {x1 : Int} {x3 : Int} {x4 : Int} {x6 : Int} {x7 : Int} {σ σr : am_Mem} {rr : Int} (hk62 : ∀ (y1 : Int) (y3 : Int) (y4 : Int) (y6 : Int) (σ : am_Mem), kh62 y1 y3 y4 y6 σ = some (rr, σr) → ∀ a : Nat, nw_X7_drawn a → σr a = σ a) (hk83 : ∀ (y1 : Int) (y3 : Int) (y4 : Int) (y6 : Int) (y7 : Int) (σ : am_Mem), kh83 y1 y3 y4 y6 y7 σ = some (rr, σr) → ∀ a : Nat, nw_X7_drawn a → σr a = σ a) (h : fb_X7_drawn_83 n kh62 kh83 x1 x3 x4 x6 x7 σ = some (rr, σr)) : ∀ a : Nat, nw_X7_drawn a → σr a = σ a := by
  unfold fb_X7_drawn_83 at h
  have fr : ∀ a : Nat, nw_X7_drawn a → σ a = σ a := fun _ _ => rfl
  obtain ⟨r22, σ23, e21, h⟩ := ab_2 h
  have fr := fun (a : Nat) (ha : nw_X7_drawn a) => (congrFun (u_X7_streetAfter e21) a).trans (fr a ha)
  rcases ab_i h with ⟨c24, h⟩ | ⟨c24, h⟩
  · rcases ab_i h with ⟨c25, h⟩ | ⟨c25, h⟩
    · obtain ⟨σ26, e27, h⟩ := ab_1 h
      have fr := fun (a : Nat) (ha : nw_X7_drawn a) => (ab_fu e27 (show a ≠ 83 by unfold nw_X7_drawn at ha; omega)).trans (fr a ha)
      exact fun a ha => (hk62 _ _ _ _ _ h a ha).trans (fr a ha)
    · obtain ⟨g28, h⟩ := ab_g h
      obtain ⟨r30, σ31, e29, h⟩ := ab_2 h
      have fr := fun (a : Nat) (ha : nw_X7_drawn a) => (congrFun (u_X7_streetAfter e29) a).trans (fr a ha)
      obtain ⟨σ34, e32, h⟩ := ab_1 h
      have fr := fun (a : Nat) (ha : nw_X7_drawn a) => (w_X7_rides e32 a (by unfold nw_X7_drawn at ha; unfold nw_X7_rides; omega)).trans (fr a ha)
      exact fun a ha => (hk62 _ _ _ _ _ h a ha).trans (fr a ha)
  · exact fun a ha => (hk83 _ _ _ _ _ _ h a ha).trans (fr a ha)
theorem wl_X7_drawn_83 {n : Nat} {kh62 : Int → Int → Int → Int → am_Mem → Option (Int × am_Mem)} {σr : am_Mem} {rr : Int} (hk62 : ∀ (y1 : Int) (y3 : Int) (y4 : Int) (y6 : Int) (σ : am_Mem), kh62 y1 y3 y4 y6 σ = some (rr, σr) → ∀ a : Nat, nw_X7_drawn a → σr a = σ a) : ∀ (m : Nat) (x1 : Int) (x3 : Int) (x4 : Int) (x6 : Int) (x7 : Int) (σ : am_Mem), fl_X7_drawn_83 n kh62 m x1 x3 x4 x6 x7 σ = some (rr, σr) → ∀ a : Nat, nw_X7_drawn a → σr a = σ a := by
  intro m
  induction m with
  | zero => intro x1 x3 x4 x6 x7 σ h; cases h
  | succ m ih =>
    intro x1 x3 x4 x6 x7 σ h
    exact wb_X7_drawn_83 hk62 (fun x1 x3 x4 x6 x7 σ h => ih x1 x3 x4 x6 x7 σ h) h
theorem wb_X7_drawn_62 {n : Nat} {kh62 : Int → Int → Int → Int → am_Mem → Option (Int × am_Mem)} {x1 : Int} {x3 : Int} {x4 : Int} {x6 : Int} {σ σr : am_Mem} {rr : Int} (hk62 : ∀ (y1 : Int) (y3 : Int) (y4 : Int) (y6 : Int) (σ : am_Mem), kh62 y1 y3 y4 y6 σ = some (rr, σr) → ∀ a : Nat, nw_X7_drawn a → σr a = σ a) (h : fb_X7_drawn_62 n kh62 x1 x3 x4 x6 σ = some (rr, σr)) : ∀ a : Nat, nw_X7_drawn a → σr a = σ a := by
  unfold fb_X7_drawn_62 at h
  have fr : ∀ a : Nat, nw_X7_drawn a → σ a = σ a := fun _ _ => rfl
  rcases ab_i h with ⟨c20, h⟩ | ⟨c20, h⟩
  · exact fun a ha => (wl_X7_drawn_83 hk62 n _ _ _ _ _ _ h a ha).trans (fr a ha)
  · rcases ab_i h with ⟨c35, h⟩ | ⟨c35, h⟩
    · obtain ⟨q1, q2⟩ := ab_r2 h
      exact fun a ha => (congrFun q2.symm a).trans (fr a ha)
    · obtain ⟨q1, q2⟩ := ab_r2 h
      exact fun a ha => (congrFun q2.symm a).trans (fr a ha)
theorem wl_X7_drawn_62 {n : Nat} {σr : am_Mem} {rr : Int} : ∀ (m : Nat) (x1 : Int) (x3 : Int) (x4 : Int) (x6 : Int) (σ : am_Mem), fl_X7_drawn_62 n m x1 x3 x4 x6 σ = some (rr, σr) → ∀ a : Nat, nw_X7_drawn a → σr a = σ a := by
  intro m
  induction m with
  | zero => intro x1 x3 x4 x6 σ h; cases h
  | succ m ih =>
    intro x1 x3 x4 x6 σ h
    exact wb_X7_drawn_62 (fun x1 x3 x4 x6 σ h => ih x1 x3 x4 x6 σ h) h
theorem w_X7_drawn {n : Nat} {p1 : Int} {p2 : Int} {p3 : Int} {σ σr : am_Mem} {rr : Int} (h : f_X7_drawn n p1 p2 p3 σ = some (rr, σr)) : ∀ a : Nat, nw_X7_drawn a → σr a = σ a := by
  unfold f_X7_drawn at h
  have fr : ∀ a : Nat, nw_X7_drawn a → σ a = σ a := fun _ _ => rfl
  obtain ⟨r2, σ3, e1, h⟩ := ab_2 h
  have fr := fun (a : Nat) (ha : nw_X7_drawn a) => (congrFun (u_X7_isTown e1) a).trans (fr a ha)
  rcases ab_i h with ⟨c4, h⟩ | ⟨c4, h⟩
  · obtain ⟨q1, q2⟩ := ab_r2 h
    exact fun a ha => (congrFun q2.symm a).trans (fr a ha)
  · obtain ⟨r6, σ7, e5, h⟩ := ab_2 h
    have fr := fun (a : Nat) (ha : nw_X7_drawn a) => (congrFun (u_X7_in e5) a).trans (fr a ha)
    rcases ab_i h with ⟨c8, h⟩ | ⟨c8, h⟩
    · obtain ⟨q1, q2⟩ := ab_r2 h
      exact fun a ha => (congrFun q2.symm a).trans (fr a ha)
    · obtain ⟨r10, σ11, e9, h⟩ := ab_2 h
      have fr := fun (a : Nat) (ha : nw_X7_drawn a) => (congrFun (u_X7_in e9) a).trans (fr a ha)
      rcases ab_i h with ⟨c12, h⟩ | ⟨c12, h⟩
      · obtain ⟨q1, q2⟩ := ab_r2 h
        exact fun a ha => (congrFun q2.symm a).trans (fr a ha)
      · obtain ⟨r14, σ15, e13, h⟩ := ab_2 h
        have fr := fun (a : Nat) (ha : nw_X7_drawn a) => (congrFun (u_X7_in e13) a).trans (fr a ha)
        rcases ab_i h with ⟨c16, h⟩ | ⟨c16, h⟩
        · obtain ⟨q1, q2⟩ := ab_r2 h
          exact fun a ha => (congrFun q2.symm a).trans (fr a ha)
        · obtain ⟨σ19, e17, h⟩ := ab_1 h
          have fr := fun (a : Nat) (ha : nw_X7_drawn a) => (w_X7_copies e17 a (by unfold nw_X7_drawn at ha; unfold nw_X7_copies; omega)).trans (fr a ha)
          exact fun a ha => (wl_X7_drawn_62 n _ _ _ _ _ h a ha).trans (fr a ha)
/-! MoodFareModel.image -/
def f_X7_image (n : Nat) (p1 : Int) (σ : am_Mem) : Option (Int × am_Mem) :=
  am_b2 (f_X7_in n p1 0 1 σ) fun r2 σ3 => if r2 = 0 then (some ((-1000001), σ3)) else (am_b2 (f_X7_isTown n σ3) fun r6 σ7 => if r6 = 0 then (some ((-1000002), σ7)) else (am_b1 (f_X7_copies n 81 42 85 84 0 (am_w (42 * p1)) σ7) fun σ11 => if (0 : Int) ≤ p1 ∧ p1 < 2 then am_b1 (some (am_up σ11 86 p1 1)) fun σ13 => some (1, σ13) else none))
theorem t_X7_image {L n d : Nat} {Q : am_Post} {p1 : Int} {σ σr : am_Mem} {rr : Int} (hd : 1 < d) (h : f_X7_image n p1 σ = some (rr, σr)) (hQ : Q (some (am_i rr)) (rm_h L σr)) : xs_aw d me_X7_image [am_r 75, am_i p1] (rm_h L σ) Q := by
  obtain ⟨d, rfl⟩ : ∃ k, d = k + 1 := ⟨d - 1, by omega⟩
  have hd : 1 ≤ d := by omega
  unfold f_X7_image at h
  show xs_AW (xs_aw d) me_X7_image Q 0 [some (am_r 75), some (am_i p1)] [] (rm_h L σ)
  refine rr_iload_n dX7_image_0 rfl ?_
  refine rr_iconst dX7_image_1 (by decide) ?_
  refine rr_iconst dX7_image_2 (by decide) ?_
  obtain ⟨r2, σ3, e1, h⟩ := ab_2 h
  refine rr_Si (as := [am_i p1, am_i 0, am_i 1]) (rest := []) dX7_image_3 ml_7_71 (Or.inl rfl) rfl rfl (Nat.le_of_ble_eq_true rfl) ⟨rfl, rfl⟩ (Nat.le_of_ble_eq_true rfl) (fun _ k => t_X7_in (by omega) e1 k) ?_
  rcases ab_i h with ⟨c4, h⟩ | ⟨c4, h⟩
  · refine rr_if_ne_p (t := 12) dX7_image_6 (by decide) c4 ?_
    refine rr_ldc dX7_image_9 cs_7_79 ?_
    obtain ⟨rfl, rfl⟩ := ab_r2 h
    exact rr_iret dX7_image_11 rfl hQ
  · refine rr_if_ne_n (t := 12) dX7_image_6 (by decide) c4 ?_
    refine rr_aload_n dX7_image_12 rfl ?_
    obtain ⟨r6, σ7, e5, h⟩ := ab_2 h
    refine rr_Vi (as := []) (rest := []) dX7_image_13 ml_7_191 (sh_75 L) ⟨(by decide), by decide, by decide⟩ rfl rfl rfl (Nat.le_of_ble_eq_true rfl) ⟨rfl, rfl⟩ (Nat.le_of_ble_eq_true rfl) (fun _ k => t_X7_isTown (by omega) e5 k) ?_
    rcases ab_i h with ⟨c8, h⟩ | ⟨c8, h⟩
    · refine rr_if_ne_p (t := 22) dX7_image_16 (by decide) c8 ?_
      refine rr_ldc dX7_image_19 cs_7_180 ?_
      obtain ⟨rfl, rfl⟩ := ab_r2 h
      exact rr_iret dX7_image_21 rfl hQ
    · refine rr_if_ne_n (t := 22) dX7_image_16 (by decide) c8 ?_
      refine rr_aload_n dX7_image_22 rfl ?_
      refine rr_getr (t := 81) dX7_image_23 fl_7_25 (sh_75 L) ⟨(by decide), by decide⟩ rfl rfl ?_
      refine rr_iconst dX7_image_26 (by decide) ?_
      refine rr_aload_n dX7_image_27 rfl ?_
      refine rr_getr (t := 85) dX7_image_28 fl_7_37 (sh_75 L) ⟨(by decide), by decide⟩ rfl rfl ?_
      refine rr_bipush dX7_image_31 (by decide) ?_
      refine rr_iload_n dX7_image_33 rfl ?_
      refine rr_imul dX7_image_34 ?_
      obtain ⟨σ11, e9, h⟩ := ab_1 h
      refine rr_Sv (as := [am_r 81, am_i 0, am_r 85, am_i (am_w (42 * p1))]) (rest := []) dX7_image_35 ml_7_156 (Or.inl rfl) rfl rfl (Nat.le_of_ble_eq_true rfl) ⟨rfl, rfl⟩ (Nat.le_of_ble_eq_true rfl) (fun _ k => t_X7_copies (by omega) (sh_81 L) (by decide) (sh_85 L) (by decide) e9 k) ?_
      refine rr_aload_n dX7_image_38 rfl ?_
      refine rr_getr (t := 86) dX7_image_39 fl_7_40 (sh_75 L) ⟨(by decide), by decide⟩ rfl rfl ?_
      refine rr_iload_n dX7_image_42 rfl ?_
      refine rr_iconst dX7_image_43 (by decide) ?_
      obtain ⟨g12, h⟩ := ab_g h
      refine rr_bast (nz := 2) dX7_image_44 (sh_86 L) (by decide) rfl g12 (Or.inr rfl) ?_
      obtain ⟨σ13, e14, h⟩ := ab_1 h
      refine ab_m e14 ?_
      refine rr_iconst dX7_image_45 (by decide) ?_
      obtain ⟨rfl, rfl⟩ := ab_r2 h
      exact rr_iret dX7_image_46 rfl hQ
def nw_X7_image (a : Nat) : Prop := a ≠ 85 ∧ a ≠ 86
theorem w_X7_image {n : Nat} {p1 : Int} {σ σr : am_Mem} {rr : Int} (h : f_X7_image n p1 σ = some (rr, σr)) : ∀ a : Nat, nw_X7_image a → σr a = σ a := by
  unfold f_X7_image at h
  have fr : ∀ a : Nat, nw_X7_image a → σ a = σ a := fun _ _ => rfl
  obtain ⟨r2, σ3, e1, h⟩ := ab_2 h
  have fr := fun (a : Nat) (ha : nw_X7_image a) => (congrFun (u_X7_in e1) a).trans (fr a ha)
  rcases ab_i h with ⟨c4, h⟩ | ⟨c4, h⟩
  · obtain ⟨q1, q2⟩ := ab_r2 h
    exact fun a ha => (congrFun q2.symm a).trans (fr a ha)
  · obtain ⟨r6, σ7, e5, h⟩ := ab_2 h
    have fr := fun (a : Nat) (ha : nw_X7_image a) => (congrFun (u_X7_isTown e5) a).trans (fr a ha)
    rcases ab_i h with ⟨c8, h⟩ | ⟨c8, h⟩
    · obtain ⟨q1, q2⟩ := ab_r2 h
      exact fun a ha => (congrFun q2.symm a).trans (fr a ha)
    · obtain ⟨σ11, e9, h⟩ := ab_1 h
      have fr := fun (a : Nat) (ha : nw_X7_image a) => (w_X7_copies e9 a (by unfold nw_X7_image at ha; unfold nw_X7_copies; omega)).trans (fr a ha)
      obtain ⟨g12, h⟩ := ab_g h
      obtain ⟨σ13, e14, h⟩ := ab_1 h
      have fr := fun (a : Nat) (ha : nw_X7_image a) => (ab_fu e14 (show a ≠ 86 by unfold nw_X7_image at ha; omega)).trans (fr a ha)
      obtain ⟨q1, q2⟩ := ab_r2 h
      exact fun a ha => (congrFun q2.symm a).trans (fr a ha)
/-! MoodFareModel.restore -/
def f_X7_restore (n : Nat) (p1 : Int) (σ : am_Mem) : Option (Int × am_Mem) :=
  am_b2 (f_X7_in n p1 0 1 σ) fun r2 σ3 => if r2 = 0 then (some ((-1000001), σ3)) else (if (0 : Int) ≤ p1 ∧ p1 < 2 then if σ3 86 p1 = 0 then (some ((-1000002), σ3)) else (am_b1 (f_X7_copies n 85 84 81 42 (am_w (42 * p1)) 0 σ3) fun σ9 => am_b1 (some (am_up σ9 75 17 0)) fun σ10 => some (1, σ10)) else none)
theorem t_X7_restore {L n d : Nat} {Q : am_Post} {p1 : Int} {σ σr : am_Mem} {rr : Int} (hd : 1 < d) (h : f_X7_restore n p1 σ = some (rr, σr)) (hQ : Q (some (am_i rr)) (rm_h L σr)) : xs_aw d me_X7_restore [am_r 75, am_i p1] (rm_h L σ) Q := by
  obtain ⟨d, rfl⟩ : ∃ k, d = k + 1 := ⟨d - 1, by omega⟩
  have hd : 1 ≤ d := by omega
  unfold f_X7_restore at h
  show xs_AW (xs_aw d) me_X7_restore Q 0 [some (am_r 75), some (am_i p1)] [] (rm_h L σ)
  refine rr_iload_n dX7_restore_0 rfl ?_
  refine rr_iconst dX7_restore_1 (by decide) ?_
  refine rr_iconst dX7_restore_2 (by decide) ?_
  obtain ⟨r2, σ3, e1, h⟩ := ab_2 h
  refine rr_Si (as := [am_i p1, am_i 0, am_i 1]) (rest := []) dX7_restore_3 ml_7_71 (Or.inl rfl) rfl rfl (Nat.le_of_ble_eq_true rfl) ⟨rfl, rfl⟩ (Nat.le_of_ble_eq_true rfl) (fun _ k => t_X7_in (by omega) e1 k) ?_
  rcases ab_i h with ⟨c4, h⟩ | ⟨c4, h⟩
  · refine rr_if_ne_p (t := 12) dX7_restore_6 (by decide) c4 ?_
    refine rr_ldc dX7_restore_9 cs_7_79 ?_
    obtain ⟨rfl, rfl⟩ := ab_r2 h
    exact rr_iret dX7_restore_11 rfl hQ
  · refine rr_if_ne_n (t := 12) dX7_restore_6 (by decide) c4 ?_
    refine rr_aload_n dX7_restore_12 rfl ?_
    refine rr_getr (t := 86) dX7_restore_13 fl_7_40 (sh_75 L) ⟨(by decide), by decide⟩ rfl rfl ?_
    refine rr_iload_n dX7_restore_16 rfl ?_
    obtain ⟨g5, h⟩ := ab_g h
    refine rr_bald (nz := 2) dX7_restore_17 (sh_86 L) (by decide) rfl g5 ?_
    rcases ab_i h with ⟨c6, h⟩ | ⟨c6, h⟩
    · refine rr_if_ne_p (t := 24) dX7_restore_18 (by decide) c6 ?_
      refine rr_ldc dX7_restore_21 cs_7_180 ?_
      obtain ⟨rfl, rfl⟩ := ab_r2 h
      exact rr_iret dX7_restore_23 rfl hQ
    · refine rr_if_ne_n (t := 24) dX7_restore_18 (by decide) c6 ?_
      refine rr_aload_n dX7_restore_24 rfl ?_
      refine rr_getr (t := 85) dX7_restore_25 fl_7_37 (sh_75 L) ⟨(by decide), by decide⟩ rfl rfl ?_
      refine rr_bipush dX7_restore_28 (by decide) ?_
      refine rr_iload_n dX7_restore_30 rfl ?_
      refine rr_imul dX7_restore_31 ?_
      refine rr_aload_n dX7_restore_32 rfl ?_
      refine rr_getr (t := 81) dX7_restore_33 fl_7_25 (sh_75 L) ⟨(by decide), by decide⟩ rfl rfl ?_
      refine rr_iconst dX7_restore_36 (by decide) ?_
      obtain ⟨σ9, e7, h⟩ := ab_1 h
      refine rr_Sv (as := [am_r 85, am_i (am_w (42 * p1)), am_r 81, am_i 0]) (rest := []) dX7_restore_37 ml_7_156 (Or.inl rfl) rfl rfl (Nat.le_of_ble_eq_true rfl) ⟨rfl, rfl⟩ (Nat.le_of_ble_eq_true rfl) (fun _ k => t_X7_copies (by omega) (sh_85 L) (by decide) (sh_81 L) (by decide) e7 k) ?_
      refine rr_aload_n dX7_restore_40 rfl ?_
      refine rr_iconst dX7_restore_41 (by decide) ?_
      obtain ⟨σ10, e11, h⟩ := ab_1 h
      refine rr_puti (kz := 17) dX7_restore_42 fl_7_160 (sh_75 L) ⟨(by decide), by decide⟩ ⟨rfl, rfl⟩ rfl (ab_m e11 ?_)
      refine rr_iconst dX7_restore_45 (by decide) ?_
      obtain ⟨rfl, rfl⟩ := ab_r2 h
      exact rr_iret dX7_restore_46 rfl hQ
def nw_X7_restore (a : Nat) : Prop := a ≠ 75 ∧ a ≠ 81
theorem w_X7_restore {n : Nat} {p1 : Int} {σ σr : am_Mem} {rr : Int} (h : f_X7_restore n p1 σ = some (rr, σr)) : ∀ a : Nat, nw_X7_restore a → σr a = σ a := by
  unfold f_X7_restore at h
  have fr : ∀ a : Nat, nw_X7_restore a → σ a = σ a := fun _ _ => rfl
  obtain ⟨r2, σ3, e1, h⟩ := ab_2 h
  have fr := fun (a : Nat) (ha : nw_X7_restore a) => (congrFun (u_X7_in e1) a).trans (fr a ha)
  rcases ab_i h with ⟨c4, h⟩ | ⟨c4, h⟩
  · obtain ⟨q1, q2⟩ := ab_r2 h
    exact fun a ha => (congrFun q2.symm a).trans (fr a ha)
  · obtain ⟨g5, h⟩ := ab_g h
    rcases ab_i h with ⟨c6, h⟩ | ⟨c6, h⟩
    · obtain ⟨q1, q2⟩ := ab_r2 h
      exact fun a ha => (congrFun q2.symm a).trans (fr a ha)
    · obtain ⟨σ9, e7, h⟩ := ab_1 h
      have fr := fun (a : Nat) (ha : nw_X7_restore a) => (w_X7_copies e7 a (by unfold nw_X7_restore at ha; unfold nw_X7_copies; omega)).trans (fr a ha)
      obtain ⟨σ10, e11, h⟩ := ab_1 h
      have fr := fun (a : Nat) (ha : nw_X7_restore a) => (ab_fu e11 (show a ≠ 75 by unfold nw_X7_restore at ha; omega)).trans (fr a ha)
      obtain ⟨q1, q2⟩ := ab_r2 h
      exact fun a ha => (congrFun q2.symm a).trans (fr a ha)
/-! MoodFareModel.kindIn -/
def f_X7_kindIn (n : Nat) (p1 : Int) (σ : am_Mem) : Option (Int × am_Mem) :=
  if (0 : Int) ≤ am_w (7 + (am_w (3 * p1))) ∧ am_w (7 + (am_w (3 * p1))) < 42 then some (σ 81 (am_w (7 + (am_w (3 * p1)))), σ) else none
theorem t_X7_kindIn {L n d : Nat} {Q : am_Post} {p1 : Int} {σ σr : am_Mem} {rr : Int} (hd : 0 < d) (h : f_X7_kindIn n p1 σ = some (rr, σr)) (hQ : Q (some (am_i rr)) (rm_h L σr)) : xs_aw d me_X7_kindIn [am_r 75, am_i p1] (rm_h L σ) Q := by
  obtain ⟨d, rfl⟩ : ∃ k, d = k + 1 := ⟨d - 1, by omega⟩
  have hd : 0 ≤ d := by omega
  unfold f_X7_kindIn at h
  show xs_AW (xs_aw d) me_X7_kindIn Q 0 [some (am_r 75), some (am_i p1)] [] (rm_h L σ)
  refine rr_aload_n dX7_kindIn_0 rfl ?_
  refine rr_getr (t := 81) dX7_kindIn_1 fl_7_25 (sh_75 L) ⟨(by decide), by decide⟩ rfl rfl ?_
  refine rr_bipush dX7_kindIn_4 (by decide) ?_
  refine rr_iconst dX7_kindIn_6 (by decide) ?_
  refine rr_iload_n dX7_kindIn_7 rfl ?_
  refine rr_imul dX7_kindIn_8 ?_
  refine rr_iadd dX7_kindIn_9 ?_
  obtain ⟨g1, h⟩ := ab_g h
  refine rr_iald (nz := 42) dX7_kindIn_10 (sh_81 L) rfl g1 ?_
  obtain ⟨rfl, rfl⟩ := ab_r2 h
  exact rr_iret dX7_kindIn_11 rfl hQ
theorem u_X7_kindIn {n : Nat} {p1 : Int} {σ σr : am_Mem} {rr : Int} (h : f_X7_kindIn n p1 σ = some (rr, σr)) : σr = σ := by
  unfold f_X7_kindIn at h
  have fr : σ = σ := rfl
  obtain ⟨g1, h⟩ := ab_g h
  obtain ⟨q1, q2⟩ := ab_r2 h
  exact q2.symm.trans fr
/-! MoodFareModel.kind -/
def f_X7_kind (n : Nat) (p1 : Int) (σ : am_Mem) : Option (Int × am_Mem) :=
  am_b2 (f_X7_isCorner n p1 σ) fun r2 σ3 => if r2 = 0 then (some ((-1000001), σ3)) else (am_b2 (f_X7_kindIn n p1 σ3) fun r6 σ7 => some (r6, σ7))
theorem t_X7_kind {L n d : Nat} {Q : am_Post} {p1 : Int} {σ σr : am_Mem} {rr : Int} (hd : 2 < d) (h : f_X7_kind n p1 σ = some (rr, σr)) (hQ : Q (some (am_i rr)) (rm_h L σr)) : xs_aw d me_X7_kind [am_r 75, am_i p1] (rm_h L σ) Q := by
  obtain ⟨d, rfl⟩ : ∃ k, d = k + 1 := ⟨d - 1, by omega⟩
  have hd : 2 ≤ d := by omega
  unfold f_X7_kind at h
  show xs_AW (xs_aw d) me_X7_kind Q 0 [some (am_r 75), some (am_i p1)] [] (rm_h L σ)
  refine rr_aload_n dX7_kind_0 rfl ?_
  refine rr_iload_n dX7_kind_1 rfl ?_
  obtain ⟨r2, σ3, e1, h⟩ := ab_2 h
  refine rr_Vi (as := [am_i p1]) (rest := []) dX7_kind_2 ml_7_188 (sh_75 L) ⟨(by decide), by decide, by decide⟩ rfl rfl rfl (Nat.le_of_ble_eq_true rfl) ⟨rfl, rfl⟩ (Nat.le_of_ble_eq_true rfl) (fun _ k => t_X7_isCorner (by omega) e1 k) ?_
  rcases ab_i h with ⟨c4, h⟩ | ⟨c4, h⟩
  · refine rr_if_eq_p (t := 16) dX7_kind_5 (by decide) c4 ?_
    refine rr_ldc dX7_kind_16 cs_7_79 ?_
    obtain ⟨rfl, rfl⟩ := ab_r2 h
    exact rr_iret dX7_kind_18 rfl hQ
  · refine rr_if_eq_n (t := 16) dX7_kind_5 (by decide) c4 ?_
    refine rr_aload_n dX7_kind_8 rfl ?_
    refine rr_iload_n dX7_kind_9 rfl ?_
    obtain ⟨r6, σ7, e5, h⟩ := ab_2 h
    refine rr_Vi (as := [am_i p1]) (rest := []) dX7_kind_10 ml_7_248 (sh_75 L) ⟨(by decide), by decide, by decide⟩ rfl rfl rfl (Nat.le_of_ble_eq_true rfl) ⟨rfl, rfl⟩ (Nat.le_of_ble_eq_true rfl) (fun _ k => t_X7_kindIn (by omega) e5 k) ?_
    refine rr_goto (t := 18) dX7_kind_13 (by decide) ?_
    obtain ⟨rfl, rfl⟩ := ab_r2 h
    exact rr_iret dX7_kind_18 rfl hQ
theorem u_X7_kind {n : Nat} {p1 : Int} {σ σr : am_Mem} {rr : Int} (h : f_X7_kind n p1 σ = some (rr, σr)) : σr = σ := by
  unfold f_X7_kind at h
  have fr : σ = σ := rfl
  obtain ⟨r2, σ3, e1, h⟩ := ab_2 h
  have fr := (u_X7_isCorner e1).trans fr
  rcases ab_i h with ⟨c4, h⟩ | ⟨c4, h⟩
  · obtain ⟨q1, q2⟩ := ab_r2 h
    exact q2.symm.trans fr
  · obtain ⟨r6, σ7, e5, h⟩ := ab_2 h
    have fr := (u_X7_kindIn e5).trans fr
    obtain ⟨q1, q2⟩ := ab_r2 h
    exact q2.symm.trans fr
/-! MoodFareModel.as -/
def fb_X7_as_45 (n : Nat) (x1 : Int) (x2 : Int) (x3 : Int) (σ : am_Mem) : Option (Int × am_Mem) :=
  if x2 = 4 then (if x3 = 5 then (am_b2 (f_X7_well n x1 σ) fun r28 σ29 => some (r28, σ29)) else (am_b2 (f_X7_found n 3 σ) fun r31 σ32 => some (r31, σ32))) else (am_b2 (f_X7_found n 3 σ) fun r34 σ35 => some (r34, σ35))
def f_X7_as (n : Nat) (p1 : Int) (p2 : Int) (σ : am_Mem) : Option (Int × am_Mem) :=
  am_b2 (f_X7_isCorner n p1 σ) fun r2 σ3 => if r2 = 0 then (some ((-1000001), σ3)) else (am_b2 (f_X7_in n p2 0 5 σ3) fun r6 σ7 => if r6 = 0 then (some ((-1000001), σ7)) else (am_b2 (f_X7_kindIn n p1 σ7) fun r10 σ11 => if p2 = 0 then (am_b2 (f_X7_well n p1 σ11) fun r14 σ15 => some (r14, σ15)) else (if p2 = r10 then (am_b2 (f_X7_well n p1 σ11) fun r18 σ19 => some (r18, σ19)) else (if p2 = 1 then (if r10 < 4 then (am_b2 (f_X7_well n p1 σ11) fun r23 σ24 => some (r23, σ24)) else (fb_X7_as_45 n p1 p2 r10 σ11)) else (fb_X7_as_45 n p1 p2 r10 σ11)))))
theorem tb_X7_as_45 {L n d : Nat} {Q : am_Post} {x1 : Int} {x2 : Int} {x3 : Int} {o4 : Option am_V} {σ σr : am_Mem} {rr : Int} (hd : 2 ≤ d) (hQ : Q (some (am_i rr)) (rm_h L σr)) (h : fb_X7_as_45 n x1 x2 x3 σ = some (rr, σr)) : xs_AW (xs_aw d) me_X7_as Q 45 [some (am_r 75), some (am_i x1), some (am_i x2), some (am_i x3), o4] [] (rm_h L σ) := by
  unfold fb_X7_as_45 at h
  refine rr_iload_n dX7_as_45 rfl ?_
  refine rr_iconst dX7_as_46 (by decide) ?_
  rcases ab_i h with ⟨c25, h⟩ | ⟨c25, h⟩
  · refine rr_icmp_ne_p (t := 59) dX7_as_47 (by decide) c25 ?_
    refine rr_iload_n dX7_as_50 rfl ?_
    refine rr_iconst dX7_as_51 (by decide) ?_
    rcases ab_i h with ⟨c26, h⟩ | ⟨c26, h⟩
    · refine rr_icmp_ne_p (t := 59) dX7_as_52 (by decide) c26 ?_
      refine rr_iconst dX7_as_55 (by decide) ?_
      refine rr_goto (t := 60) dX7_as_56 (by decide) ?_
      refine rr_istore (ls' := [some (am_r 75), some (am_i x1), some (am_i x2), some (am_i x3), some (am_i 1)]) dX7_as_60 (Nat.le_of_ble_eq_true rfl) rfl ?_
      refine rr_iload dX7_as_62 rfl ?_
      refine rr_if_eq_n (t := 75) dX7_as_64 (by decide) (by decide) ?_
      refine rr_aload_n dX7_as_67 rfl ?_
      refine rr_iload_n dX7_as_68 rfl ?_
      obtain ⟨r28, σ29, e27, h⟩ := ab_2 h
      refine rr_Vi (as := [am_i x1]) (rest := []) dX7_as_69 ml_7_84 (sh_75 L) ⟨(by decide), by decide, by decide⟩ rfl rfl rfl (Nat.le_of_ble_eq_true rfl) ⟨rfl, rfl⟩ (Nat.le_of_ble_eq_true rfl) (fun _ k => t_X7_well (by omega) e27 k) ?_
      refine rr_goto (t := 80) dX7_as_72 (by decide) ?_
      obtain ⟨rfl, rfl⟩ := ab_r2 h
      exact rr_iret dX7_as_80 rfl hQ
    · refine rr_icmp_ne_n (t := 59) dX7_as_52 (by decide) c26 ?_
      refine rr_iconst dX7_as_59 (by decide) ?_
      refine rr_istore (ls' := [some (am_r 75), some (am_i x1), some (am_i x2), some (am_i x3), some (am_i 0)]) dX7_as_60 (Nat.le_of_ble_eq_true rfl) rfl ?_
      refine rr_iload dX7_as_62 rfl ?_
      refine rr_if_eq_p (t := 75) dX7_as_64 (by decide) (by decide) ?_
      refine rr_aload_n dX7_as_75 rfl ?_
      refine rr_iconst dX7_as_76 (by decide) ?_
      obtain ⟨r31, σ32, e30, h⟩ := ab_2 h
      refine rr_Vi (as := [am_i 3]) (rest := []) dX7_as_77 ml_7_80 (sh_75 L) ⟨(by decide), by decide, by decide⟩ rfl rfl rfl (Nat.le_of_ble_eq_true rfl) ⟨rfl, rfl⟩ (Nat.le_of_ble_eq_true rfl) (fun _ k => t_X7_found (by omega) e30 k) ?_
      obtain ⟨rfl, rfl⟩ := ab_r2 h
      exact rr_iret dX7_as_80 rfl hQ
  · refine rr_icmp_ne_n (t := 59) dX7_as_47 (by decide) c25 ?_
    refine rr_iconst dX7_as_59 (by decide) ?_
    refine rr_istore (ls' := [some (am_r 75), some (am_i x1), some (am_i x2), some (am_i x3), some (am_i 0)]) dX7_as_60 (Nat.le_of_ble_eq_true rfl) rfl ?_
    refine rr_iload dX7_as_62 rfl ?_
    refine rr_if_eq_p (t := 75) dX7_as_64 (by decide) (by decide) ?_
    refine rr_aload_n dX7_as_75 rfl ?_
    refine rr_iconst dX7_as_76 (by decide) ?_
    obtain ⟨r34, σ35, e33, h⟩ := ab_2 h
    refine rr_Vi (as := [am_i 3]) (rest := []) dX7_as_77 ml_7_80 (sh_75 L) ⟨(by decide), by decide, by decide⟩ rfl rfl rfl (Nat.le_of_ble_eq_true rfl) ⟨rfl, rfl⟩ (Nat.le_of_ble_eq_true rfl) (fun _ k => t_X7_found (by omega) e33 k) ?_
    obtain ⟨rfl, rfl⟩ := ab_r2 h
    exact rr_iret dX7_as_80 rfl hQ
theorem t_X7_as {L n d : Nat} {Q : am_Post} {p1 : Int} {p2 : Int} {σ σr : am_Mem} {rr : Int} (hd : 2 < d) (h : f_X7_as n p1 p2 σ = some (rr, σr)) (hQ : Q (some (am_i rr)) (rm_h L σr)) : xs_aw d me_X7_as [am_r 75, am_i p1, am_i p2] (rm_h L σ) Q := by
  obtain ⟨d, rfl⟩ : ∃ k, d = k + 1 := ⟨d - 1, by omega⟩
  have hd : 2 ≤ d := by omega
  unfold f_X7_as at h
  show xs_AW (xs_aw d) me_X7_as Q 0 [some (am_r 75), some (am_i p1), some (am_i p2), none, none] [] (rm_h L σ)
  refine rr_aload_n dX7_as_0 rfl ?_
  refine rr_iload_n dX7_as_1 rfl ?_
  obtain ⟨r2, σ3, e1, h⟩ := ab_2 h
  refine rr_Vi (as := [am_i p1]) (rest := []) dX7_as_2 ml_7_188 (sh_75 L) ⟨(by decide), by decide, by decide⟩ rfl rfl rfl (Nat.le_of_ble_eq_true rfl) ⟨rfl, rfl⟩ (Nat.le_of_ble_eq_true rfl) (fun _ k => t_X7_isCorner (by omega) e1 k) ?_
  rcases ab_i h with ⟨c4, h⟩ | ⟨c4, h⟩
  · refine rr_if_eq_p (t := 17) dX7_as_5 (by decide) c4 ?_
    refine rr_ldc dX7_as_17 cs_7_79 ?_
    obtain ⟨rfl, rfl⟩ := ab_r2 h
    exact rr_iret dX7_as_19 rfl hQ
  · refine rr_if_eq_n (t := 17) dX7_as_5 (by decide) c4 ?_
    refine rr_iload_n dX7_as_8 rfl ?_
    refine rr_iconst dX7_as_9 (by decide) ?_
    refine rr_iconst dX7_as_10 (by decide) ?_
    obtain ⟨r6, σ7, e5, h⟩ := ab_2 h
    refine rr_Si (as := [am_i p2, am_i 0, am_i 5]) (rest := []) dX7_as_11 ml_7_71 (Or.inl rfl) rfl rfl (Nat.le_of_ble_eq_true rfl) ⟨rfl, rfl⟩ (Nat.le_of_ble_eq_true rfl) (fun _ k => t_X7_in (by omega) e5 k) ?_
    rcases ab_i h with ⟨c8, h⟩ | ⟨c8, h⟩
    · refine rr_if_ne_p (t := 20) dX7_as_14 (by decide) c8 ?_
      refine rr_ldc dX7_as_17 cs_7_79 ?_
      obtain ⟨rfl, rfl⟩ := ab_r2 h
      exact rr_iret dX7_as_19 rfl hQ
    · refine rr_if_ne_n (t := 20) dX7_as_14 (by decide) c8 ?_
      refine rr_aload_n dX7_as_20 rfl ?_
      refine rr_iload_n dX7_as_21 rfl ?_
      obtain ⟨r10, σ11, e9, h⟩ := ab_2 h
      refine rr_Vi (as := [am_i p1]) (rest := []) dX7_as_22 ml_7_248 (sh_75 L) ⟨(by decide), by decide, by decide⟩ rfl rfl rfl (Nat.le_of_ble_eq_true rfl) ⟨rfl, rfl⟩ (Nat.le_of_ble_eq_true rfl) (fun _ k => t_X7_kindIn (by omega) e9 k) ?_
      refine rr_istore_n (ls' := [some (am_r 75), some (am_i p1), some (am_i p2), some (am_i r10), none]) dX7_as_25 (Nat.le_of_ble_eq_true rfl) rfl ?_
      refine rr_iload_n dX7_as_26 rfl ?_
      rcases ab_i h with ⟨c12, h⟩ | ⟨c12, h⟩
      · refine rr_if_eq_p (t := 55) dX7_as_27 (by decide) c12 ?_
        refine rr_iconst dX7_as_55 (by decide) ?_
        refine rr_goto (t := 60) dX7_as_56 (by decide) ?_
        refine rr_istore (ls' := [some (am_r 75), some (am_i p1), some (am_i p2), some (am_i r10), some (am_i 1)]) dX7_as_60 (Nat.le_of_ble_eq_true rfl) rfl ?_
        refine rr_iload dX7_as_62 rfl ?_
        refine rr_if_eq_n (t := 75) dX7_as_64 (by decide) (by decide) ?_
        refine rr_aload_n dX7_as_67 rfl ?_
        refine rr_iload_n dX7_as_68 rfl ?_
        obtain ⟨r14, σ15, e13, h⟩ := ab_2 h
        refine rr_Vi (as := [am_i p1]) (rest := []) dX7_as_69 ml_7_84 (sh_75 L) ⟨(by decide), by decide, by decide⟩ rfl rfl rfl (Nat.le_of_ble_eq_true rfl) ⟨rfl, rfl⟩ (Nat.le_of_ble_eq_true rfl) (fun _ k => t_X7_well (by omega) e13 k) ?_
        refine rr_goto (t := 80) dX7_as_72 (by decide) ?_
        obtain ⟨rfl, rfl⟩ := ab_r2 h
        exact rr_iret dX7_as_80 rfl hQ
      · refine rr_if_eq_n (t := 55) dX7_as_27 (by decide) c12 ?_
        refine rr_iload_n dX7_as_30 rfl ?_
        refine rr_iload_n dX7_as_31 rfl ?_
        rcases ab_i h with ⟨c16, h⟩ | ⟨c16, h⟩
        · refine rr_icmp_eq_p (t := 55) dX7_as_32 (by decide) c16 ?_
          refine rr_iconst dX7_as_55 (by decide) ?_
          refine rr_goto (t := 60) dX7_as_56 (by decide) ?_
          refine rr_istore (ls' := [some (am_r 75), some (am_i p1), some (am_i p2), some (am_i r10), some (am_i 1)]) dX7_as_60 (Nat.le_of_ble_eq_true rfl) rfl ?_
          refine rr_iload dX7_as_62 rfl ?_
          refine rr_if_eq_n (t := 75) dX7_as_64 (by decide) (by decide) ?_
          refine rr_aload_n dX7_as_67 rfl ?_
          refine rr_iload_n dX7_as_68 rfl ?_
          obtain ⟨r18, σ19, e17, h⟩ := ab_2 h
          refine rr_Vi (as := [am_i p1]) (rest := []) dX7_as_69 ml_7_84 (sh_75 L) ⟨(by decide), by decide, by decide⟩ rfl rfl rfl (Nat.le_of_ble_eq_true rfl) ⟨rfl, rfl⟩ (Nat.le_of_ble_eq_true rfl) (fun _ k => t_X7_well (by omega) e17 k) ?_
          refine rr_goto (t := 80) dX7_as_72 (by decide) ?_
          obtain ⟨rfl, rfl⟩ := ab_r2 h
          exact rr_iret dX7_as_80 rfl hQ
        · refine rr_icmp_eq_n (t := 55) dX7_as_32 (by decide) c16 ?_
          refine rr_iload_n dX7_as_35 rfl ?_
          refine rr_iconst dX7_as_36 (by decide) ?_
          rcases ab_i h with ⟨c20, h⟩ | ⟨c20, h⟩
          · refine rr_icmp_ne_p (t := 45) dX7_as_37 (by decide) c20 ?_
            refine rr_iload_n dX7_as_40 rfl ?_
            refine rr_iconst dX7_as_41 (by decide) ?_
            rcases ab_i h with ⟨c21, h⟩ | ⟨c21, h⟩
            · refine rr_icmp_lt_p (t := 55) dX7_as_42 (by decide) c21 ?_
              refine rr_iconst dX7_as_55 (by decide) ?_
              refine rr_goto (t := 60) dX7_as_56 (by decide) ?_
              refine rr_istore (ls' := [some (am_r 75), some (am_i p1), some (am_i p2), some (am_i r10), some (am_i 1)]) dX7_as_60 (Nat.le_of_ble_eq_true rfl) rfl ?_
              refine rr_iload dX7_as_62 rfl ?_
              refine rr_if_eq_n (t := 75) dX7_as_64 (by decide) (by decide) ?_
              refine rr_aload_n dX7_as_67 rfl ?_
              refine rr_iload_n dX7_as_68 rfl ?_
              obtain ⟨r23, σ24, e22, h⟩ := ab_2 h
              refine rr_Vi (as := [am_i p1]) (rest := []) dX7_as_69 ml_7_84 (sh_75 L) ⟨(by decide), by decide, by decide⟩ rfl rfl rfl (Nat.le_of_ble_eq_true rfl) ⟨rfl, rfl⟩ (Nat.le_of_ble_eq_true rfl) (fun _ k => t_X7_well (by omega) e22 k) ?_
              refine rr_goto (t := 80) dX7_as_72 (by decide) ?_
              obtain ⟨rfl, rfl⟩ := ab_r2 h
              exact rr_iret dX7_as_80 rfl hQ
            · refine rr_icmp_lt_n (t := 55) dX7_as_42 (by decide) c21 ?_
              exact tb_X7_as_45 hd hQ h
          · refine rr_icmp_ne_n (t := 45) dX7_as_37 (by decide) c20 ?_
            exact tb_X7_as_45 hd hQ h
def nw_X7_as (a : Nat) : Prop := a ≠ 75
theorem wb_X7_as_45 {n : Nat} {x1 : Int} {x2 : Int} {x3 : Int} {σ σr : am_Mem} {rr : Int} (h : fb_X7_as_45 n x1 x2 x3 σ = some (rr, σr)) : ∀ a : Nat, nw_X7_as a → σr a = σ a := by
  unfold fb_X7_as_45 at h
  have fr : ∀ a : Nat, nw_X7_as a → σ a = σ a := fun _ _ => rfl
  rcases ab_i h with ⟨c25, h⟩ | ⟨c25, h⟩
  · rcases ab_i h with ⟨c26, h⟩ | ⟨c26, h⟩
    · obtain ⟨r28, σ29, e27, h⟩ := ab_2 h
      have fr := fun (a : Nat) (ha : nw_X7_as a) => (w_X7_well e27 a (by unfold nw_X7_as at ha; unfold nw_X7_well; omega)).trans (fr a ha)
      obtain ⟨q1, q2⟩ := ab_r2 h
      exact fun a ha => (congrFun q2.symm a).trans (fr a ha)
    · obtain ⟨r31, σ32, e30, h⟩ := ab_2 h
      have fr := fun (a : Nat) (ha : nw_X7_as a) => (w_X7_found e30 a (by unfold nw_X7_as at ha; unfold nw_X7_found; omega)).trans (fr a ha)
      obtain ⟨q1, q2⟩ := ab_r2 h
      exact fun a ha => (congrFun q2.symm a).trans (fr a ha)
  · obtain ⟨r34, σ35, e33, h⟩ := ab_2 h
    have fr := fun (a : Nat) (ha : nw_X7_as a) => (w_X7_found e33 a (by unfold nw_X7_as at ha; unfold nw_X7_found; omega)).trans (fr a ha)
    obtain ⟨q1, q2⟩ := ab_r2 h
    exact fun a ha => (congrFun q2.symm a).trans (fr a ha)
theorem w_X7_as {n : Nat} {p1 : Int} {p2 : Int} {σ σr : am_Mem} {rr : Int} (h : f_X7_as n p1 p2 σ = some (rr, σr)) : ∀ a : Nat, nw_X7_as a → σr a = σ a := by
  unfold f_X7_as at h
  have fr : ∀ a : Nat, nw_X7_as a → σ a = σ a := fun _ _ => rfl
  obtain ⟨r2, σ3, e1, h⟩ := ab_2 h
  have fr := fun (a : Nat) (ha : nw_X7_as a) => (congrFun (u_X7_isCorner e1) a).trans (fr a ha)
  rcases ab_i h with ⟨c4, h⟩ | ⟨c4, h⟩
  · obtain ⟨q1, q2⟩ := ab_r2 h
    exact fun a ha => (congrFun q2.symm a).trans (fr a ha)
  · obtain ⟨r6, σ7, e5, h⟩ := ab_2 h
    have fr := fun (a : Nat) (ha : nw_X7_as a) => (congrFun (u_X7_in e5) a).trans (fr a ha)
    rcases ab_i h with ⟨c8, h⟩ | ⟨c8, h⟩
    · obtain ⟨q1, q2⟩ := ab_r2 h
      exact fun a ha => (congrFun q2.symm a).trans (fr a ha)
    · obtain ⟨r10, σ11, e9, h⟩ := ab_2 h
      have fr := fun (a : Nat) (ha : nw_X7_as a) => (congrFun (u_X7_kindIn e9) a).trans (fr a ha)
      rcases ab_i h with ⟨c12, h⟩ | ⟨c12, h⟩
      · obtain ⟨r14, σ15, e13, h⟩ := ab_2 h
        have fr := fun (a : Nat) (ha : nw_X7_as a) => (w_X7_well e13 a (by unfold nw_X7_as at ha; unfold nw_X7_well; omega)).trans (fr a ha)
        obtain ⟨q1, q2⟩ := ab_r2 h
        exact fun a ha => (congrFun q2.symm a).trans (fr a ha)
      · rcases ab_i h with ⟨c16, h⟩ | ⟨c16, h⟩
        · obtain ⟨r18, σ19, e17, h⟩ := ab_2 h
          have fr := fun (a : Nat) (ha : nw_X7_as a) => (w_X7_well e17 a (by unfold nw_X7_as at ha; unfold nw_X7_well; omega)).trans (fr a ha)
          obtain ⟨q1, q2⟩ := ab_r2 h
          exact fun a ha => (congrFun q2.symm a).trans (fr a ha)
        · rcases ab_i h with ⟨c20, h⟩ | ⟨c20, h⟩
          · rcases ab_i h with ⟨c21, h⟩ | ⟨c21, h⟩
            · obtain ⟨r23, σ24, e22, h⟩ := ab_2 h
              have fr := fun (a : Nat) (ha : nw_X7_as a) => (w_X7_well e22 a (by unfold nw_X7_as at ha; unfold nw_X7_well; omega)).trans (fr a ha)
              obtain ⟨q1, q2⟩ := ab_r2 h
              exact fun a ha => (congrFun q2.symm a).trans (fr a ha)
            · exact fun a ha => (wb_X7_as_45 h a ha).trans (fr a ha)
          · exact fun a ha => (wb_X7_as_45 h a ha).trans (fr a ha)
/-! MoodFareModel.leaves -/
def f_X7_leaves (n : Nat) (p1 : Int) (σ : am_Mem) : Option am_Mem :=
  if σ 75 31 < 16 then (if (0 : Int) ≤ σ 75 31 ∧ σ 75 31 < 16 then am_b1 (some (am_up σ 93 (σ 75 31) p1)) fun σ3 => am_b1 (some (am_up σ3 75 31 (am_w ((σ3 75 31) + 1)))) fun σ5 => some σ5 else none) else (some σ)
theorem t_X7_leaves {L n d : Nat} {Q : am_Post} {p1 : Int} {σ σr : am_Mem} (hd : 0 < d) (h : f_X7_leaves n p1 σ = some σr) (hQ : Q none (rm_h L σr)) : xs_aw d me_X7_leaves [am_r 75, am_i p1] (rm_h L σ) Q := by
  obtain ⟨d, rfl⟩ : ∃ k, d = k + 1 := ⟨d - 1, by omega⟩
  have hd : 0 ≤ d := by omega
  unfold f_X7_leaves at h
  show xs_AW (xs_aw d) me_X7_leaves Q 0 [some (am_r 75), some (am_i p1)] [] (rm_h L σ)
  refine rr_aload_n dX7_leaves_0 rfl ?_
  refine rr_geti (kz := 31) dX7_leaves_1 fl_7_251 (sh_75 L) ⟨(by decide), by decide⟩ rfl rfl ?_
  refine rr_bipush dX7_leaves_4 (by decide) ?_
  rcases ab_i h with ⟨c1, h⟩ | ⟨c1, h⟩
  · refine rr_icmp_ge_p (t := 29) dX7_leaves_6 (by decide) c1 ?_
    refine rr_aload_n dX7_leaves_9 rfl ?_
    refine rr_getr (t := 93) dX7_leaves_10 fl_7_62 (sh_75 L) ⟨(by decide), by decide⟩ rfl rfl ?_
    refine rr_aload_n dX7_leaves_13 rfl ?_
    refine rr_geti (kz := 31) dX7_leaves_14 fl_7_251 (sh_75 L) ⟨(by decide), by decide⟩ rfl rfl ?_
    refine rr_iload_n dX7_leaves_17 rfl ?_
    obtain ⟨g2, h⟩ := ab_g h
    refine rr_iast (nz := 16) dX7_leaves_18 (sh_93 L) (by decide) rfl g2 ?_
    obtain ⟨σ3, e4, h⟩ := ab_1 h
    refine ab_m e4 ?_
    refine rr_aload_n dX7_leaves_19 rfl ?_
    refine rr_dup dX7_leaves_20 rfl ?_
    refine rr_geti (kz := 31) dX7_leaves_21 fl_7_251 (sh_75 L) ⟨(by decide), by decide⟩ rfl rfl ?_
    refine rr_iconst dX7_leaves_24 (by decide) ?_
    refine rr_iadd dX7_leaves_25 ?_
    obtain ⟨σ5, e6, h⟩ := ab_1 h
    refine rr_puti (kz := 31) dX7_leaves_26 fl_7_251 (sh_75 L) ⟨(by decide), by decide⟩ ⟨rfl, rfl⟩ rfl (ab_m e6 ?_)
    obtain rfl := ab_r1 h
    exact rr_vret dX7_leaves_29 rfl hQ
  · refine rr_icmp_ge_n (t := 29) dX7_leaves_6 (by decide) c1 ?_
    obtain rfl := ab_r1 h
    exact rr_vret dX7_leaves_29 rfl hQ
def nw_X7_leaves (a : Nat) : Prop := a ≠ 75 ∧ a ≠ 93
theorem w_X7_leaves {n : Nat} {p1 : Int} {σ σr : am_Mem} (h : f_X7_leaves n p1 σ = some σr) : ∀ a : Nat, nw_X7_leaves a → σr a = σ a := by
  unfold f_X7_leaves at h
  have fr : ∀ a : Nat, nw_X7_leaves a → σ a = σ a := fun _ _ => rfl
  rcases ab_i h with ⟨c1, h⟩ | ⟨c1, h⟩
  · obtain ⟨g2, h⟩ := ab_g h
    obtain ⟨σ3, e4, h⟩ := ab_1 h
    have fr := fun (a : Nat) (ha : nw_X7_leaves a) => (ab_fu e4 (show a ≠ 93 by unfold nw_X7_leaves at ha; omega)).trans (fr a ha)
    obtain ⟨σ5, e6, h⟩ := ab_1 h
    have fr := fun (a : Nat) (ha : nw_X7_leaves a) => (ab_fu e6 (show a ≠ 75 by unfold nw_X7_leaves at ha; omega)).trans (fr a ha)
    have q2 := ab_r1 h
    exact fun a ha => (congrFun q2.symm a).trans (fr a ha)
  · have q2 := ab_r1 h
    exact fun a ha => (congrFun q2.symm a).trans (fr a ha)
/-! MoodFareModel.griefSize -/
def fb_X7_griefSize_25 (n : Nat) (x1 : Int) (x2 : Int) (σ : am_Mem) : Option (Int × am_Mem) :=
  am_b1 (f_X7_leaves n 13 σ) fun σ10 => am_b1 (f_X7_leaves n 10 σ10) fun σ13 => if (0 : Int) ≤ am_w ((am_w (7 + (am_w (3 * x1)))) + 2) ∧ am_w ((am_w (7 + (am_w (3 * x1)))) + 2) < 42 then if x2 = 0 then (some (am_w ((σ13 81 (am_w ((am_w (7 + (am_w (3 * x1)))) + 2))) - 100), σ13)) else (some (am_w (2 * (am_w ((σ13 81 (am_w ((am_w (7 + (am_w (3 * x1)))) + 2))) - 100))), σ13)) else none
def f_X7_griefSize (n : Nat) (p1 : Int) (σ : am_Mem) : Option (Int × am_Mem) :=
  am_b2 (f_X7_kindIn n p1 σ) fun r2 σ3 => if r2 = 5 then (am_b1 (f_X7_leaves n 14 σ3) fun σ7 => fb_X7_griefSize_25 n p1 1 σ7) else (fb_X7_griefSize_25 n p1 0 σ3)
theorem tb_X7_griefSize_25 {L n d : Nat} {Q : am_Post} {x1 : Int} {x2 : Int} {o3 : Option am_V} {σ σr : am_Mem} {rr : Int} (hd : 1 ≤ d) (hQ : Q (some (am_i rr)) (rm_h L σr)) (h : fb_X7_griefSize_25 n x1 x2 σ = some (rr, σr)) : xs_AW (xs_aw d) me_X7_griefSize Q 25 [some (am_r 75), some (am_i x1), some (am_i x2), o3] [] (rm_h L σ) := by
  unfold fb_X7_griefSize_25 at h
  refine rr_aload_n dX7_griefSize_25 rfl ?_
  refine rr_bipush dX7_griefSize_26 (by decide) ?_
  obtain ⟨σ10, e8, h⟩ := ab_1 h
  refine rr_Vv (as := [am_i 13]) (rest := []) dX7_griefSize_28 ml_7_254 (sh_75 L) ⟨(by decide), by decide, by decide⟩ rfl rfl rfl (Nat.le_of_ble_eq_true rfl) ⟨rfl, rfl⟩ (Nat.le_of_ble_eq_true rfl) (fun _ k => t_X7_leaves (by omega) e8 k) ?_
  refine rr_aload_n dX7_griefSize_31 rfl ?_
  refine rr_bipush dX7_griefSize_32 (by decide) ?_
  obtain ⟨σ13, e11, h⟩ := ab_1 h
  refine rr_Vv (as := [am_i 10]) (rest := []) dX7_griefSize_34 ml_7_254 (sh_75 L) ⟨(by decide), by decide, by decide⟩ rfl rfl rfl (Nat.le_of_ble_eq_true rfl) ⟨rfl, rfl⟩ (Nat.le_of_ble_eq_true rfl) (fun _ k => t_X7_leaves (by omega) e11 k) ?_
  refine rr_aload_n dX7_griefSize_37 rfl ?_
  refine rr_getr (t := 81) dX7_griefSize_38 fl_7_25 (sh_75 L) ⟨(by decide), by decide⟩ rfl rfl ?_
  refine rr_bipush dX7_griefSize_41 (by decide) ?_
  refine rr_iconst dX7_griefSize_43 (by decide) ?_
  refine rr_iload_n dX7_griefSize_44 rfl ?_
  refine rr_imul dX7_griefSize_45 ?_
  refine rr_iadd dX7_griefSize_46 ?_
  refine rr_iconst dX7_griefSize_47 (by decide) ?_
  refine rr_iadd dX7_griefSize_48 ?_
  obtain ⟨g14, h⟩ := ab_g h
  refine rr_iald (nz := 42) dX7_griefSize_49 (sh_81 L) rfl g14 ?_
  refine rr_bipush dX7_griefSize_50 (by decide) ?_
  refine rr_isub dX7_griefSize_52 ?_
  refine rr_istore_n (ls' := [some (am_r 75), some (am_i x1), some (am_i x2), some (am_i (am_w ((σ13 81 (am_w ((am_w (7 + (am_w (3 * x1)))) + 2))) - 100)))]) dX7_griefSize_53 (Nat.le_of_ble_eq_true rfl) rfl ?_
  refine rr_iload_n dX7_griefSize_54 rfl ?_
  rcases ab_i h with ⟨c15, h⟩ | ⟨c15, h⟩
  · refine rr_if_eq_p (t := 64) dX7_griefSize_55 (by decide) c15 ?_
    refine rr_iload_n dX7_griefSize_64 rfl ?_
    obtain ⟨rfl, rfl⟩ := ab_r2 h
    exact rr_iret dX7_griefSize_65 rfl hQ
  · refine rr_if_eq_n (t := 64) dX7_griefSize_55 (by decide) c15 ?_
    refine rr_iconst dX7_griefSize_58 (by decide) ?_
    refine rr_iload_n dX7_griefSize_59 rfl ?_
    refine rr_imul dX7_griefSize_60 ?_
    refine rr_goto (t := 65) dX7_griefSize_61 (by decide) ?_
    obtain ⟨rfl, rfl⟩ := ab_r2 h
    exact rr_iret dX7_griefSize_65 rfl hQ
theorem t_X7_griefSize {L n d : Nat} {Q : am_Post} {p1 : Int} {σ σr : am_Mem} {rr : Int} (hd : 1 < d) (h : f_X7_griefSize n p1 σ = some (rr, σr)) (hQ : Q (some (am_i rr)) (rm_h L σr)) : xs_aw d me_X7_griefSize [am_r 75, am_i p1] (rm_h L σ) Q := by
  obtain ⟨d, rfl⟩ : ∃ k, d = k + 1 := ⟨d - 1, by omega⟩
  have hd : 1 ≤ d := by omega
  unfold f_X7_griefSize at h
  show xs_AW (xs_aw d) me_X7_griefSize Q 0 [some (am_r 75), some (am_i p1), none, none] [] (rm_h L σ)
  refine rr_aload_n dX7_griefSize_0 rfl ?_
  refine rr_iload_n dX7_griefSize_1 rfl ?_
  obtain ⟨r2, σ3, e1, h⟩ := ab_2 h
  refine rr_Vi (as := [am_i p1]) (rest := []) dX7_griefSize_2 ml_7_248 (sh_75 L) ⟨(by decide), by decide, by decide⟩ rfl rfl rfl (Nat.le_of_ble_eq_true rfl) ⟨rfl, rfl⟩ (Nat.le_of_ble_eq_true rfl) (fun _ k => t_X7_kindIn (by omega) e1 k) ?_
  refine rr_iconst dX7_griefSize_5 (by decide) ?_
  rcases ab_i h with ⟨c4, h⟩ | ⟨c4, h⟩
  · refine rr_icmp_ne_p (t := 13) dX7_griefSize_6 (by decide) c4 ?_
    refine rr_iconst dX7_griefSize_9 (by decide) ?_
    refine rr_goto (t := 14) dX7_griefSize_10 (by decide) ?_
    refine rr_istore_n (ls' := [some (am_r 75), some (am_i p1), some (am_i 1), none]) dX7_griefSize_14 (Nat.le_of_ble_eq_true rfl) rfl ?_
    refine rr_iload_n dX7_griefSize_15 rfl ?_
    refine rr_if_eq_n (t := 25) dX7_griefSize_16 (by decide) (by decide) ?_
    refine rr_aload_n dX7_griefSize_19 rfl ?_
    refine rr_bipush dX7_griefSize_20 (by decide) ?_
    obtain ⟨σ7, e5, h⟩ := ab_1 h
    refine rr_Vv (as := [am_i 14]) (rest := []) dX7_griefSize_22 ml_7_254 (sh_75 L) ⟨(by decide), by decide, by decide⟩ rfl rfl rfl (Nat.le_of_ble_eq_true rfl) ⟨rfl, rfl⟩ (Nat.le_of_ble_eq_true rfl) (fun _ k => t_X7_leaves (by omega) e5 k) ?_
    exact tb_X7_griefSize_25 hd hQ h
  · refine rr_icmp_ne_n (t := 13) dX7_griefSize_6 (by decide) c4 ?_
    refine rr_iconst dX7_griefSize_13 (by decide) ?_
    refine rr_istore_n (ls' := [some (am_r 75), some (am_i p1), some (am_i 0), none]) dX7_griefSize_14 (Nat.le_of_ble_eq_true rfl) rfl ?_
    refine rr_iload_n dX7_griefSize_15 rfl ?_
    refine rr_if_eq_p (t := 25) dX7_griefSize_16 (by decide) (by decide) ?_
    exact tb_X7_griefSize_25 hd hQ h
def nw_X7_griefSize (a : Nat) : Prop := a ≠ 75 ∧ a ≠ 93
theorem wb_X7_griefSize_25 {n : Nat} {x1 : Int} {x2 : Int} {σ σr : am_Mem} {rr : Int} (h : fb_X7_griefSize_25 n x1 x2 σ = some (rr, σr)) : ∀ a : Nat, nw_X7_griefSize a → σr a = σ a := by
  unfold fb_X7_griefSize_25 at h
  have fr : ∀ a : Nat, nw_X7_griefSize a → σ a = σ a := fun _ _ => rfl
  obtain ⟨σ10, e8, h⟩ := ab_1 h
  have fr := fun (a : Nat) (ha : nw_X7_griefSize a) => (w_X7_leaves e8 a (by unfold nw_X7_griefSize at ha; unfold nw_X7_leaves; omega)).trans (fr a ha)
  obtain ⟨σ13, e11, h⟩ := ab_1 h
  have fr := fun (a : Nat) (ha : nw_X7_griefSize a) => (w_X7_leaves e11 a (by unfold nw_X7_griefSize at ha; unfold nw_X7_leaves; omega)).trans (fr a ha)
  obtain ⟨g14, h⟩ := ab_g h
  rcases ab_i h with ⟨c15, h⟩ | ⟨c15, h⟩
  · obtain ⟨q1, q2⟩ := ab_r2 h
    exact fun a ha => (congrFun q2.symm a).trans (fr a ha)
  · obtain ⟨q1, q2⟩ := ab_r2 h
    exact fun a ha => (congrFun q2.symm a).trans (fr a ha)
theorem w_X7_griefSize {n : Nat} {p1 : Int} {σ σr : am_Mem} {rr : Int} (h : f_X7_griefSize n p1 σ = some (rr, σr)) : ∀ a : Nat, nw_X7_griefSize a → σr a = σ a := by
  unfold f_X7_griefSize at h
  have fr : ∀ a : Nat, nw_X7_griefSize a → σ a = σ a := fun _ _ => rfl
  obtain ⟨r2, σ3, e1, h⟩ := ab_2 h
  have fr := fun (a : Nat) (ha : nw_X7_griefSize a) => (congrFun (u_X7_kindIn e1) a).trans (fr a ha)
  rcases ab_i h with ⟨c4, h⟩ | ⟨c4, h⟩
  · obtain ⟨σ7, e5, h⟩ := ab_1 h
    have fr := fun (a : Nat) (ha : nw_X7_griefSize a) => (w_X7_leaves e5 a (by unfold nw_X7_griefSize at ha; unfold nw_X7_leaves; omega)).trans (fr a ha)
    exact fun a ha => (wb_X7_griefSize_25 h a ha).trans (fr a ha)
  · exact fun a ha => (wb_X7_griefSize_25 h a ha).trans (fr a ha)
/-! MoodFareModel.griefMark -/
def f_X7_griefMark (n : Nat) (p1 : Int) (σ : am_Mem) : Option (Int × am_Mem) :=
  am_b1 (f_X7_leaves n 23 σ) fun σ3 => am_b1 (f_X7_leaves n 20 σ3) fun σ6 => am_b2 (f_X7_griefSize n p1 σ6) fun r8 σ9 => some (am_w (p1 - r8), σ9)
theorem t_X7_griefMark {L n d : Nat} {Q : am_Post} {p1 : Int} {σ σr : am_Mem} {rr : Int} (hd : 2 < d) (h : f_X7_griefMark n p1 σ = some (rr, σr)) (hQ : Q (some (am_i rr)) (rm_h L σr)) : xs_aw d me_X7_griefMark [am_r 75, am_i p1] (rm_h L σ) Q := by
  obtain ⟨d, rfl⟩ : ∃ k, d = k + 1 := ⟨d - 1, by omega⟩
  have hd : 2 ≤ d := by omega
  unfold f_X7_griefMark at h
  show xs_AW (xs_aw d) me_X7_griefMark Q 0 [some (am_r 75), some (am_i p1)] [] (rm_h L σ)
  refine rr_aload_n dX7_griefMark_0 rfl ?_
  refine rr_bipush dX7_griefMark_1 (by decide) ?_
  obtain ⟨σ3, e1, h⟩ := ab_1 h
  refine rr_Vv (as := [am_i 23]) (rest := []) dX7_griefMark_3 ml_7_254 (sh_75 L) ⟨(by decide), by decide, by decide⟩ rfl rfl rfl (Nat.le_of_ble_eq_true rfl) ⟨rfl, rfl⟩ (Nat.le_of_ble_eq_true rfl) (fun _ k => t_X7_leaves (by omega) e1 k) ?_
  refine rr_aload_n dX7_griefMark_6 rfl ?_
  refine rr_bipush dX7_griefMark_7 (by decide) ?_
  obtain ⟨σ6, e4, h⟩ := ab_1 h
  refine rr_Vv (as := [am_i 20]) (rest := []) dX7_griefMark_9 ml_7_254 (sh_75 L) ⟨(by decide), by decide, by decide⟩ rfl rfl rfl (Nat.le_of_ble_eq_true rfl) ⟨rfl, rfl⟩ (Nat.le_of_ble_eq_true rfl) (fun _ k => t_X7_leaves (by omega) e4 k) ?_
  refine rr_iload_n dX7_griefMark_12 rfl ?_
  refine rr_aload_n dX7_griefMark_13 rfl ?_
  refine rr_iload_n dX7_griefMark_14 rfl ?_
  obtain ⟨r8, σ9, e7, h⟩ := ab_2 h
  refine rr_Vi (as := [am_i p1]) (rest := [am_i p1]) dX7_griefMark_15 ml_7_260 (sh_75 L) ⟨(by decide), by decide, by decide⟩ rfl rfl rfl (Nat.le_of_ble_eq_true rfl) ⟨rfl, rfl⟩ (Nat.le_of_ble_eq_true rfl) (fun _ k => t_X7_griefSize (by omega) e7 k) ?_
  refine rr_isub dX7_griefMark_18 ?_
  obtain ⟨rfl, rfl⟩ := ab_r2 h
  exact rr_iret dX7_griefMark_19 rfl hQ
def nw_X7_griefMark (a : Nat) : Prop := a ≠ 75 ∧ a ≠ 93
theorem w_X7_griefMark {n : Nat} {p1 : Int} {σ σr : am_Mem} {rr : Int} (h : f_X7_griefMark n p1 σ = some (rr, σr)) : ∀ a : Nat, nw_X7_griefMark a → σr a = σ a := by
  unfold f_X7_griefMark at h
  have fr : ∀ a : Nat, nw_X7_griefMark a → σ a = σ a := fun _ _ => rfl
  obtain ⟨σ3, e1, h⟩ := ab_1 h
  have fr := fun (a : Nat) (ha : nw_X7_griefMark a) => (w_X7_leaves e1 a (by unfold nw_X7_griefMark at ha; unfold nw_X7_leaves; omega)).trans (fr a ha)
  obtain ⟨σ6, e4, h⟩ := ab_1 h
  have fr := fun (a : Nat) (ha : nw_X7_griefMark a) => (w_X7_leaves e4 a (by unfold nw_X7_griefMark at ha; unfold nw_X7_leaves; omega)).trans (fr a ha)
  obtain ⟨r8, σ9, e7, h⟩ := ab_2 h
  have fr := fun (a : Nat) (ha : nw_X7_griefMark a) => (w_X7_griefSize e7 a (by unfold nw_X7_griefMark at ha; unfold nw_X7_griefSize; omega)).trans (fr a ha)
  obtain ⟨q1, q2⟩ := ab_r2 h
  exact fun a ha => (congrFun q2.symm a).trans (fr a ha)
/-! MoodFareModel.joyMark -/
def fb_X7_joyMark_27 (n : Nat) (x1 : Int) (x2 : Int) (σ : am_Mem) : Option (Int × am_Mem) :=
  am_b1 (f_X7_leaves n 21 σ) fun σ7 => am_b1 (f_X7_leaves n 20 σ7) fun σ10 => if (0 : Int) ≤ am_w ((am_w (7 + (am_w (3 * x1)))) + 1) ∧ am_w ((am_w (7 + (am_w (3 * x1)))) + 1) < 42 then if x2 = 2 then (some (am_w (2 * (am_w (x1 + (σ10 81 (am_w ((am_w (7 + (am_w (3 * x1)))) + 1)))))), σ10)) else (if x2 = 3 then (some (am_w ((am_w (x1 + (σ10 81 (am_w ((am_w (7 + (am_w (3 * x1)))) + 1))))) - 1000), σ10)) else (some (am_w (x1 + (σ10 81 (am_w ((am_w (7 + (am_w (3 * x1)))) + 1)))), σ10))) else none
def f_X7_joyMark (n : Nat) (p1 : Int) (σ : am_Mem) : Option (Int × am_Mem) :=
  am_b2 (f_X7_kindIn n p1 σ) fun r2 σ3 => if r2 = 1 then (fb_X7_joyMark_27 n p1 r2 σ3) else (if r2 = 2 then (am_b1 (f_X7_leaves n 24 σ3) fun σ17 => fb_X7_joyMark_27 n p1 r2 σ17) else (am_b1 (f_X7_leaves n 22 σ3) fun σ20 => fb_X7_joyMark_27 n p1 r2 σ20))
theorem tb_X7_joyMark_27 {L n d : Nat} {Q : am_Post} {x1 : Int} {x2 : Int} {o3 : Option am_V} {σ σr : am_Mem} {rr : Int} (hd : 1 ≤ d) (hQ : Q (some (am_i rr)) (rm_h L σr)) (h : fb_X7_joyMark_27 n x1 x2 σ = some (rr, σr)) : xs_AW (xs_aw d) me_X7_joyMark Q 27 [some (am_r 75), some (am_i x1), some (am_i x2), o3] [] (rm_h L σ) := by
  unfold fb_X7_joyMark_27 at h
  refine rr_aload_n dX7_joyMark_27 rfl ?_
  refine rr_bipush dX7_joyMark_28 (by decide) ?_
  obtain ⟨σ7, e5, h⟩ := ab_1 h
  refine rr_Vv (as := [am_i 21]) (rest := []) dX7_joyMark_30 ml_7_254 (sh_75 L) ⟨(by decide), by decide, by decide⟩ rfl rfl rfl (Nat.le_of_ble_eq_true rfl) ⟨rfl, rfl⟩ (Nat.le_of_ble_eq_true rfl) (fun _ k => t_X7_leaves (by omega) e5 k) ?_
  refine rr_aload_n dX7_joyMark_33 rfl ?_
  refine rr_bipush dX7_joyMark_34 (by decide) ?_
  obtain ⟨σ10, e8, h⟩ := ab_1 h
  refine rr_Vv (as := [am_i 20]) (rest := []) dX7_joyMark_36 ml_7_254 (sh_75 L) ⟨(by decide), by decide, by decide⟩ rfl rfl rfl (Nat.le_of_ble_eq_true rfl) ⟨rfl, rfl⟩ (Nat.le_of_ble_eq_true rfl) (fun _ k => t_X7_leaves (by omega) e8 k) ?_
  refine rr_iload_n dX7_joyMark_39 rfl ?_
  refine rr_aload_n dX7_joyMark_40 rfl ?_
  refine rr_getr (t := 81) dX7_joyMark_41 fl_7_25 (sh_75 L) ⟨(by decide), by decide⟩ rfl rfl ?_
  refine rr_bipush dX7_joyMark_44 (by decide) ?_
  refine rr_iconst dX7_joyMark_46 (by decide) ?_
  refine rr_iload_n dX7_joyMark_47 rfl ?_
  refine rr_imul dX7_joyMark_48 ?_
  refine rr_iadd dX7_joyMark_49 ?_
  refine rr_iconst dX7_joyMark_50 (by decide) ?_
  refine rr_iadd dX7_joyMark_51 ?_
  obtain ⟨g11, h⟩ := ab_g h
  refine rr_iald (nz := 42) dX7_joyMark_52 (sh_81 L) rfl g11 ?_
  refine rr_iadd dX7_joyMark_53 ?_
  refine rr_istore_n (ls' := [some (am_r 75), some (am_i x1), some (am_i x2), some (am_i (am_w (x1 + (σ10 81 (am_w ((am_w (7 + (am_w (3 * x1)))) + 1))))))]) dX7_joyMark_54 (Nat.le_of_ble_eq_true rfl) rfl ?_
  refine rr_iload_n dX7_joyMark_55 rfl ?_
  refine rr_iconst dX7_joyMark_56 (by decide) ?_
  rcases ab_i h with ⟨c12, h⟩ | ⟨c12, h⟩
  · refine rr_icmp_ne_p (t := 66) dX7_joyMark_57 (by decide) c12 ?_
    refine rr_iconst dX7_joyMark_60 (by decide) ?_
    refine rr_iload_n dX7_joyMark_61 rfl ?_
    refine rr_imul dX7_joyMark_62 ?_
    refine rr_goto (t := 80) dX7_joyMark_63 (by decide) ?_
    obtain ⟨rfl, rfl⟩ := ab_r2 h
    exact rr_iret dX7_joyMark_80 rfl hQ
  · refine rr_icmp_ne_n (t := 66) dX7_joyMark_57 (by decide) c12 ?_
    refine rr_iload_n dX7_joyMark_66 rfl ?_
    refine rr_iconst dX7_joyMark_67 (by decide) ?_
    rcases ab_i h with ⟨c13, h⟩ | ⟨c13, h⟩
    · refine rr_icmp_ne_p (t := 79) dX7_joyMark_68 (by decide) c13 ?_
      refine rr_iload_n dX7_joyMark_71 rfl ?_
      refine rr_sipush dX7_joyMark_72 (by decide) ?_
      refine rr_isub dX7_joyMark_75 ?_
      refine rr_goto (t := 80) dX7_joyMark_76 (by decide) ?_
      obtain ⟨rfl, rfl⟩ := ab_r2 h
      exact rr_iret dX7_joyMark_80 rfl hQ
    · refine rr_icmp_ne_n (t := 79) dX7_joyMark_68 (by decide) c13 ?_
      refine rr_iload_n dX7_joyMark_79 rfl ?_
      obtain ⟨rfl, rfl⟩ := ab_r2 h
      exact rr_iret dX7_joyMark_80 rfl hQ
theorem t_X7_joyMark {L n d : Nat} {Q : am_Post} {p1 : Int} {σ σr : am_Mem} {rr : Int} (hd : 1 < d) (h : f_X7_joyMark n p1 σ = some (rr, σr)) (hQ : Q (some (am_i rr)) (rm_h L σr)) : xs_aw d me_X7_joyMark [am_r 75, am_i p1] (rm_h L σ) Q := by
  obtain ⟨d, rfl⟩ : ∃ k, d = k + 1 := ⟨d - 1, by omega⟩
  have hd : 1 ≤ d := by omega
  unfold f_X7_joyMark at h
  show xs_AW (xs_aw d) me_X7_joyMark Q 0 [some (am_r 75), some (am_i p1), none, none] [] (rm_h L σ)
  refine rr_aload_n dX7_joyMark_0 rfl ?_
  refine rr_iload_n dX7_joyMark_1 rfl ?_
  obtain ⟨r2, σ3, e1, h⟩ := ab_2 h
  refine rr_Vi (as := [am_i p1]) (rest := []) dX7_joyMark_2 ml_7_248 (sh_75 L) ⟨(by decide), by decide, by decide⟩ rfl rfl rfl (Nat.le_of_ble_eq_true rfl) ⟨rfl, rfl⟩ (Nat.le_of_ble_eq_true rfl) (fun _ k => t_X7_kindIn (by omega) e1 k) ?_
  refine rr_istore_n (ls' := [some (am_r 75), some (am_i p1), some (am_i r2), none]) dX7_joyMark_5 (Nat.le_of_ble_eq_true rfl) rfl ?_
  refine rr_iload_n dX7_joyMark_6 rfl ?_
  refine rr_iconst dX7_joyMark_7 (by decide) ?_
  rcases ab_i h with ⟨c4, h⟩ | ⟨c4, h⟩
  · refine rr_icmp_eq_p (t := 27) dX7_joyMark_8 (by decide) c4 ?_
    exact tb_X7_joyMark_27 hd hQ h
  · refine rr_icmp_eq_n (t := 27) dX7_joyMark_8 (by decide) c4 ?_
    refine rr_aload_n dX7_joyMark_11 rfl ?_
    refine rr_iload_n dX7_joyMark_12 rfl ?_
    refine rr_iconst dX7_joyMark_13 (by decide) ?_
    rcases ab_i h with ⟨c14, h⟩ | ⟨c14, h⟩
    · refine rr_icmp_ne_p (t := 22) dX7_joyMark_14 (by decide) c14 ?_
      refine rr_bipush dX7_joyMark_17 (by decide) ?_
      refine rr_goto (t := 24) dX7_joyMark_19 (by decide) ?_
      obtain ⟨σ17, e15, h⟩ := ab_1 h
      refine rr_Vv (as := [am_i 24]) (rest := []) dX7_joyMark_24 ml_7_254 (sh_75 L) ⟨(by decide), by decide, by decide⟩ rfl rfl rfl (Nat.le_of_ble_eq_true rfl) ⟨rfl, rfl⟩ (Nat.le_of_ble_eq_true rfl) (fun _ k => t_X7_leaves (by omega) e15 k) ?_
      exact tb_X7_joyMark_27 hd hQ h
    · refine rr_icmp_ne_n (t := 22) dX7_joyMark_14 (by decide) c14 ?_
      refine rr_bipush dX7_joyMark_22 (by decide) ?_
      obtain ⟨σ20, e18, h⟩ := ab_1 h
      refine rr_Vv (as := [am_i 22]) (rest := []) dX7_joyMark_24 ml_7_254 (sh_75 L) ⟨(by decide), by decide, by decide⟩ rfl rfl rfl (Nat.le_of_ble_eq_true rfl) ⟨rfl, rfl⟩ (Nat.le_of_ble_eq_true rfl) (fun _ k => t_X7_leaves (by omega) e18 k) ?_
      exact tb_X7_joyMark_27 hd hQ h
def nw_X7_joyMark (a : Nat) : Prop := a ≠ 75 ∧ a ≠ 93
theorem wb_X7_joyMark_27 {n : Nat} {x1 : Int} {x2 : Int} {σ σr : am_Mem} {rr : Int} (h : fb_X7_joyMark_27 n x1 x2 σ = some (rr, σr)) : ∀ a : Nat, nw_X7_joyMark a → σr a = σ a := by
  unfold fb_X7_joyMark_27 at h
  have fr : ∀ a : Nat, nw_X7_joyMark a → σ a = σ a := fun _ _ => rfl
  obtain ⟨σ7, e5, h⟩ := ab_1 h
  have fr := fun (a : Nat) (ha : nw_X7_joyMark a) => (w_X7_leaves e5 a (by unfold nw_X7_joyMark at ha; unfold nw_X7_leaves; omega)).trans (fr a ha)
  obtain ⟨σ10, e8, h⟩ := ab_1 h
  have fr := fun (a : Nat) (ha : nw_X7_joyMark a) => (w_X7_leaves e8 a (by unfold nw_X7_joyMark at ha; unfold nw_X7_leaves; omega)).trans (fr a ha)
  obtain ⟨g11, h⟩ := ab_g h
  rcases ab_i h with ⟨c12, h⟩ | ⟨c12, h⟩
  · obtain ⟨q1, q2⟩ := ab_r2 h
    exact fun a ha => (congrFun q2.symm a).trans (fr a ha)
  · rcases ab_i h with ⟨c13, h⟩ | ⟨c13, h⟩
    · obtain ⟨q1, q2⟩ := ab_r2 h
      exact fun a ha => (congrFun q2.symm a).trans (fr a ha)
    · obtain ⟨q1, q2⟩ := ab_r2 h
      exact fun a ha => (congrFun q2.symm a).trans (fr a ha)
theorem w_X7_joyMark {n : Nat} {p1 : Int} {σ σr : am_Mem} {rr : Int} (h : f_X7_joyMark n p1 σ = some (rr, σr)) : ∀ a : Nat, nw_X7_joyMark a → σr a = σ a := by
  unfold f_X7_joyMark at h
  have fr : ∀ a : Nat, nw_X7_joyMark a → σ a = σ a := fun _ _ => rfl
  obtain ⟨r2, σ3, e1, h⟩ := ab_2 h
  have fr := fun (a : Nat) (ha : nw_X7_joyMark a) => (congrFun (u_X7_kindIn e1) a).trans (fr a ha)
  rcases ab_i h with ⟨c4, h⟩ | ⟨c4, h⟩
  · exact fun a ha => (wb_X7_joyMark_27 h a ha).trans (fr a ha)
  · rcases ab_i h with ⟨c14, h⟩ | ⟨c14, h⟩
    · obtain ⟨σ17, e15, h⟩ := ab_1 h
      have fr := fun (a : Nat) (ha : nw_X7_joyMark a) => (w_X7_leaves e15 a (by unfold nw_X7_joyMark at ha; unfold nw_X7_leaves; omega)).trans (fr a ha)
      exact fun a ha => (wb_X7_joyMark_27 h a ha).trans (fr a ha)
    · obtain ⟨σ20, e18, h⟩ := ab_1 h
      have fr := fun (a : Nat) (ha : nw_X7_joyMark a) => (w_X7_leaves e18 a (by unfold nw_X7_joyMark at ha; unfold nw_X7_leaves; omega)).trans (fr a ha)
      exact fun a ha => (wb_X7_joyMark_27 h a ha).trans (fr a ha)
/-! MoodFareModel.joySize -/
def fb_X7_joySize_25 (n : Nat) (x1 : Int) (x2 : Int) (σ : am_Mem) : Option (Int × am_Mem) :=
  am_b1 (f_X7_leaves n 11 σ) fun σ10 => am_b1 (f_X7_leaves n 10 σ10) fun σ13 => if (0 : Int) ≤ am_w ((am_w (7 + (am_w (3 * x1)))) + 2) ∧ am_w ((am_w (7 + (am_w (3 * x1)))) + 2) < 42 then am_b2 (f_X7_joyMark n x1 σ13) fun r16 σ17 => if x2 = 0 then (some (am_w ((σ13 81 (am_w ((am_w (7 + (am_w (3 * x1)))) + 2))) + r16), σ17)) else (some (am_w (-(am_w ((σ13 81 (am_w ((am_w (7 + (am_w (3 * x1)))) + 2))) + r16))), σ17)) else none
def f_X7_joySize (n : Nat) (p1 : Int) (σ : am_Mem) : Option (Int × am_Mem) :=
  am_b2 (f_X7_kindIn n p1 σ) fun r2 σ3 => if r2 = 2 then (am_b1 (f_X7_leaves n 12 σ3) fun σ7 => fb_X7_joySize_25 n p1 1 σ7) else (fb_X7_joySize_25 n p1 0 σ3)
theorem tb_X7_joySize_25 {L n d : Nat} {Q : am_Post} {x1 : Int} {x2 : Int} {o3 : Option am_V} {σ σr : am_Mem} {rr : Int} (hd : 2 ≤ d) (hQ : Q (some (am_i rr)) (rm_h L σr)) (h : fb_X7_joySize_25 n x1 x2 σ = some (rr, σr)) : xs_AW (xs_aw d) me_X7_joySize Q 25 [some (am_r 75), some (am_i x1), some (am_i x2), o3] [] (rm_h L σ) := by
  unfold fb_X7_joySize_25 at h
  refine rr_aload_n dX7_joySize_25 rfl ?_
  refine rr_bipush dX7_joySize_26 (by decide) ?_
  obtain ⟨σ10, e8, h⟩ := ab_1 h
  refine rr_Vv (as := [am_i 11]) (rest := []) dX7_joySize_28 ml_7_254 (sh_75 L) ⟨(by decide), by decide, by decide⟩ rfl rfl rfl (Nat.le_of_ble_eq_true rfl) ⟨rfl, rfl⟩ (Nat.le_of_ble_eq_true rfl) (fun _ k => t_X7_leaves (by omega) e8 k) ?_
  refine rr_aload_n dX7_joySize_31 rfl ?_
  refine rr_bipush dX7_joySize_32 (by decide) ?_
  obtain ⟨σ13, e11, h⟩ := ab_1 h
  refine rr_Vv (as := [am_i 10]) (rest := []) dX7_joySize_34 ml_7_254 (sh_75 L) ⟨(by decide), by decide, by decide⟩ rfl rfl rfl (Nat.le_of_ble_eq_true rfl) ⟨rfl, rfl⟩ (Nat.le_of_ble_eq_true rfl) (fun _ k => t_X7_leaves (by omega) e11 k) ?_
  refine rr_aload_n dX7_joySize_37 rfl ?_
  refine rr_getr (t := 81) dX7_joySize_38 fl_7_25 (sh_75 L) ⟨(by decide), by decide⟩ rfl rfl ?_
  refine rr_bipush dX7_joySize_41 (by decide) ?_
  refine rr_iconst dX7_joySize_43 (by decide) ?_
  refine rr_iload_n dX7_joySize_44 rfl ?_
  refine rr_imul dX7_joySize_45 ?_
  refine rr_iadd dX7_joySize_46 ?_
  refine rr_iconst dX7_joySize_47 (by decide) ?_
  refine rr_iadd dX7_joySize_48 ?_
  obtain ⟨g14, h⟩ := ab_g h
  refine rr_iald (nz := 42) dX7_joySize_49 (sh_81 L) rfl g14 ?_
  refine rr_aload_n dX7_joySize_50 rfl ?_
  refine rr_iload_n dX7_joySize_51 rfl ?_
  obtain ⟨r16, σ17, e15, h⟩ := ab_2 h
  refine rr_Vi (as := [am_i x1]) (rest := [am_i (σ13 81 (am_w ((am_w (7 + (am_w (3 * x1)))) + 2)))]) dX7_joySize_52 ml_7_257 (sh_75 L) ⟨(by decide), by decide, by decide⟩ rfl rfl rfl (Nat.le_of_ble_eq_true rfl) ⟨rfl, rfl⟩ (Nat.le_of_ble_eq_true rfl) (fun _ k => t_X7_joyMark (by omega) e15 k) ?_
  refine rr_iadd dX7_joySize_55 ?_
  refine rr_istore_n (ls' := [some (am_r 75), some (am_i x1), some (am_i x2), some (am_i (am_w ((σ13 81 (am_w ((am_w (7 + (am_w (3 * x1)))) + 2))) + r16)))]) dX7_joySize_56 (Nat.le_of_ble_eq_true rfl) rfl ?_
  refine rr_iload_n dX7_joySize_57 rfl ?_
  rcases ab_i h with ⟨c18, h⟩ | ⟨c18, h⟩
  · refine rr_if_eq_p (t := 66) dX7_joySize_58 (by decide) c18 ?_
    refine rr_iload_n dX7_joySize_66 rfl ?_
    obtain ⟨rfl, rfl⟩ := ab_r2 h
    exact rr_iret dX7_joySize_67 rfl hQ
  · refine rr_if_eq_n (t := 66) dX7_joySize_58 (by decide) c18 ?_
    refine rr_iload_n dX7_joySize_61 rfl ?_
    refine rr_ineg dX7_joySize_62 ?_
    refine rr_goto (t := 67) dX7_joySize_63 (by decide) ?_
    obtain ⟨rfl, rfl⟩ := ab_r2 h
    exact rr_iret dX7_joySize_67 rfl hQ
theorem t_X7_joySize {L n d : Nat} {Q : am_Post} {p1 : Int} {σ σr : am_Mem} {rr : Int} (hd : 2 < d) (h : f_X7_joySize n p1 σ = some (rr, σr)) (hQ : Q (some (am_i rr)) (rm_h L σr)) : xs_aw d me_X7_joySize [am_r 75, am_i p1] (rm_h L σ) Q := by
  obtain ⟨d, rfl⟩ : ∃ k, d = k + 1 := ⟨d - 1, by omega⟩
  have hd : 2 ≤ d := by omega
  unfold f_X7_joySize at h
  show xs_AW (xs_aw d) me_X7_joySize Q 0 [some (am_r 75), some (am_i p1), none, none] [] (rm_h L σ)
  refine rr_aload_n dX7_joySize_0 rfl ?_
  refine rr_iload_n dX7_joySize_1 rfl ?_
  obtain ⟨r2, σ3, e1, h⟩ := ab_2 h
  refine rr_Vi (as := [am_i p1]) (rest := []) dX7_joySize_2 ml_7_248 (sh_75 L) ⟨(by decide), by decide, by decide⟩ rfl rfl rfl (Nat.le_of_ble_eq_true rfl) ⟨rfl, rfl⟩ (Nat.le_of_ble_eq_true rfl) (fun _ k => t_X7_kindIn (by omega) e1 k) ?_
  refine rr_iconst dX7_joySize_5 (by decide) ?_
  rcases ab_i h with ⟨c4, h⟩ | ⟨c4, h⟩
  · refine rr_icmp_ne_p (t := 13) dX7_joySize_6 (by decide) c4 ?_
    refine rr_iconst dX7_joySize_9 (by decide) ?_
    refine rr_goto (t := 14) dX7_joySize_10 (by decide) ?_
    refine rr_istore_n (ls' := [some (am_r 75), some (am_i p1), some (am_i 1), none]) dX7_joySize_14 (Nat.le_of_ble_eq_true rfl) rfl ?_
    refine rr_iload_n dX7_joySize_15 rfl ?_
    refine rr_if_eq_n (t := 25) dX7_joySize_16 (by decide) (by decide) ?_
    refine rr_aload_n dX7_joySize_19 rfl ?_
    refine rr_bipush dX7_joySize_20 (by decide) ?_
    obtain ⟨σ7, e5, h⟩ := ab_1 h
    refine rr_Vv (as := [am_i 12]) (rest := []) dX7_joySize_22 ml_7_254 (sh_75 L) ⟨(by decide), by decide, by decide⟩ rfl rfl rfl (Nat.le_of_ble_eq_true rfl) ⟨rfl, rfl⟩ (Nat.le_of_ble_eq_true rfl) (fun _ k => t_X7_leaves (by omega) e5 k) ?_
    exact tb_X7_joySize_25 hd hQ h
  · refine rr_icmp_ne_n (t := 13) dX7_joySize_6 (by decide) c4 ?_
    refine rr_iconst dX7_joySize_13 (by decide) ?_
    refine rr_istore_n (ls' := [some (am_r 75), some (am_i p1), some (am_i 0), none]) dX7_joySize_14 (Nat.le_of_ble_eq_true rfl) rfl ?_
    refine rr_iload_n dX7_joySize_15 rfl ?_
    refine rr_if_eq_p (t := 25) dX7_joySize_16 (by decide) (by decide) ?_
    exact tb_X7_joySize_25 hd hQ h
def nw_X7_joySize (a : Nat) : Prop := a ≠ 75 ∧ a ≠ 93
theorem wb_X7_joySize_25 {n : Nat} {x1 : Int} {x2 : Int} {σ σr : am_Mem} {rr : Int} (h : fb_X7_joySize_25 n x1 x2 σ = some (rr, σr)) : ∀ a : Nat, nw_X7_joySize a → σr a = σ a := by
  unfold fb_X7_joySize_25 at h
  have fr : ∀ a : Nat, nw_X7_joySize a → σ a = σ a := fun _ _ => rfl
  obtain ⟨σ10, e8, h⟩ := ab_1 h
  have fr := fun (a : Nat) (ha : nw_X7_joySize a) => (w_X7_leaves e8 a (by unfold nw_X7_joySize at ha; unfold nw_X7_leaves; omega)).trans (fr a ha)
  obtain ⟨σ13, e11, h⟩ := ab_1 h
  have fr := fun (a : Nat) (ha : nw_X7_joySize a) => (w_X7_leaves e11 a (by unfold nw_X7_joySize at ha; unfold nw_X7_leaves; omega)).trans (fr a ha)
  obtain ⟨g14, h⟩ := ab_g h
  obtain ⟨r16, σ17, e15, h⟩ := ab_2 h
  have fr := fun (a : Nat) (ha : nw_X7_joySize a) => (w_X7_joyMark e15 a (by unfold nw_X7_joySize at ha; unfold nw_X7_joyMark; omega)).trans (fr a ha)
  rcases ab_i h with ⟨c18, h⟩ | ⟨c18, h⟩
  · obtain ⟨q1, q2⟩ := ab_r2 h
    exact fun a ha => (congrFun q2.symm a).trans (fr a ha)
  · obtain ⟨q1, q2⟩ := ab_r2 h
    exact fun a ha => (congrFun q2.symm a).trans (fr a ha)
theorem w_X7_joySize {n : Nat} {p1 : Int} {σ σr : am_Mem} {rr : Int} (h : f_X7_joySize n p1 σ = some (rr, σr)) : ∀ a : Nat, nw_X7_joySize a → σr a = σ a := by
  unfold f_X7_joySize at h
  have fr : ∀ a : Nat, nw_X7_joySize a → σ a = σ a := fun _ _ => rfl
  obtain ⟨r2, σ3, e1, h⟩ := ab_2 h
  have fr := fun (a : Nat) (ha : nw_X7_joySize a) => (congrFun (u_X7_kindIn e1) a).trans (fr a ha)
  rcases ab_i h with ⟨c4, h⟩ | ⟨c4, h⟩
  · obtain ⟨σ7, e5, h⟩ := ab_1 h
    have fr := fun (a : Nat) (ha : nw_X7_joySize a) => (w_X7_leaves e5 a (by unfold nw_X7_joySize at ha; unfold nw_X7_leaves; omega)).trans (fr a ha)
    exact fun a ha => (wb_X7_joySize_25 h a ha).trans (fr a ha)
  · exact fun a ha => (wb_X7_joySize_25 h a ha).trans (fr a ha)
/-! MoodFareModel.ask -/
def fb_X7_ask_39 (n : Nat) (x1 : Int) (x2 : Int) (s0 : Int) (σ : am_Mem) : Option (Int × am_Mem) :=
  if x2 = 0 then (if s0 = 0 then (am_b2 (f_X7_joySize n x1 σ) fun r18 σ19 => some (r18, σ19)) else (am_b2 (f_X7_griefSize n x1 σ) fun r21 σ22 => some (r21, σ22))) else (if s0 = 0 then (am_b2 (f_X7_joyMark n x1 σ) fun r25 σ26 => some (r25, σ26)) else (am_b2 (f_X7_griefMark n x1 σ) fun r28 σ29 => some (r28, σ29)))
def f_X7_ask (n : Nat) (p1 : Int) (p2 : Int) (σ : am_Mem) : Option (Int × am_Mem) :=
  am_b2 (f_X7_isCorner n p1 σ) fun r2 σ3 => if r2 = 0 then (some ((-1000001), σ3)) else (am_b2 (f_X7_in n p2 0 1 σ3) fun r6 σ7 => if r6 = 0 then (some ((-1000001), σ7)) else (am_b1 (some (am_up σ7 75 31 0)) fun σ9 => am_b2 (f_X7_kindIn n p1 σ9) fun r12 σ13 => if r12 < 4 then (fb_X7_ask_39 n p1 p2 0 σ13) else (fb_X7_ask_39 n p1 p2 1 σ13)))
theorem tb_X7_ask_39 {L n d : Nat} {Q : am_Post} {x1 : Int} {x2 : Int} {s0 : Int} {o3 : Option am_V} {σ σr : am_Mem} {rr : Int} (hd : 3 ≤ d) (hQ : Q (some (am_i rr)) (rm_h L σr)) (h : fb_X7_ask_39 n x1 x2 s0 σ = some (rr, σr)) : xs_AW (xs_aw d) me_X7_ask Q 39 [some (am_r 75), some (am_i x1), some (am_i x2), o3] [am_i s0] (rm_h L σ) := by
  unfold fb_X7_ask_39 at h
  refine rr_istore_n (ls' := [some (am_r 75), some (am_i x1), some (am_i x2), some (am_i s0)]) dX7_ask_39 (Nat.le_of_ble_eq_true rfl) rfl ?_
  refine rr_iload_n dX7_ask_40 rfl ?_
  rcases ab_i h with ⟨c15, h⟩ | ⟨c15, h⟩
  · refine rr_if_ne_p (t := 62) dX7_ask_41 (by decide) c15 ?_
    refine rr_iload_n dX7_ask_44 rfl ?_
    rcases ab_i h with ⟨c16, h⟩ | ⟨c16, h⟩
    · refine rr_if_eq_p (t := 56) dX7_ask_45 (by decide) c16 ?_
      refine rr_aload_n dX7_ask_56 rfl ?_
      refine rr_iload_n dX7_ask_57 rfl ?_
      obtain ⟨r18, σ19, e17, h⟩ := ab_2 h
      refine rr_Vi (as := [am_i x1]) (rest := []) dX7_ask_58 ml_7_263 (sh_75 L) ⟨(by decide), by decide, by decide⟩ rfl rfl rfl (Nat.le_of_ble_eq_true rfl) ⟨rfl, rfl⟩ (Nat.le_of_ble_eq_true rfl) (fun _ k => t_X7_joySize (by omega) e17 k) ?_
      obtain ⟨rfl, rfl⟩ := ab_r2 h
      exact rr_iret dX7_ask_61 rfl hQ
    · refine rr_if_eq_n (t := 56) dX7_ask_45 (by decide) c16 ?_
      refine rr_aload_n dX7_ask_48 rfl ?_
      refine rr_iload_n dX7_ask_49 rfl ?_
      obtain ⟨r21, σ22, e20, h⟩ := ab_2 h
      refine rr_Vi (as := [am_i x1]) (rest := []) dX7_ask_50 ml_7_260 (sh_75 L) ⟨(by decide), by decide, by decide⟩ rfl rfl rfl (Nat.le_of_ble_eq_true rfl) ⟨rfl, rfl⟩ (Nat.le_of_ble_eq_true rfl) (fun _ k => t_X7_griefSize (by omega) e20 k) ?_
      refine rr_goto (t := 61) dX7_ask_53 (by decide) ?_
      obtain ⟨rfl, rfl⟩ := ab_r2 h
      exact rr_iret dX7_ask_61 rfl hQ
  · refine rr_if_ne_n (t := 62) dX7_ask_41 (by decide) c15 ?_
    refine rr_iload_n dX7_ask_62 rfl ?_
    rcases ab_i h with ⟨c23, h⟩ | ⟨c23, h⟩
    · refine rr_if_eq_p (t := 74) dX7_ask_63 (by decide) c23 ?_
      refine rr_aload_n dX7_ask_74 rfl ?_
      refine rr_iload_n dX7_ask_75 rfl ?_
      obtain ⟨r25, σ26, e24, h⟩ := ab_2 h
      refine rr_Vi (as := [am_i x1]) (rest := []) dX7_ask_76 ml_7_257 (sh_75 L) ⟨(by decide), by decide, by decide⟩ rfl rfl rfl (Nat.le_of_ble_eq_true rfl) ⟨rfl, rfl⟩ (Nat.le_of_ble_eq_true rfl) (fun _ k => t_X7_joyMark (by omega) e24 k) ?_
      obtain ⟨rfl, rfl⟩ := ab_r2 h
      exact rr_iret dX7_ask_79 rfl hQ
    · refine rr_if_eq_n (t := 74) dX7_ask_63 (by decide) c23 ?_
      refine rr_aload_n dX7_ask_66 rfl ?_
      refine rr_iload_n dX7_ask_67 rfl ?_
      obtain ⟨r28, σ29, e27, h⟩ := ab_2 h
      refine rr_Vi (as := [am_i x1]) (rest := []) dX7_ask_68 ml_7_266 (sh_75 L) ⟨(by decide), by decide, by decide⟩ rfl rfl rfl (Nat.le_of_ble_eq_true rfl) ⟨rfl, rfl⟩ (Nat.le_of_ble_eq_true rfl) (fun _ k => t_X7_griefMark (by omega) e27 k) ?_
      refine rr_goto (t := 79) dX7_ask_71 (by decide) ?_
      obtain ⟨rfl, rfl⟩ := ab_r2 h
      exact rr_iret dX7_ask_79 rfl hQ
theorem t_X7_ask {L n d : Nat} {Q : am_Post} {p1 : Int} {p2 : Int} {σ σr : am_Mem} {rr : Int} (hd : 3 < d) (h : f_X7_ask n p1 p2 σ = some (rr, σr)) (hQ : Q (some (am_i rr)) (rm_h L σr)) : xs_aw d me_X7_ask [am_r 75, am_i p1, am_i p2] (rm_h L σ) Q := by
  obtain ⟨d, rfl⟩ : ∃ k, d = k + 1 := ⟨d - 1, by omega⟩
  have hd : 3 ≤ d := by omega
  unfold f_X7_ask at h
  show xs_AW (xs_aw d) me_X7_ask Q 0 [some (am_r 75), some (am_i p1), some (am_i p2), none] [] (rm_h L σ)
  refine rr_aload_n dX7_ask_0 rfl ?_
  refine rr_iload_n dX7_ask_1 rfl ?_
  obtain ⟨r2, σ3, e1, h⟩ := ab_2 h
  refine rr_Vi (as := [am_i p1]) (rest := []) dX7_ask_2 ml_7_188 (sh_75 L) ⟨(by decide), by decide, by decide⟩ rfl rfl rfl (Nat.le_of_ble_eq_true rfl) ⟨rfl, rfl⟩ (Nat.le_of_ble_eq_true rfl) (fun _ k => t_X7_isCorner (by omega) e1 k) ?_
  rcases ab_i h with ⟨c4, h⟩ | ⟨c4, h⟩
  · refine rr_if_eq_p (t := 17) dX7_ask_5 (by decide) c4 ?_
    refine rr_ldc dX7_ask_17 cs_7_79 ?_
    obtain ⟨rfl, rfl⟩ := ab_r2 h
    exact rr_iret dX7_ask_19 rfl hQ
  · refine rr_if_eq_n (t := 17) dX7_ask_5 (by decide) c4 ?_
    refine rr_iload_n dX7_ask_8 rfl ?_
    refine rr_iconst dX7_ask_9 (by decide) ?_
    refine rr_iconst dX7_ask_10 (by decide) ?_
    obtain ⟨r6, σ7, e5, h⟩ := ab_2 h
    refine rr_Si (as := [am_i p2, am_i 0, am_i 1]) (rest := []) dX7_ask_11 ml_7_71 (Or.inl rfl) rfl rfl (Nat.le_of_ble_eq_true rfl) ⟨rfl, rfl⟩ (Nat.le_of_ble_eq_true rfl) (fun _ k => t_X7_in (by omega) e5 k) ?_
    rcases ab_i h with ⟨c8, h⟩ | ⟨c8, h⟩
    · refine rr_if_ne_p (t := 20) dX7_ask_14 (by decide) c8 ?_
      refine rr_ldc dX7_ask_17 cs_7_79 ?_
      obtain ⟨rfl, rfl⟩ := ab_r2 h
      exact rr_iret dX7_ask_19 rfl hQ
    · refine rr_if_ne_n (t := 20) dX7_ask_14 (by decide) c8 ?_
      refine rr_aload_n dX7_ask_20 rfl ?_
      refine rr_iconst dX7_ask_21 (by decide) ?_
      obtain ⟨σ9, e10, h⟩ := ab_1 h
      refine rr_puti (kz := 31) dX7_ask_22 fl_7_251 (sh_75 L) ⟨(by decide), by decide⟩ ⟨rfl, rfl⟩ rfl (ab_m e10 ?_)
      refine rr_aload_n dX7_ask_25 rfl ?_
      refine rr_iload_n dX7_ask_26 rfl ?_
      obtain ⟨r12, σ13, e11, h⟩ := ab_2 h
      refine rr_Vi (as := [am_i p1]) (rest := []) dX7_ask_27 ml_7_248 (sh_75 L) ⟨(by decide), by decide, by decide⟩ rfl rfl rfl (Nat.le_of_ble_eq_true rfl) ⟨rfl, rfl⟩ (Nat.le_of_ble_eq_true rfl) (fun _ k => t_X7_kindIn (by omega) e11 k) ?_
      refine rr_iconst dX7_ask_30 (by decide) ?_
      rcases ab_i h with ⟨c14, h⟩ | ⟨c14, h⟩
      · refine rr_icmp_lt_p (t := 38) dX7_ask_31 (by decide) c14 ?_
        refine rr_iconst dX7_ask_38 (by decide) ?_
        exact tb_X7_ask_39 hd hQ h
      · refine rr_icmp_lt_n (t := 38) dX7_ask_31 (by decide) c14 ?_
        refine rr_iconst dX7_ask_34 (by decide) ?_
        refine rr_goto (t := 39) dX7_ask_35 (by decide) ?_
        exact tb_X7_ask_39 hd hQ h
def nw_X7_ask (a : Nat) : Prop := a ≠ 75 ∧ a ≠ 93
theorem wb_X7_ask_39 {n : Nat} {x1 : Int} {x2 : Int} {s0 : Int} {σ σr : am_Mem} {rr : Int} (h : fb_X7_ask_39 n x1 x2 s0 σ = some (rr, σr)) : ∀ a : Nat, nw_X7_ask a → σr a = σ a := by
  unfold fb_X7_ask_39 at h
  have fr : ∀ a : Nat, nw_X7_ask a → σ a = σ a := fun _ _ => rfl
  rcases ab_i h with ⟨c15, h⟩ | ⟨c15, h⟩
  · rcases ab_i h with ⟨c16, h⟩ | ⟨c16, h⟩
    · obtain ⟨r18, σ19, e17, h⟩ := ab_2 h
      have fr := fun (a : Nat) (ha : nw_X7_ask a) => (w_X7_joySize e17 a (by unfold nw_X7_ask at ha; unfold nw_X7_joySize; omega)).trans (fr a ha)
      obtain ⟨q1, q2⟩ := ab_r2 h
      exact fun a ha => (congrFun q2.symm a).trans (fr a ha)
    · obtain ⟨r21, σ22, e20, h⟩ := ab_2 h
      have fr := fun (a : Nat) (ha : nw_X7_ask a) => (w_X7_griefSize e20 a (by unfold nw_X7_ask at ha; unfold nw_X7_griefSize; omega)).trans (fr a ha)
      obtain ⟨q1, q2⟩ := ab_r2 h
      exact fun a ha => (congrFun q2.symm a).trans (fr a ha)
  · rcases ab_i h with ⟨c23, h⟩ | ⟨c23, h⟩
    · obtain ⟨r25, σ26, e24, h⟩ := ab_2 h
      have fr := fun (a : Nat) (ha : nw_X7_ask a) => (w_X7_joyMark e24 a (by unfold nw_X7_ask at ha; unfold nw_X7_joyMark; omega)).trans (fr a ha)
      obtain ⟨q1, q2⟩ := ab_r2 h
      exact fun a ha => (congrFun q2.symm a).trans (fr a ha)
    · obtain ⟨r28, σ29, e27, h⟩ := ab_2 h
      have fr := fun (a : Nat) (ha : nw_X7_ask a) => (w_X7_griefMark e27 a (by unfold nw_X7_ask at ha; unfold nw_X7_griefMark; omega)).trans (fr a ha)
      obtain ⟨q1, q2⟩ := ab_r2 h
      exact fun a ha => (congrFun q2.symm a).trans (fr a ha)
theorem w_X7_ask {n : Nat} {p1 : Int} {p2 : Int} {σ σr : am_Mem} {rr : Int} (h : f_X7_ask n p1 p2 σ = some (rr, σr)) : ∀ a : Nat, nw_X7_ask a → σr a = σ a := by
  unfold f_X7_ask at h
  have fr : ∀ a : Nat, nw_X7_ask a → σ a = σ a := fun _ _ => rfl
  obtain ⟨r2, σ3, e1, h⟩ := ab_2 h
  have fr := fun (a : Nat) (ha : nw_X7_ask a) => (congrFun (u_X7_isCorner e1) a).trans (fr a ha)
  rcases ab_i h with ⟨c4, h⟩ | ⟨c4, h⟩
  · obtain ⟨q1, q2⟩ := ab_r2 h
    exact fun a ha => (congrFun q2.symm a).trans (fr a ha)
  · obtain ⟨r6, σ7, e5, h⟩ := ab_2 h
    have fr := fun (a : Nat) (ha : nw_X7_ask a) => (congrFun (u_X7_in e5) a).trans (fr a ha)
    rcases ab_i h with ⟨c8, h⟩ | ⟨c8, h⟩
    · obtain ⟨q1, q2⟩ := ab_r2 h
      exact fun a ha => (congrFun q2.symm a).trans (fr a ha)
    · obtain ⟨σ9, e10, h⟩ := ab_1 h
      have fr := fun (a : Nat) (ha : nw_X7_ask a) => (ab_fu e10 (show a ≠ 75 by unfold nw_X7_ask at ha; omega)).trans (fr a ha)
      obtain ⟨r12, σ13, e11, h⟩ := ab_2 h
      have fr := fun (a : Nat) (ha : nw_X7_ask a) => (congrFun (u_X7_kindIn e11) a).trans (fr a ha)
      rcases ab_i h with ⟨c14, h⟩ | ⟨c14, h⟩
      · exact fun a ha => (wb_X7_ask_39 h a ha).trans (fr a ha)
      · exact fun a ha => (wb_X7_ask_39 h a ha).trans (fr a ha)
/-! MoodFareModel.trace -/
def f_X7_trace (n : Nat) (p1 : Int) (σ : am_Mem) : Option (Int × am_Mem) :=
  am_b2 (f_X7_in n p1 0 (am_w ((σ 75 31) - 1)) σ) fun r2 σ3 => if r2 = 0 then (some ((-1000000), σ3)) else (if (0 : Int) ≤ p1 ∧ p1 < 16 then some (σ3 93 p1, σ3) else none)
theorem t_X7_trace {L n d : Nat} {Q : am_Post} {p1 : Int} {σ σr : am_Mem} {rr : Int} (hd : 1 < d) (h : f_X7_trace n p1 σ = some (rr, σr)) (hQ : Q (some (am_i rr)) (rm_h L σr)) : xs_aw d me_X7_trace [am_r 75, am_i p1] (rm_h L σ) Q := by
  obtain ⟨d, rfl⟩ : ∃ k, d = k + 1 := ⟨d - 1, by omega⟩
  have hd : 1 ≤ d := by omega
  unfold f_X7_trace at h
  show xs_AW (xs_aw d) me_X7_trace Q 0 [some (am_r 75), some (am_i p1)] [] (rm_h L σ)
  refine rr_iload_n dX7_trace_0 rfl ?_
  refine rr_iconst dX7_trace_1 (by decide) ?_
  refine rr_aload_n dX7_trace_2 rfl ?_
  refine rr_geti (kz := 31) dX7_trace_3 fl_7_251 (sh_75 L) ⟨(by decide), by decide⟩ rfl rfl ?_
  refine rr_iconst dX7_trace_6 (by decide) ?_
  refine rr_isub dX7_trace_7 ?_
  obtain ⟨r2, σ3, e1, h⟩ := ab_2 h
  refine rr_Si (as := [am_i p1, am_i 0, am_i (am_w ((σ 75 31) - 1))]) (rest := []) dX7_trace_8 ml_7_71 (Or.inl rfl) rfl rfl (Nat.le_of_ble_eq_true rfl) ⟨rfl, rfl⟩ (Nat.le_of_ble_eq_true rfl) (fun _ k => t_X7_in (by omega) e1 k) ?_
  rcases ab_i h with ⟨c4, h⟩ | ⟨c4, h⟩
  · refine rr_if_eq_p (t := 23) dX7_trace_11 (by decide) c4 ?_
    refine rr_ldc dX7_trace_23 cs_7_65 ?_
    obtain ⟨rfl, rfl⟩ := ab_r2 h
    exact rr_iret dX7_trace_25 rfl hQ
  · refine rr_if_eq_n (t := 23) dX7_trace_11 (by decide) c4 ?_
    refine rr_aload_n dX7_trace_14 rfl ?_
    refine rr_getr (t := 93) dX7_trace_15 fl_7_62 (sh_75 L) ⟨(by decide), by decide⟩ rfl rfl ?_
    refine rr_iload_n dX7_trace_18 rfl ?_
    obtain ⟨g5, h⟩ := ab_g h
    refine rr_iald (nz := 16) dX7_trace_19 (sh_93 L) rfl g5 ?_
    refine rr_goto (t := 25) dX7_trace_20 (by decide) ?_
    obtain ⟨rfl, rfl⟩ := ab_r2 h
    exact rr_iret dX7_trace_25 rfl hQ
theorem u_X7_trace {n : Nat} {p1 : Int} {σ σr : am_Mem} {rr : Int} (h : f_X7_trace n p1 σ = some (rr, σr)) : σr = σ := by
  unfold f_X7_trace at h
  have fr : σ = σ := rfl
  obtain ⟨r2, σ3, e1, h⟩ := ab_2 h
  have fr := (u_X7_in e1).trans fr
  rcases ab_i h with ⟨c4, h⟩ | ⟨c4, h⟩
  · obtain ⟨q1, q2⟩ := ab_r2 h
    exact q2.symm.trans fr
  · obtain ⟨g5, h⟩ := ab_g h
    obtain ⟨q1, q2⟩ := ab_r2 h
    exact q2.symm.trans fr
/-! MoodFareModel.count -/
def fb_X7_count_58 (n : Nat) (kh58 : Int → Int → am_Mem → Option (Int × am_Mem)) (x2 : Int) (x3 : Int) (σ : am_Mem) : Option (Int × am_Mem) :=
  if x3 < 8 then (am_b2 (f_X7_isMissing n x3 σ) fun r4 σ5 => if r4 = 0 then (kh58 (am_w (x2 + 1)) (am_w (x3 + 1)) σ5) else (kh58 (am_w (x2 + 0)) (am_w (x3 + 1)) σ5)) else (some (x2, σ))
def fl_X7_count_58 (n : Nat) : Nat → Int → Int → am_Mem → Option (Int × am_Mem)
  | 0, _, _, _ => none
  | m + 1, x2, x3, σ => fb_X7_count_58 n (fun yx2 yx3 σ => fl_X7_count_58 n m yx2 yx3 σ) x2 x3 σ
def f_X7_count (n : Nat) (p1 : Int) (σ : am_Mem) : Option (Int × am_Mem) :=
  if p1 = 0 then (fl_X7_count_58 n n 0 0 σ) else (if p1 = 1 then (some (σ 81 6, σ)) else (if p1 = 2 then (some (σ 81 25, σ)) else (if p1 = 3 then (some (σ 81 3, σ)) else (if p1 = 4 then (some (σ 81 4, σ)) else (if p1 = 5 then (some (σ 81 1, σ)) else (if p1 = 6 then (some (σ 75 17, σ)) else (if p1 = 7 then (some (σ 75 6, σ)) else (if p1 = 8 then (some (σ 81 2, σ)) else (if p1 = 9 then (some (σ 81 5, σ)) else (some ((-1000001), σ)))))))))))
theorem tb_X7_count_58 {L n d : Nat} {Q : am_Post} {kh58 : Int → Int → am_Mem → Option (Int × am_Mem)} {x2 : Int} {x3 : Int} {o1 : Int} {σ σr : am_Mem} {rr : Int} (hd : 1 ≤ d) (hk58 : ∀ (y2 : Int) (y3 : Int) (σ : am_Mem), kh58 y2 y3 σ = some (rr, σr) → ∀ (o1 : Int), xs_AW (xs_aw d) me_X7_count Q 58 [some (am_r 75), some (am_i o1), some (am_i y2), some (am_i y3)] [] (rm_h L σ)) (hQ : Q (some (am_i rr)) (rm_h L σr)) (h : fb_X7_count_58 n kh58 x2 x3 σ = some (rr, σr)) : xs_AW (xs_aw d) me_X7_count Q 58 [some (am_r 75), some (am_i o1), some (am_i x2), some (am_i x3)] [] (rm_h L σ) := by
  unfold fb_X7_count_58 at h
  refine rr_iload_n dX7_count_58 rfl ?_
  refine rr_bipush dX7_count_59 (by decide) ?_
  rcases ab_i h with ⟨c2, h⟩ | ⟨c2, h⟩
  · refine rr_icmp_ge_p (t := 86) dX7_count_61 (by decide) c2 ?_
    refine rr_iload_n dX7_count_64 rfl ?_
    refine rr_aload_n dX7_count_65 rfl ?_
    refine rr_iload_n dX7_count_66 rfl ?_
    obtain ⟨r4, σ5, e3, h⟩ := ab_2 h
    refine rr_Vi (as := [am_i x3]) (rest := [am_i x2]) dX7_count_67 ml_7_87 (sh_75 L) ⟨(by decide), by decide, by decide⟩ rfl rfl rfl (Nat.le_of_ble_eq_true rfl) ⟨rfl, rfl⟩ (Nat.le_of_ble_eq_true rfl) (fun _ k => t_X7_isMissing (by omega) e3 k) ?_
    rcases ab_i h with ⟨c6, h⟩ | ⟨c6, h⟩
    · refine rr_if_eq_p (t := 77) dX7_count_70 (by decide) c6 ?_
      refine rr_iconst dX7_count_77 (by decide) ?_
      refine rr_iadd dX7_count_78 ?_
      refine rr_istore_n (ls' := [some (am_r 75), some (am_i o1), some (am_i (am_w (x2 + 1))), some (am_i x3)]) dX7_count_79 (Nat.le_of_ble_eq_true rfl) rfl ?_
      refine rr_iinc (ls' := [some (am_r 75), some (am_i o1), some (am_i (am_w (x2 + 1))), some (am_i (am_w (x3 + 1)))]) dX7_count_80 rfl (Nat.le_of_ble_eq_true rfl) rfl ?_
      refine rr_goto (t := 58) dX7_count_83 (by decide) ?_
      exact hk58 _ _ _ h _
    · refine rr_if_eq_n (t := 77) dX7_count_70 (by decide) c6 ?_
      refine rr_iconst dX7_count_73 (by decide) ?_
      refine rr_goto (t := 78) dX7_count_74 (by decide) ?_
      refine rr_iadd dX7_count_78 ?_
      refine rr_istore_n (ls' := [some (am_r 75), some (am_i o1), some (am_i (am_w (x2 + 0))), some (am_i x3)]) dX7_count_79 (Nat.le_of_ble_eq_true rfl) rfl ?_
      refine rr_iinc (ls' := [some (am_r 75), some (am_i o1), some (am_i (am_w (x2 + 0))), some (am_i (am_w (x3 + 1)))]) dX7_count_80 rfl (Nat.le_of_ble_eq_true rfl) rfl ?_
      refine rr_goto (t := 58) dX7_count_83 (by decide) ?_
      exact hk58 _ _ _ h _
  · refine rr_icmp_ge_n (t := 86) dX7_count_61 (by decide) c2 ?_
    refine rr_iload_n dX7_count_86 rfl ?_
    obtain ⟨rfl, rfl⟩ := ab_r2 h
    exact rr_iret dX7_count_87 rfl hQ
theorem tl_X7_count_58 {L n d : Nat} {Q : am_Post} {σr : am_Mem} {rr : Int} (hd : 1 ≤ d) (hQ : Q (some (am_i rr)) (rm_h L σr)) : ∀ (m : Nat) (x2 : Int) (x3 : Int) (σ : am_Mem) (o1 : Int), fl_X7_count_58 n m x2 x3 σ = some (rr, σr) → xs_AW (xs_aw d) me_X7_count Q 58 [some (am_r 75), some (am_i o1), some (am_i x2), some (am_i x3)] [] (rm_h L σ) := by
  intro m
  induction m with
  | zero => intro x2 x3 σ o1 h; cases h
  | succ m ih =>
    intro x2 x3 σ o1 h
    exact tb_X7_count_58 hd (fun x2 x3 σ h o1 => ih x2 x3 σ o1 h) hQ h
theorem t_X7_count {L n d : Nat} {Q : am_Post} {p1 : Int} {σ σr : am_Mem} {rr : Int} (hd : 1 < d) (h : f_X7_count n p1 σ = some (rr, σr)) (hQ : Q (some (am_i rr)) (rm_h L σr)) : xs_aw d me_X7_count [am_r 75, am_i p1] (rm_h L σ) Q := by
  obtain ⟨d, rfl⟩ : ∃ k, d = k + 1 := ⟨d - 1, by omega⟩
  have hd : 1 ≤ d := by omega
  unfold f_X7_count at h
  show xs_AW (xs_aw d) me_X7_count Q 0 [some (am_r 75), some (am_i p1), none, none] [] (rm_h L σ)
  refine rr_iconst dX7_count_0 (by decide) ?_
  refine rr_istore_n (ls' := [some (am_r 75), some (am_i p1), some (am_i 0), none]) dX7_count_1 (Nat.le_of_ble_eq_true rfl) rfl ?_
  refine rr_iload_n dX7_count_2 rfl ?_
  rcases ab_i h with ⟨c1, h⟩ | ⟨c1, h⟩
  · refine rr_tsw_in (off := 53) (t := 56) dX7_count_3 (by omega) (by rw [c1]; rfl) (by decide) ?_
    refine rr_iconst dX7_count_56 (by decide) ?_
    refine rr_istore_n (ls' := [some (am_r 75), some (am_i p1), some (am_i 0), some (am_i 0)]) dX7_count_57 (Nat.le_of_ble_eq_true rfl) rfl ?_
    exact tl_X7_count_58 hd hQ n _ _ _ _ h
  rcases ab_i h with ⟨c7, h⟩ | ⟨c7, h⟩
  · refine rr_tsw_in (off := 85) (t := 88) dX7_count_3 (by omega) (by rw [c7]; rfl) (by decide) ?_
    refine rr_aload_n dX7_count_88 rfl ?_
    refine rr_getr (t := 81) dX7_count_89 fl_7_25 (sh_75 L) ⟨(by decide), by decide⟩ rfl rfl ?_
    refine rr_bipush dX7_count_92 (by decide) ?_
    refine rr_iald (nz := 42) dX7_count_94 (sh_81 L) rfl ⟨by decide, by decide⟩ ?_
    obtain ⟨rfl, rfl⟩ := ab_r2 h
    exact rr_iret dX7_count_95 rfl hQ
  rcases ab_i h with ⟨c8, h⟩ | ⟨c8, h⟩
  · refine rr_tsw_in (off := 93) (t := 96) dX7_count_3 (by omega) (by rw [c8]; rfl) (by decide) ?_
    refine rr_aload_n dX7_count_96 rfl ?_
    refine rr_getr (t := 81) dX7_count_97 fl_7_25 (sh_75 L) ⟨(by decide), by decide⟩ rfl rfl ?_
    refine rr_bipush dX7_count_100 (by decide) ?_
    refine rr_iald (nz := 42) dX7_count_102 (sh_81 L) rfl ⟨by decide, by decide⟩ ?_
    obtain ⟨rfl, rfl⟩ := ab_r2 h
    exact rr_iret dX7_count_103 rfl hQ
  rcases ab_i h with ⟨c9, h⟩ | ⟨c9, h⟩
  · refine rr_tsw_in (off := 101) (t := 104) dX7_count_3 (by omega) (by rw [c9]; rfl) (by decide) ?_
    refine rr_aload_n dX7_count_104 rfl ?_
    refine rr_getr (t := 81) dX7_count_105 fl_7_25 (sh_75 L) ⟨(by decide), by decide⟩ rfl rfl ?_
    refine rr_iconst dX7_count_108 (by decide) ?_
    refine rr_iald (nz := 42) dX7_count_109 (sh_81 L) rfl ⟨by decide, by decide⟩ ?_
    obtain ⟨rfl, rfl⟩ := ab_r2 h
    exact rr_iret dX7_count_110 rfl hQ
  rcases ab_i h with ⟨c10, h⟩ | ⟨c10, h⟩
  · refine rr_tsw_in (off := 108) (t := 111) dX7_count_3 (by omega) (by rw [c10]; rfl) (by decide) ?_
    refine rr_aload_n dX7_count_111 rfl ?_
    refine rr_getr (t := 81) dX7_count_112 fl_7_25 (sh_75 L) ⟨(by decide), by decide⟩ rfl rfl ?_
    refine rr_iconst dX7_count_115 (by decide) ?_
    refine rr_iald (nz := 42) dX7_count_116 (sh_81 L) rfl ⟨by decide, by decide⟩ ?_
    obtain ⟨rfl, rfl⟩ := ab_r2 h
    exact rr_iret dX7_count_117 rfl hQ
  rcases ab_i h with ⟨c11, h⟩ | ⟨c11, h⟩
  · refine rr_tsw_in (off := 115) (t := 118) dX7_count_3 (by omega) (by rw [c11]; rfl) (by decide) ?_
    refine rr_aload_n dX7_count_118 rfl ?_
    refine rr_getr (t := 81) dX7_count_119 fl_7_25 (sh_75 L) ⟨(by decide), by decide⟩ rfl rfl ?_
    refine rr_iconst dX7_count_122 (by decide) ?_
    refine rr_iald (nz := 42) dX7_count_123 (sh_81 L) rfl ⟨by decide, by decide⟩ ?_
    obtain ⟨rfl, rfl⟩ := ab_r2 h
    exact rr_iret dX7_count_124 rfl hQ
  rcases ab_i h with ⟨c12, h⟩ | ⟨c12, h⟩
  · refine rr_tsw_in (off := 122) (t := 125) dX7_count_3 (by omega) (by rw [c12]; rfl) (by decide) ?_
    refine rr_aload_n dX7_count_125 rfl ?_
    refine rr_geti (kz := 17) dX7_count_126 fl_7_160 (sh_75 L) ⟨(by decide), by decide⟩ rfl rfl ?_
    obtain ⟨rfl, rfl⟩ := ab_r2 h
    exact rr_iret dX7_count_129 rfl hQ
  rcases ab_i h with ⟨c13, h⟩ | ⟨c13, h⟩
  · refine rr_tsw_in (off := 127) (t := 130) dX7_count_3 (by omega) (by rw [c13]; rfl) (by decide) ?_
    refine rr_aload_n dX7_count_130 rfl ?_
    refine rr_geti (kz := 6) dX7_count_131 fl_7_97 (sh_75 L) ⟨(by decide), by decide⟩ rfl rfl ?_
    obtain ⟨rfl, rfl⟩ := ab_r2 h
    exact rr_iret dX7_count_134 rfl hQ
  rcases ab_i h with ⟨c14, h⟩ | ⟨c14, h⟩
  · refine rr_tsw_in (off := 132) (t := 135) dX7_count_3 (by omega) (by rw [c14]; rfl) (by decide) ?_
    refine rr_aload_n dX7_count_135 rfl ?_
    refine rr_getr (t := 81) dX7_count_136 fl_7_25 (sh_75 L) ⟨(by decide), by decide⟩ rfl rfl ?_
    refine rr_iconst dX7_count_139 (by decide) ?_
    refine rr_iald (nz := 42) dX7_count_140 (sh_81 L) rfl ⟨by decide, by decide⟩ ?_
    obtain ⟨rfl, rfl⟩ := ab_r2 h
    exact rr_iret dX7_count_141 rfl hQ
  rcases ab_i h with ⟨c15, h⟩ | ⟨c15, h⟩
  · refine rr_tsw_in (off := 139) (t := 142) dX7_count_3 (by omega) (by rw [c15]; rfl) (by decide) ?_
    refine rr_aload_n dX7_count_142 rfl ?_
    refine rr_getr (t := 81) dX7_count_143 fl_7_25 (sh_75 L) ⟨(by decide), by decide⟩ rfl rfl ?_
    refine rr_iconst dX7_count_146 (by decide) ?_
    refine rr_iald (nz := 42) dX7_count_147 (sh_81 L) rfl ⟨by decide, by decide⟩ ?_
    obtain ⟨rfl, rfl⟩ := ab_r2 h
    exact rr_iret dX7_count_148 rfl hQ
  refine rr_tsw_out (t := 149) dX7_count_3 (by omega) (by decide) ?_
  refine rr_ldc dX7_count_149 cs_7_79 ?_
  obtain ⟨rfl, rfl⟩ := ab_r2 h
  exact rr_iret dX7_count_151 rfl hQ
theorem ub_X7_count_58 {n : Nat} {kh58 : Int → Int → am_Mem → Option (Int × am_Mem)} {x2 : Int} {x3 : Int} {σ σr : am_Mem} {rr : Int} (hk58 : ∀ (y2 : Int) (y3 : Int) (σ : am_Mem), kh58 y2 y3 σ = some (rr, σr) → σr = σ) (h : fb_X7_count_58 n kh58 x2 x3 σ = some (rr, σr)) : σr = σ := by
  unfold fb_X7_count_58 at h
  have fr : σ = σ := rfl
  rcases ab_i h with ⟨c2, h⟩ | ⟨c2, h⟩
  · obtain ⟨r4, σ5, e3, h⟩ := ab_2 h
    have fr := (u_X7_isMissing e3).trans fr
    rcases ab_i h with ⟨c6, h⟩ | ⟨c6, h⟩
    · exact (hk58 _ _ _ h).trans fr
    · exact (hk58 _ _ _ h).trans fr
  · obtain ⟨q1, q2⟩ := ab_r2 h
    exact q2.symm.trans fr
theorem ul_X7_count_58 {n : Nat} {σr : am_Mem} {rr : Int} : ∀ (m : Nat) (x2 : Int) (x3 : Int) (σ : am_Mem), fl_X7_count_58 n m x2 x3 σ = some (rr, σr) → σr = σ := by
  intro m
  induction m with
  | zero => intro x2 x3 σ h; cases h
  | succ m ih =>
    intro x2 x3 σ h
    exact ub_X7_count_58 (fun x2 x3 σ h => ih x2 x3 σ h) h
theorem u_X7_count {n : Nat} {p1 : Int} {σ σr : am_Mem} {rr : Int} (h : f_X7_count n p1 σ = some (rr, σr)) : σr = σ := by
  unfold f_X7_count at h
  have fr : σ = σ := rfl
  rcases ab_i h with ⟨c1, h⟩ | ⟨c1, h⟩
  · exact (ul_X7_count_58 n _ _ _ h).trans fr
  rcases ab_i h with ⟨c7, h⟩ | ⟨c7, h⟩
  · obtain ⟨q1, q2⟩ := ab_r2 h
    exact q2.symm.trans fr
  rcases ab_i h with ⟨c8, h⟩ | ⟨c8, h⟩
  · obtain ⟨q1, q2⟩ := ab_r2 h
    exact q2.symm.trans fr
  rcases ab_i h with ⟨c9, h⟩ | ⟨c9, h⟩
  · obtain ⟨q1, q2⟩ := ab_r2 h
    exact q2.symm.trans fr
  rcases ab_i h with ⟨c10, h⟩ | ⟨c10, h⟩
  · obtain ⟨q1, q2⟩ := ab_r2 h
    exact q2.symm.trans fr
  rcases ab_i h with ⟨c11, h⟩ | ⟨c11, h⟩
  · obtain ⟨q1, q2⟩ := ab_r2 h
    exact q2.symm.trans fr
  rcases ab_i h with ⟨c12, h⟩ | ⟨c12, h⟩
  · obtain ⟨q1, q2⟩ := ab_r2 h
    exact q2.symm.trans fr
  rcases ab_i h with ⟨c13, h⟩ | ⟨c13, h⟩
  · obtain ⟨q1, q2⟩ := ab_r2 h
    exact q2.symm.trans fr
  rcases ab_i h with ⟨c14, h⟩ | ⟨c14, h⟩
  · obtain ⟨q1, q2⟩ := ab_r2 h
    exact q2.symm.trans fr
  rcases ab_i h with ⟨c15, h⟩ | ⟨c15, h⟩
  · obtain ⟨q1, q2⟩ := ab_r2 h
    exact q2.symm.trans fr
  obtain ⟨q1, q2⟩ := ab_r2 h
  exact q2.symm.trans fr
/-! MoodFareModel.status -/
def f_X7_status (n : Nat) (σ : am_Mem) : Option (Int × am_Mem) :=
  some (σ 75 4, σ)
theorem t_X7_status {L n d : Nat} {Q : am_Post} {σ σr : am_Mem} {rr : Int} (hd : 0 < d) (h : f_X7_status n σ = some (rr, σr)) (hQ : Q (some (am_i rr)) (rm_h L σr)) : xs_aw d me_X7_status [am_r 75] (rm_h L σ) Q := by
  obtain ⟨d, rfl⟩ : ∃ k, d = k + 1 := ⟨d - 1, by omega⟩
  have hd : 0 ≤ d := by omega
  unfold f_X7_status at h
  show xs_AW (xs_aw d) me_X7_status Q 0 [some (am_r 75)] [] (rm_h L σ)
  refine rr_aload_n dX7_status_0 rfl ?_
  refine rr_geti (kz := 4) dX7_status_1 fl_7_66 (sh_75 L) ⟨(by decide), by decide⟩ rfl rfl ?_
  obtain ⟨rfl, rfl⟩ := ab_r2 h
  exact rr_iret dX7_status_4 rfl hQ
theorem u_X7_status {n : Nat} {σ σr : am_Mem} {rr : Int} (h : f_X7_status n σ = some (rr, σr)) : σr = σ := by
  unfold f_X7_status at h
  have fr : σ = σ := rfl
  obtain ⟨q1, q2⟩ := ab_r2 h
  exact q2.symm.trans fr
