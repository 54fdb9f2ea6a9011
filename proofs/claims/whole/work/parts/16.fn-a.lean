theorem ab_m {d : Nat} {me : am_M} {Q : am_Post} {pc L : Nat} {ls : am_L} {st : List am_V} {m m' : am_Mem} (e : some m = some m') (h : xs_AW (xs_aw d) me Q pc ls st (rm_h L m')) : xs_AW (xs_aw d) me Q pc ls st (rm_h L m) := by
  cases e
  exact h
theorem ab_fu {σ σ' : am_Mem} {a b : Nat} {j z : Int} (h : some (am_up σ a j z) = some σ') (hb : b ≠ a) : σ' b = σ b := by
  cases h
  exact ah_up_ne σ j z hb
theorem ab_fc {σ σ' : am_Mem} {a b q : Nat} {i j n : Int} (h : some (am_cpy σ a i b j n) = some σ') (hb : q ≠ b) : σ' q = σ q := by
  cases h
  exact ah_cpy_ne σ a i j n hb
/-! MoodFare$Rows.isRow -/
def f_X2_isRow (n : Nat) (p0 : Int) (σ : am_Mem) : Option (Int × am_Mem) :=
  if p0 < 0 then (some (0, σ)) else (if p0 < 8 then (some (1, σ)) else (some (0, σ)))
theorem t_X2_isRow {L n d : Nat} {Q : am_Post} {p0 : Int} {σ σr : am_Mem} {rr : Int} (hd : 0 < d) (h : f_X2_isRow n p0 σ = some (rr, σr)) (hQ : Q (some (am_i rr)) (rm_h L σr)) : xs_aw d me_X2_isRow [am_i p0] (rm_h L σ) Q := by
  obtain ⟨d, rfl⟩ : ∃ k, d = k + 1 := ⟨d - 1, by omega⟩
  have hd : 0 ≤ d := by omega
  unfold f_X2_isRow at h
  show xs_AW (xs_aw d) me_X2_isRow Q 0 [some (am_i p0)] [] (rm_h L σ)
  refine rr_iload_n dX2_isRow_0 rfl ?_
  rcases ab_i h with ⟨c1, h⟩ | ⟨c1, h⟩
  · refine rr_if_lt_p (t := 14) dX2_isRow_1 (by decide) c1 ?_
    refine rr_iconst dX2_isRow_14 (by decide) ?_
    obtain ⟨rfl, rfl⟩ := ab_r2 h
    exact rr_zret dX2_isRow_15 rfl (Or.inl rfl) hQ
  · refine rr_if_lt_n (t := 14) dX2_isRow_1 (by decide) c1 ?_
    refine rr_iload_n dX2_isRow_4 rfl ?_
    refine rr_bipush dX2_isRow_5 (by decide) ?_
    rcases ab_i h with ⟨c2, h⟩ | ⟨c2, h⟩
    · refine rr_icmp_ge_p (t := 14) dX2_isRow_7 (by decide) c2 ?_
      refine rr_iconst dX2_isRow_10 (by decide) ?_
      refine rr_goto (t := 15) dX2_isRow_11 (by decide) ?_
      obtain ⟨rfl, rfl⟩ := ab_r2 h
      exact rr_zret dX2_isRow_15 rfl (Or.inr rfl) hQ
    · refine rr_icmp_ge_n (t := 14) dX2_isRow_7 (by decide) c2 ?_
      refine rr_iconst dX2_isRow_14 (by decide) ?_
      obtain ⟨rfl, rfl⟩ := ab_r2 h
      exact rr_zret dX2_isRow_15 rfl (Or.inl rfl) hQ
theorem u_X2_isRow {n : Nat} {p0 : Int} {σ σr : am_Mem} {rr : Int} (h : f_X2_isRow n p0 σ = some (rr, σr)) : σr = σ := by
  unfold f_X2_isRow at h
  have fr : σ = σ := rfl
  rcases ab_i h with ⟨c1, h⟩ | ⟨c1, h⟩
  · obtain ⟨q1, q2⟩ := ab_r2 h
    exact q2.symm.trans fr
  · rcases ab_i h with ⟨c2, h⟩ | ⟨c2, h⟩
    · obtain ⟨q1, q2⟩ := ab_r2 h
      exact q2.symm.trans fr
    · obtain ⟨q1, q2⟩ := ab_r2 h
      exact q2.symm.trans fr
/-! MoodFare$Rows.lay -/
def fb_X2_lay_17 (n : Nat) (kh17 : Int → Int → Int → am_Mem → Option am_Mem) (x1 : Int) (x3 : Int) (x4 : Int) (σ : am_Mem) : Option am_Mem :=
  if x4 < x3 then (if (0 : Int) ≤ x1 ∧ x1 < 8 then if (0 : Int) ≤ x4 ∧ x4 < 40 then am_b1 (some (am_up σ (8 + (x1).toNat) x4 0)) fun σ9 => kh17 x1 x3 (am_w (x4 + 1)) σ9 else none else none) else (some σ)
def fl_X2_lay_17 (n : Nat) : Nat → Int → Int → Int → am_Mem → Option am_Mem
  | 0, _, _, _, _ => none
  | m + 1, x1, x3, x4, σ => fb_X2_lay_17 n (fun yx1 yx3 yx4 σ => fl_X2_lay_17 n m yx1 yx3 yx4 σ) x1 x3 x4 σ
def f_X2_lay (n : Nat) (p1 : Int) (p2 : Int) (p3 : Int) (σ : am_Mem) : Option am_Mem :=
  if (0 : Int) ≤ p1 ∧ p1 < 8 then am_b1 (some (am_up σ 5 p1 p2)) fun σ2 => am_b1 (some (am_up σ2 6 p1 p3)) fun σ4 => fl_X2_lay_17 n n p1 p3 0 σ4 else none
theorem tb_X2_lay_17 {L n d : Nat} {Q : am_Post} {kh17 : Int → Int → Int → am_Mem → Option am_Mem} {x1 : Int} {x3 : Int} {x4 : Int} {o2 : Int} {σ σr : am_Mem} (hd : 0 ≤ d) (hk17 : ∀ (y1 : Int) (y3 : Int) (y4 : Int) (σ : am_Mem), kh17 y1 y3 y4 σ = some σr → ∀ (o2 : Int), xs_AW (xs_aw d) me_X2_lay Q 17 [some (am_r 4), some (am_i y1), some (am_i o2), some (am_i y3), some (am_i y4)] [] (rm_h L σ)) (hQ : Q none (rm_h L σr)) (h : fb_X2_lay_17 n kh17 x1 x3 x4 σ = some σr) : xs_AW (xs_aw d) me_X2_lay Q 17 [some (am_r 4), some (am_i x1), some (am_i o2), some (am_i x3), some (am_i x4)] [] (rm_h L σ) := by
  unfold fb_X2_lay_17 at h
  refine rr_iload dX2_lay_17 rfl ?_
  refine rr_iload_n dX2_lay_19 rfl ?_
  rcases ab_i h with ⟨c6, h⟩ | ⟨c6, h⟩
  · refine rr_icmp_ge_p (t := 39) dX2_lay_20 (by decide) c6 ?_
    refine rr_aload_n dX2_lay_23 rfl ?_
    refine rr_getr (t := 7) dX2_lay_24 fl_2_20 (sh_4 L) ⟨(by decide), by decide⟩ rfl rfl ?_
    refine rr_iload_n dX2_lay_27 rfl ?_
    obtain ⟨g7, h⟩ := ab_g h
    refine rr_aald (nz := 8) (t := (8 + (x1).toNat)) dX2_lay_28 (sh_7 L) ⟨(by decide), Or.inr rfl⟩ rfl g7 (er_7 g7) ?_
    refine rr_iload dX2_lay_29 rfl ?_
    refine rr_iconst dX2_lay_31 (by decide) ?_
    obtain ⟨g8, h⟩ := ab_g h
    refine rr_iast (nz := 40) dX2_lay_32 (el_7 g7 L) (Nat.le_trans (by decide) (Nat.le_add_right 8 _)) rfl g8 ?_
    obtain ⟨σ9, e10, h⟩ := ab_1 h
    refine ab_m e10 ?_
    refine rr_iinc (ls' := [some (am_r 4), some (am_i x1), some (am_i o2), some (am_i x3), some (am_i (am_w (x4 + 1)))]) dX2_lay_33 rfl (Nat.le_of_ble_eq_true rfl) rfl ?_
    refine rr_goto (t := 17) dX2_lay_36 (by decide) ?_
    exact hk17 _ _ _ _ h _
  · refine rr_icmp_ge_n (t := 39) dX2_lay_20 (by decide) c6 ?_
    obtain rfl := ab_r1 h
    exact rr_vret dX2_lay_39 rfl hQ
theorem tl_X2_lay_17 {L n d : Nat} {Q : am_Post} {σr : am_Mem} (hd : 0 ≤ d) (hQ : Q none (rm_h L σr)) : ∀ (m : Nat) (x1 : Int) (x3 : Int) (x4 : Int) (σ : am_Mem) (o2 : Int), fl_X2_lay_17 n m x1 x3 x4 σ = some σr → xs_AW (xs_aw d) me_X2_lay Q 17 [some (am_r 4), some (am_i x1), some (am_i o2), some (am_i x3), some (am_i x4)] [] (rm_h L σ) := by
  intro m
  induction m with
  | zero => intro x1 x3 x4 σ o2 h; cases h
  | succ m ih =>
    intro x1 x3 x4 σ o2 h
    exact tb_X2_lay_17 hd (fun x1 x3 x4 σ h o2 => ih x1 x3 x4 σ o2 h) hQ h
theorem t_X2_lay {L n d : Nat} {Q : am_Post} {p1 : Int} {p2 : Int} {p3 : Int} {σ σr : am_Mem} (hd : 0 < d) (h : f_X2_lay n p1 p2 p3 σ = some σr) (hQ : Q none (rm_h L σr)) : xs_aw d me_X2_lay [am_r 4, am_i p1, am_i p2, am_i p3] (rm_h L σ) Q := by
  obtain ⟨d, rfl⟩ : ∃ k, d = k + 1 := ⟨d - 1, by omega⟩
  have hd : 0 ≤ d := by omega
  unfold f_X2_lay at h
  show xs_AW (xs_aw d) me_X2_lay Q 0 [some (am_r 4), some (am_i p1), some (am_i p2), some (am_i p3), none] [] (rm_h L σ)
  refine rr_aload_n dX2_lay_0 rfl ?_
  refine rr_getr (t := 5) dX2_lay_1 fl_2_9 (sh_4 L) ⟨(by decide), by decide⟩ rfl rfl ?_
  refine rr_iload_n dX2_lay_4 rfl ?_
  refine rr_iload_n dX2_lay_5 rfl ?_
  obtain ⟨g1, h⟩ := ab_g h
  refine rr_iast (nz := 8) dX2_lay_6 (sh_5 L) (by decide) rfl g1 ?_
  obtain ⟨σ2, e3, h⟩ := ab_1 h
  refine ab_m e3 ?_
  refine rr_aload_n dX2_lay_7 rfl ?_
  refine rr_getr (t := 6) dX2_lay_8 fl_2_15 (sh_4 L) ⟨(by decide), by decide⟩ rfl rfl ?_
  refine rr_iload_n dX2_lay_11 rfl ?_
  refine rr_iload_n dX2_lay_12 rfl ?_
  refine rr_iast (nz := 8) dX2_lay_13 (sh_6 L) (by decide) rfl g1 ?_
  obtain ⟨σ4, e5, h⟩ := ab_1 h
  refine ab_m e5 ?_
  refine rr_iconst dX2_lay_14 (by decide) ?_
  refine rr_istore (ls' := [some (am_r 4), some (am_i p1), some (am_i p2), some (am_i p3), some (am_i 0)]) dX2_lay_15 (Nat.le_of_ble_eq_true rfl) rfl ?_
  exact tl_X2_lay_17 hd hQ n _ _ _ _ _ h
def nw_X2_lay (a : Nat) : Prop := a ≠ 5 ∧ a ≠ 6 ∧ (a < 8 ∨ 16 ≤ a)
theorem wb_X2_lay_17 {n : Nat} {kh17 : Int → Int → Int → am_Mem → Option am_Mem} {x1 : Int} {x3 : Int} {x4 : Int} {σ σr : am_Mem} (hk17 : ∀ (y1 : Int) (y3 : Int) (y4 : Int) (σ : am_Mem), kh17 y1 y3 y4 σ = some σr → ∀ a : Nat, nw_X2_lay a → σr a = σ a) (h : fb_X2_lay_17 n kh17 x1 x3 x4 σ = some σr) : ∀ a : Nat, nw_X2_lay a → σr a = σ a := by
  unfold fb_X2_lay_17 at h
  have fr : ∀ a : Nat, nw_X2_lay a → σ a = σ a := fun _ _ => rfl
  rcases ab_i h with ⟨c6, h⟩ | ⟨c6, h⟩
  · obtain ⟨g7, h⟩ := ab_g h
    obtain ⟨g8, h⟩ := ab_g h
    obtain ⟨σ9, e10, h⟩ := ab_1 h
    have fr := fun (a : Nat) (ha : nw_X2_lay a) => (ab_fu e10 (show a ≠ (8 + (x1).toNat) by unfold nw_X2_lay at ha; omega)).trans (fr a ha)
    exact fun a ha => (hk17 _ _ _ _ h a ha).trans (fr a ha)
  · have q2 := ab_r1 h
    exact fun a ha => (congrFun q2.symm a).trans (fr a ha)
theorem wl_X2_lay_17 {n : Nat} {σr : am_Mem} : ∀ (m : Nat) (x1 : Int) (x3 : Int) (x4 : Int) (σ : am_Mem), fl_X2_lay_17 n m x1 x3 x4 σ = some σr → ∀ a : Nat, nw_X2_lay a → σr a = σ a := by
  intro m
  induction m with
  | zero => intro x1 x3 x4 σ h; cases h
  | succ m ih =>
    intro x1 x3 x4 σ h
    exact wb_X2_lay_17 (fun x1 x3 x4 σ h => ih x1 x3 x4 σ h) h
theorem w_X2_lay {n : Nat} {p1 : Int} {p2 : Int} {p3 : Int} {σ σr : am_Mem} (h : f_X2_lay n p1 p2 p3 σ = some σr) : ∀ a : Nat, nw_X2_lay a → σr a = σ a := by
  unfold f_X2_lay at h
  have fr : ∀ a : Nat, nw_X2_lay a → σ a = σ a := fun _ _ => rfl
  obtain ⟨g1, h⟩ := ab_g h
  obtain ⟨σ2, e3, h⟩ := ab_1 h
  have fr := fun (a : Nat) (ha : nw_X2_lay a) => (ab_fu e3 (show a ≠ 5 by unfold nw_X2_lay at ha; omega)).trans (fr a ha)
  obtain ⟨σ4, e5, h⟩ := ab_1 h
  have fr := fun (a : Nat) (ha : nw_X2_lay a) => (ab_fu e5 (show a ≠ 6 by unfold nw_X2_lay at ha; omega)).trans (fr a ha)
  exact fun a ha => (wl_X2_lay_17 n _ _ _ _ h a ha).trans (fr a ha)
/-! MoodFare$Rows.isMissing -/
def f_X2_isMissing (n : Nat) (p1 : Int) (σ : am_Mem) : Option (Int × am_Mem) :=
  if (0 : Int) ≤ p1 ∧ p1 < 8 then if σ 6 p1 = (-1) then (some (1, σ)) else (some (0, σ)) else none
theorem t_X2_isMissing {L n d : Nat} {Q : am_Post} {p1 : Int} {σ σr : am_Mem} {rr : Int} (hd : 0 < d) (h : f_X2_isMissing n p1 σ = some (rr, σr)) (hQ : Q (some (am_i rr)) (rm_h L σr)) : xs_aw d me_X2_isMissing [am_r 4, am_i p1] (rm_h L σ) Q := by
  obtain ⟨d, rfl⟩ : ∃ k, d = k + 1 := ⟨d - 1, by omega⟩
  have hd : 0 ≤ d := by omega
  unfold f_X2_isMissing at h
  show xs_AW (xs_aw d) me_X2_isMissing Q 0 [some (am_r 4), some (am_i p1)] [] (rm_h L σ)
  refine rr_aload_n dX2_isMissing_0 rfl ?_
  refine rr_getr (t := 6) dX2_isMissing_1 fl_2_15 (sh_4 L) ⟨(by decide), by decide⟩ rfl rfl ?_
  refine rr_iload_n dX2_isMissing_4 rfl ?_
  obtain ⟨g1, h⟩ := ab_g h
  refine rr_iald (nz := 8) dX2_isMissing_5 (sh_6 L) rfl g1 ?_
  refine rr_iconst dX2_isMissing_6 (by decide) ?_
  rcases ab_i h with ⟨c2, h⟩ | ⟨c2, h⟩
  · refine rr_icmp_ne_p (t := 14) dX2_isMissing_7 (by decide) c2 ?_
    refine rr_iconst dX2_isMissing_10 (by decide) ?_
    refine rr_goto (t := 15) dX2_isMissing_11 (by decide) ?_
    obtain ⟨rfl, rfl⟩ := ab_r2 h
    exact rr_zret dX2_isMissing_15 rfl (Or.inr rfl) hQ
  · refine rr_icmp_ne_n (t := 14) dX2_isMissing_7 (by decide) c2 ?_
    refine rr_iconst dX2_isMissing_14 (by decide) ?_
    obtain ⟨rfl, rfl⟩ := ab_r2 h
    exact rr_zret dX2_isMissing_15 rfl (Or.inl rfl) hQ
theorem u_X2_isMissing {n : Nat} {p1 : Int} {σ σr : am_Mem} {rr : Int} (h : f_X2_isMissing n p1 σ = some (rr, σr)) : σr = σ := by
  unfold f_X2_isMissing at h
  have fr : σ = σ := rfl
  obtain ⟨g1, h⟩ := ab_g h
  rcases ab_i h with ⟨c2, h⟩ | ⟨c2, h⟩
  · obtain ⟨q1, q2⟩ := ab_r2 h
    exact q2.symm.trans fr
  · obtain ⟨q1, q2⟩ := ab_r2 h
    exact q2.symm.trans fr
/-! MoodFare$Rows.spans -/
def f_X2_spans (n : Nat) (p1 : Int) (p2 : Int) (p3 : Int) (σ : am_Mem) : Option (Int × am_Mem) :=
  if p2 < 0 then (some (0, σ)) else (if p3 < 0 then (some (0, σ)) else (if (0 : Int) ≤ p1 ∧ p1 < 8 then if p2 ≤ am_w ((σ 6 p1) - p3) then (some (1, σ)) else (some (0, σ)) else none))
theorem t_X2_spans {L n d : Nat} {Q : am_Post} {p1 : Int} {p2 : Int} {p3 : Int} {σ σr : am_Mem} {rr : Int} (hd : 0 < d) (h : f_X2_spans n p1 p2 p3 σ = some (rr, σr)) (hQ : Q (some (am_i rr)) (rm_h L σr)) : xs_aw d me_X2_spans [am_r 4, am_i p1, am_i p2, am_i p3] (rm_h L σ) Q := by
  obtain ⟨d, rfl⟩ : ∃ k, d = k + 1 := ⟨d - 1, by omega⟩
  have hd : 0 ≤ d := by omega
  unfold f_X2_spans at h
  show xs_AW (xs_aw d) me_X2_spans Q 0 [some (am_r 4), some (am_i p1), some (am_i p2), some (am_i p3)] [] (rm_h L σ)
  refine rr_iload_n dX2_spans_0 rfl ?_
  rcases ab_i h with ⟨c1, h⟩ | ⟨c1, h⟩
  · refine rr_if_lt_p (t := 24) dX2_spans_1 (by decide) c1 ?_
    refine rr_iconst dX2_spans_24 (by decide) ?_
    obtain ⟨rfl, rfl⟩ := ab_r2 h
    exact rr_zret dX2_spans_25 rfl (Or.inl rfl) hQ
  · refine rr_if_lt_n (t := 24) dX2_spans_1 (by decide) c1 ?_
    refine rr_iload_n dX2_spans_4 rfl ?_
    rcases ab_i h with ⟨c2, h⟩ | ⟨c2, h⟩
    · refine rr_if_lt_p (t := 24) dX2_spans_5 (by decide) c2 ?_
      refine rr_iconst dX2_spans_24 (by decide) ?_
      obtain ⟨rfl, rfl⟩ := ab_r2 h
      exact rr_zret dX2_spans_25 rfl (Or.inl rfl) hQ
    · refine rr_if_lt_n (t := 24) dX2_spans_5 (by decide) c2 ?_
      refine rr_iload_n dX2_spans_8 rfl ?_
      refine rr_aload_n dX2_spans_9 rfl ?_
      refine rr_getr (t := 6) dX2_spans_10 fl_2_15 (sh_4 L) ⟨(by decide), by decide⟩ rfl rfl ?_
      refine rr_iload_n dX2_spans_13 rfl ?_
      obtain ⟨g3, h⟩ := ab_g h
      refine rr_iald (nz := 8) dX2_spans_14 (sh_6 L) rfl g3 ?_
      refine rr_iload_n dX2_spans_15 rfl ?_
      refine rr_isub dX2_spans_16 ?_
      rcases ab_i h with ⟨c4, h⟩ | ⟨c4, h⟩
      · refine rr_icmp_gt_p (t := 24) dX2_spans_17 (by decide) c4 ?_
        refine rr_iconst dX2_spans_20 (by decide) ?_
        refine rr_goto (t := 25) dX2_spans_21 (by decide) ?_
        obtain ⟨rfl, rfl⟩ := ab_r2 h
        exact rr_zret dX2_spans_25 rfl (Or.inr rfl) hQ
      · refine rr_icmp_gt_n (t := 24) dX2_spans_17 (by decide) c4 ?_
        refine rr_iconst dX2_spans_24 (by decide) ?_
        obtain ⟨rfl, rfl⟩ := ab_r2 h
        exact rr_zret dX2_spans_25 rfl (Or.inl rfl) hQ
theorem u_X2_spans {n : Nat} {p1 : Int} {p2 : Int} {p3 : Int} {σ σr : am_Mem} {rr : Int} (h : f_X2_spans n p1 p2 p3 σ = some (rr, σr)) : σr = σ := by
  unfold f_X2_spans at h
  have fr : σ = σ := rfl
  rcases ab_i h with ⟨c1, h⟩ | ⟨c1, h⟩
  · obtain ⟨q1, q2⟩ := ab_r2 h
    exact q2.symm.trans fr
  · rcases ab_i h with ⟨c2, h⟩ | ⟨c2, h⟩
    · obtain ⟨q1, q2⟩ := ab_r2 h
      exact q2.symm.trans fr
    · obtain ⟨g3, h⟩ := ab_g h
      rcases ab_i h with ⟨c4, h⟩ | ⟨c4, h⟩
      · obtain ⟨q1, q2⟩ := ab_r2 h
        exact q2.symm.trans fr
      · obtain ⟨q1, q2⟩ := ab_r2 h
        exact q2.symm.trans fr
/-! MoodFare$Rows.findingOf -/
def f_X2_findingOf (n : Nat) (p1 : Int) (p2 : Int) (p3 : Int) (σ : am_Mem) : Option (Int × am_Mem) :=
  am_b2 (f_X2_isMissing n p1 σ) fun r2 σ3 => if r2 = 0 then (am_b2 (f_X2_spans n p1 p2 p3 σ3) fun r6 σ7 => if r6 = 0 then (some (2, σ7)) else (some (0, σ7))) else (some (1, σ3))
theorem t_X2_findingOf {L n d : Nat} {Q : am_Post} {p1 : Int} {p2 : Int} {p3 : Int} {σ σr : am_Mem} {rr : Int} (hd : 1 < d) (h : f_X2_findingOf n p1 p2 p3 σ = some (rr, σr)) (hQ : Q (some (am_i rr)) (rm_h L σr)) : xs_aw d me_X2_findingOf [am_r 4, am_i p1, am_i p2, am_i p3] (rm_h L σ) Q := by
  obtain ⟨d, rfl⟩ : ∃ k, d = k + 1 := ⟨d - 1, by omega⟩
  have hd : 1 ≤ d := by omega
  unfold f_X2_findingOf at h
  show xs_AW (xs_aw d) me_X2_findingOf Q 0 [some (am_r 4), some (am_i p1), some (am_i p2), some (am_i p3)] [] (rm_h L σ)
  refine rr_aload_n dX2_findingOf_0 rfl ?_
  refine rr_iload_n dX2_findingOf_1 rfl ?_
  obtain ⟨r2, σ3, e1, h⟩ := ab_2 h
  refine rr_Vi (as := [am_i p1]) (rest := []) dX2_findingOf_2 ml_2_23 (sh_4 L) ⟨(by decide), by decide, by decide⟩ rfl rfl rfl (Nat.le_of_ble_eq_true rfl) ⟨rfl, rfl⟩ (Nat.le_of_ble_eq_true rfl) (fun _ k => t_X2_isMissing (by omega) e1 k) ?_
  rcases ab_i h with ⟨c4, h⟩ | ⟨c4, h⟩
  · refine rr_if_eq_p (t := 10) dX2_findingOf_5 (by decide) c4 ?_
    refine rr_aload_n dX2_findingOf_10 rfl ?_
    refine rr_iload_n dX2_findingOf_11 rfl ?_
    refine rr_iload_n dX2_findingOf_12 rfl ?_
    refine rr_iload_n dX2_findingOf_13 rfl ?_
    obtain ⟨r6, σ7, e5, h⟩ := ab_2 h
    refine rr_Vi (as := [am_i p1, am_i p2, am_i p3]) (rest := []) dX2_findingOf_14 ml_2_33 (sh_4 L) ⟨(by decide), by decide, by decide⟩ rfl rfl rfl (Nat.le_of_ble_eq_true rfl) ⟨rfl, rfl⟩ (Nat.le_of_ble_eq_true rfl) (fun _ k => t_X2_spans (by omega) e5 k) ?_
    rcases ab_i h with ⟨c8, h⟩ | ⟨c8, h⟩
    · refine rr_if_eq_p (t := 24) dX2_findingOf_17 (by decide) c8 ?_
      refine rr_iconst dX2_findingOf_24 (by decide) ?_
      obtain ⟨rfl, rfl⟩ := ab_r2 h
      exact rr_iret dX2_findingOf_25 rfl hQ
    · refine rr_if_eq_n (t := 24) dX2_findingOf_17 (by decide) c8 ?_
      refine rr_iconst dX2_findingOf_20 (by decide) ?_
      refine rr_goto (t := 25) dX2_findingOf_21 (by decide) ?_
      obtain ⟨rfl, rfl⟩ := ab_r2 h
      exact rr_iret dX2_findingOf_25 rfl hQ
  · refine rr_if_eq_n (t := 10) dX2_findingOf_5 (by decide) c4 ?_
    refine rr_iconst dX2_findingOf_8 (by decide) ?_
    obtain ⟨rfl, rfl⟩ := ab_r2 h
    exact rr_iret dX2_findingOf_9 rfl hQ
theorem u_X2_findingOf {n : Nat} {p1 : Int} {p2 : Int} {p3 : Int} {σ σr : am_Mem} {rr : Int} (h : f_X2_findingOf n p1 p2 p3 σ = some (rr, σr)) : σr = σ := by
  unfold f_X2_findingOf at h
  have fr : σ = σ := rfl
  obtain ⟨r2, σ3, e1, h⟩ := ab_2 h
  have fr := (u_X2_isMissing e1).trans fr
  rcases ab_i h with ⟨c4, h⟩ | ⟨c4, h⟩
  · obtain ⟨r6, σ7, e5, h⟩ := ab_2 h
    have fr := (u_X2_spans e5).trans fr
    rcases ab_i h with ⟨c8, h⟩ | ⟨c8, h⟩
    · obtain ⟨q1, q2⟩ := ab_r2 h
      exact q2.symm.trans fr
    · obtain ⟨q1, q2⟩ := ab_r2 h
      exact q2.symm.trans fr
  · obtain ⟨q1, q2⟩ := ab_r2 h
    exact q2.symm.trans fr
/-! MoodFare$Rows.put -/
def f_X2_put (n : Nat) (p1 : Int) (p2 : Int) (p3 : Int) (σ : am_Mem) : Option (Int × am_Mem) :=
  if (0 : Int) ≤ p1 ∧ p1 < 8 then if σ 5 p1 = 0 then (if (0 : Int) ≤ p2 ∧ p2 < 40 then am_b1 (some (am_up σ (8 + (p1).toNat) p2 (am_b8 p3))) fun σ4 => some (am_b8 p3, σ4) else none) else (if σ 5 p1 = 1 then (if (0 : Int) ≤ p2 ∧ p2 < 40 then am_b1 (some (am_up σ (8 + (p1).toNat) p2 (am_b16 p3))) fun σ8 => some (am_b16 p3, σ8) else none) else (if (0 : Int) ≤ p2 ∧ p2 < 40 then am_b1 (some (am_up σ (8 + (p1).toNat) p2 p3)) fun σ11 => some (p3, σ11) else none)) else none
theorem t_X2_put {L n d : Nat} {Q : am_Post} {p1 : Int} {p2 : Int} {p3 : Int} {σ σr : am_Mem} {rr : Int} (hd : 0 < d) (h : f_X2_put n p1 p2 p3 σ = some (rr, σr)) (hQ : Q (some (am_i rr)) (rm_h L σr)) : xs_aw d me_X2_put [am_r 4, am_i p1, am_i p2, am_i p3] (rm_h L σ) Q := by
  obtain ⟨d, rfl⟩ : ∃ k, d = k + 1 := ⟨d - 1, by omega⟩
  have hd : 0 ≤ d := by omega
  unfold f_X2_put at h
  show xs_AW (xs_aw d) me_X2_put Q 0 [some (am_r 4), some (am_i p1), some (am_i p2), some (am_i p3), none] [] (rm_h L σ)
  refine rr_iload_n dX2_put_0 rfl ?_
  refine rr_istore (ls' := [some (am_r 4), some (am_i p1), some (am_i p2), some (am_i p3), some (am_i p3)]) dX2_put_1 (Nat.le_of_ble_eq_true rfl) rfl ?_
  refine rr_aload_n dX2_put_3 rfl ?_
  refine rr_getr (t := 5) dX2_put_4 fl_2_9 (sh_4 L) ⟨(by decide), by decide⟩ rfl rfl ?_
  refine rr_iload_n dX2_put_7 rfl ?_
  obtain ⟨g1, h⟩ := ab_g h
  refine rr_iald (nz := 8) dX2_put_8 (sh_5 L) rfl g1 ?_
  rcases ab_i h with ⟨c2, h⟩ | ⟨c2, h⟩
  · refine rr_if_ne_p (t := 19) dX2_put_9 (by decide) c2 ?_
    refine rr_iload_n dX2_put_12 rfl ?_
    refine rr_i2b dX2_put_13 ?_
    refine rr_istore (ls' := [some (am_r 4), some (am_i p1), some (am_i p2), some (am_i p3), some (am_i (am_b8 p3))]) dX2_put_14 (Nat.le_of_ble_eq_true rfl) rfl ?_
    refine rr_goto (t := 33) dX2_put_16 (by decide) ?_
    refine rr_aload_n dX2_put_33 rfl ?_
    refine rr_getr (t := 7) dX2_put_34 fl_2_20 (sh_4 L) ⟨(by decide), by decide⟩ rfl rfl ?_
    refine rr_iload_n dX2_put_37 rfl ?_
    refine rr_aald (nz := 8) (t := (8 + (p1).toNat)) dX2_put_38 (sh_7 L) ⟨(by decide), Or.inr rfl⟩ rfl g1 (er_7 g1) ?_
    refine rr_iload_n dX2_put_39 rfl ?_
    refine rr_iload dX2_put_40 rfl ?_
    obtain ⟨g3, h⟩ := ab_g h
    refine rr_iast (nz := 40) dX2_put_42 (el_7 g1 L) (Nat.le_trans (by decide) (Nat.le_add_right 8 _)) rfl g3 ?_
    obtain ⟨σ4, e5, h⟩ := ab_1 h
    refine ab_m e5 ?_
    refine rr_iload dX2_put_43 rfl ?_
    obtain ⟨rfl, rfl⟩ := ab_r2 h
    exact rr_iret dX2_put_45 rfl hQ
  · refine rr_if_ne_n (t := 19) dX2_put_9 (by decide) c2 ?_
    refine rr_aload_n dX2_put_19 rfl ?_
    refine rr_getr (t := 5) dX2_put_20 fl_2_9 (sh_4 L) ⟨(by decide), by decide⟩ rfl rfl ?_
    refine rr_iload_n dX2_put_23 rfl ?_
    refine rr_iald (nz := 8) dX2_put_24 (sh_5 L) rfl g1 ?_
    refine rr_iconst dX2_put_25 (by decide) ?_
    rcases ab_i h with ⟨c6, h⟩ | ⟨c6, h⟩
    · refine rr_icmp_ne_p (t := 33) dX2_put_26 (by decide) c6 ?_
      refine rr_iload_n dX2_put_29 rfl ?_
      refine rr_i2s dX2_put_30 ?_
      refine rr_istore (ls' := [some (am_r 4), some (am_i p1), some (am_i p2), some (am_i p3), some (am_i (am_b16 p3))]) dX2_put_31 (Nat.le_of_ble_eq_true rfl) rfl ?_
      refine rr_aload_n dX2_put_33 rfl ?_
      refine rr_getr (t := 7) dX2_put_34 fl_2_20 (sh_4 L) ⟨(by decide), by decide⟩ rfl rfl ?_
      refine rr_iload_n dX2_put_37 rfl ?_
      refine rr_aald (nz := 8) (t := (8 + (p1).toNat)) dX2_put_38 (sh_7 L) ⟨(by decide), Or.inr rfl⟩ rfl g1 (er_7 g1) ?_
      refine rr_iload_n dX2_put_39 rfl ?_
      refine rr_iload dX2_put_40 rfl ?_
      obtain ⟨g7, h⟩ := ab_g h
      refine rr_iast (nz := 40) dX2_put_42 (el_7 g1 L) (Nat.le_trans (by decide) (Nat.le_add_right 8 _)) rfl g7 ?_
      obtain ⟨σ8, e9, h⟩ := ab_1 h
      refine ab_m e9 ?_
      refine rr_iload dX2_put_43 rfl ?_
      obtain ⟨rfl, rfl⟩ := ab_r2 h
      exact rr_iret dX2_put_45 rfl hQ
    · refine rr_icmp_ne_n (t := 33) dX2_put_26 (by decide) c6 ?_
      refine rr_aload_n dX2_put_33 rfl ?_
      refine rr_getr (t := 7) dX2_put_34 fl_2_20 (sh_4 L) ⟨(by decide), by decide⟩ rfl rfl ?_
      refine rr_iload_n dX2_put_37 rfl ?_
      refine rr_aald (nz := 8) (t := (8 + (p1).toNat)) dX2_put_38 (sh_7 L) ⟨(by decide), Or.inr rfl⟩ rfl g1 (er_7 g1) ?_
      refine rr_iload_n dX2_put_39 rfl ?_
      refine rr_iload dX2_put_40 rfl ?_
      obtain ⟨g10, h⟩ := ab_g h
      refine rr_iast (nz := 40) dX2_put_42 (el_7 g1 L) (Nat.le_trans (by decide) (Nat.le_add_right 8 _)) rfl g10 ?_
      obtain ⟨σ11, e12, h⟩ := ab_1 h
      refine ab_m e12 ?_
      refine rr_iload dX2_put_43 rfl ?_
      obtain ⟨rfl, rfl⟩ := ab_r2 h
      exact rr_iret dX2_put_45 rfl hQ
def nw_X2_put (a : Nat) : Prop := (a < 8 ∨ 16 ≤ a)
theorem w_X2_put {n : Nat} {p1 : Int} {p2 : Int} {p3 : Int} {σ σr : am_Mem} {rr : Int} (h : f_X2_put n p1 p2 p3 σ = some (rr, σr)) : ∀ a : Nat, nw_X2_put a → σr a = σ a := by
  unfold f_X2_put at h
  have fr : ∀ a : Nat, nw_X2_put a → σ a = σ a := fun _ _ => rfl
  obtain ⟨g1, h⟩ := ab_g h
  rcases ab_i h with ⟨c2, h⟩ | ⟨c2, h⟩
  · obtain ⟨g3, h⟩ := ab_g h
    obtain ⟨σ4, e5, h⟩ := ab_1 h
    have fr := fun (a : Nat) (ha : nw_X2_put a) => (ab_fu e5 (show a ≠ (8 + (p1).toNat) by unfold nw_X2_put at ha; omega)).trans (fr a ha)
    obtain ⟨q1, q2⟩ := ab_r2 h
    exact fun a ha => (congrFun q2.symm a).trans (fr a ha)
  · rcases ab_i h with ⟨c6, h⟩ | ⟨c6, h⟩
    · obtain ⟨g7, h⟩ := ab_g h
      obtain ⟨σ8, e9, h⟩ := ab_1 h
      have fr := fun (a : Nat) (ha : nw_X2_put a) => (ab_fu e9 (show a ≠ (8 + (p1).toNat) by unfold nw_X2_put at ha; omega)).trans (fr a ha)
      obtain ⟨q1, q2⟩ := ab_r2 h
      exact fun a ha => (congrFun q2.symm a).trans (fr a ha)
    · obtain ⟨g10, h⟩ := ab_g h
      obtain ⟨σ11, e12, h⟩ := ab_1 h
      have fr := fun (a : Nat) (ha : nw_X2_put a) => (ab_fu e12 (show a ≠ (8 + (p1).toNat) by unfold nw_X2_put at ha; omega)).trans (fr a ha)
      obtain ⟨q1, q2⟩ := ab_r2 h
      exact fun a ha => (congrFun q2.symm a).trans (fr a ha)
/-! MoodFare$Rows.findingOfMove -/
def f_X2_findingOfMove (n : Nat) (p1 : Int) (p2 : Int) (p3 : Int) (p4 : Int) (p5 : Int) (σ : am_Mem) : Option (Int × am_Mem) :=
  am_b2 (f_X2_isMissing n p1 σ) fun r2 σ3 => if r2 = 0 then (am_b2 (f_X2_isMissing n p3 σ3) fun r6 σ7 => if r6 = 0 then (if (0 : Int) ≤ p1 ∧ p1 < 8 then if (0 : Int) ≤ p3 ∧ p3 < 8 then if σ7 5 p1 = σ7 5 p3 then (am_b2 (f_X2_spans n p1 p2 p5 σ7) fun r13 σ14 => if r13 = 0 then (some (2, σ14)) else (am_b2 (f_X2_spans n p3 p4 p5 σ14) fun r17 σ18 => if r17 = 0 then (some (2, σ18)) else (some (0, σ18)))) else (some (5, σ7)) else none else none) else (some (1, σ7))) else (some (1, σ3))
theorem t_X2_findingOfMove {L n d : Nat} {Q : am_Post} {p1 : Int} {p2 : Int} {p3 : Int} {p4 : Int} {p5 : Int} {σ σr : am_Mem} {rr : Int} (hd : 1 < d) (h : f_X2_findingOfMove n p1 p2 p3 p4 p5 σ = some (rr, σr)) (hQ : Q (some (am_i rr)) (rm_h L σr)) : xs_aw d me_X2_findingOfMove [am_r 4, am_i p1, am_i p2, am_i p3, am_i p4, am_i p5] (rm_h L σ) Q := by
  obtain ⟨d, rfl⟩ : ∃ k, d = k + 1 := ⟨d - 1, by omega⟩
  have hd : 1 ≤ d := by omega
  unfold f_X2_findingOfMove at h
  show xs_AW (xs_aw d) me_X2_findingOfMove Q 0 [some (am_r 4), some (am_i p1), some (am_i p2), some (am_i p3), some (am_i p4), some (am_i p5)] [] (rm_h L σ)
  refine rr_aload_n dX2_findingOfMove_0 rfl ?_
  refine rr_iload_n dX2_findingOfMove_1 rfl ?_
  obtain ⟨r2, σ3, e1, h⟩ := ab_2 h
  refine rr_Vi (as := [am_i p1]) (rest := []) dX2_findingOfMove_2 ml_2_23 (sh_4 L) ⟨(by decide), by decide, by decide⟩ rfl rfl rfl (Nat.le_of_ble_eq_true rfl) ⟨rfl, rfl⟩ (Nat.le_of_ble_eq_true rfl) (fun _ k => t_X2_isMissing (by omega) e1 k) ?_
  rcases ab_i h with ⟨c4, h⟩ | ⟨c4, h⟩
  · refine rr_if_ne_p (t := 16) dX2_findingOfMove_5 (by decide) c4 ?_
    refine rr_aload_n dX2_findingOfMove_8 rfl ?_
    refine rr_iload_n dX2_findingOfMove_9 rfl ?_
    obtain ⟨r6, σ7, e5, h⟩ := ab_2 h
    refine rr_Vi (as := [am_i p3]) (rest := []) dX2_findingOfMove_10 ml_2_23 (sh_4 L) ⟨(by decide), by decide, by decide⟩ rfl rfl rfl (Nat.le_of_ble_eq_true rfl) ⟨rfl, rfl⟩ (Nat.le_of_ble_eq_true rfl) (fun _ k => t_X2_isMissing (by omega) e5 k) ?_
    rcases ab_i h with ⟨c8, h⟩ | ⟨c8, h⟩
    · refine rr_if_eq_p (t := 18) dX2_findingOfMove_13 (by decide) c8 ?_
      refine rr_aload_n dX2_findingOfMove_18 rfl ?_
      refine rr_getr (t := 5) dX2_findingOfMove_19 fl_2_9 (sh_4 L) ⟨(by decide), by decide⟩ rfl rfl ?_
      refine rr_iload_n dX2_findingOfMove_22 rfl ?_
      obtain ⟨g9, h⟩ := ab_g h
      refine rr_iald (nz := 8) dX2_findingOfMove_23 (sh_5 L) rfl g9 ?_
      refine rr_aload_n dX2_findingOfMove_24 rfl ?_
      refine rr_getr (t := 5) dX2_findingOfMove_25 fl_2_9 (sh_4 L) ⟨(by decide), by decide⟩ rfl rfl ?_
      refine rr_iload_n dX2_findingOfMove_28 rfl ?_
      obtain ⟨g10, h⟩ := ab_g h
      refine rr_iald (nz := 8) dX2_findingOfMove_29 (sh_5 L) rfl g10 ?_
      rcases ab_i h with ⟨c11, h⟩ | ⟨c11, h⟩
      · refine rr_icmp_eq_p (t := 35) dX2_findingOfMove_30 (by decide) c11 ?_
        refine rr_aload_n dX2_findingOfMove_35 rfl ?_
        refine rr_iload_n dX2_findingOfMove_36 rfl ?_
        refine rr_iload_n dX2_findingOfMove_37 rfl ?_
        refine rr_iload dX2_findingOfMove_38 rfl ?_
        obtain ⟨r13, σ14, e12, h⟩ := ab_2 h
        refine rr_Vi (as := [am_i p1, am_i p2, am_i p5]) (rest := []) dX2_findingOfMove_40 ml_2_33 (sh_4 L) ⟨(by decide), by decide, by decide⟩ rfl rfl rfl (Nat.le_of_ble_eq_true rfl) ⟨rfl, rfl⟩ (Nat.le_of_ble_eq_true rfl) (fun _ k => t_X2_spans (by omega) e12 k) ?_
        rcases ab_i h with ⟨c15, h⟩ | ⟨c15, h⟩
        · refine rr_if_eq_p (t := 62) dX2_findingOfMove_43 (by decide) c15 ?_
          refine rr_iconst dX2_findingOfMove_62 (by decide) ?_
          obtain ⟨rfl, rfl⟩ := ab_r2 h
          exact rr_iret dX2_findingOfMove_63 rfl hQ
        · refine rr_if_eq_n (t := 62) dX2_findingOfMove_43 (by decide) c15 ?_
          refine rr_aload_n dX2_findingOfMove_46 rfl ?_
          refine rr_iload_n dX2_findingOfMove_47 rfl ?_
          refine rr_iload dX2_findingOfMove_48 rfl ?_
          refine rr_iload dX2_findingOfMove_50 rfl ?_
          obtain ⟨r17, σ18, e16, h⟩ := ab_2 h
          refine rr_Vi (as := [am_i p3, am_i p4, am_i p5]) (rest := []) dX2_findingOfMove_52 ml_2_33 (sh_4 L) ⟨(by decide), by decide, by decide⟩ rfl rfl rfl (Nat.le_of_ble_eq_true rfl) ⟨rfl, rfl⟩ (Nat.le_of_ble_eq_true rfl) (fun _ k => t_X2_spans (by omega) e16 k) ?_
          rcases ab_i h with ⟨c19, h⟩ | ⟨c19, h⟩
          · refine rr_if_eq_p (t := 62) dX2_findingOfMove_55 (by decide) c19 ?_
            refine rr_iconst dX2_findingOfMove_62 (by decide) ?_
            obtain ⟨rfl, rfl⟩ := ab_r2 h
            exact rr_iret dX2_findingOfMove_63 rfl hQ
          · refine rr_if_eq_n (t := 62) dX2_findingOfMove_55 (by decide) c19 ?_
            refine rr_iconst dX2_findingOfMove_58 (by decide) ?_
            refine rr_goto (t := 63) dX2_findingOfMove_59 (by decide) ?_
            obtain ⟨rfl, rfl⟩ := ab_r2 h
            exact rr_iret dX2_findingOfMove_63 rfl hQ
      · refine rr_icmp_eq_n (t := 35) dX2_findingOfMove_30 (by decide) c11 ?_
        refine rr_iconst dX2_findingOfMove_33 (by decide) ?_
        obtain ⟨rfl, rfl⟩ := ab_r2 h
        exact rr_iret dX2_findingOfMove_34 rfl hQ
    · refine rr_if_eq_n (t := 18) dX2_findingOfMove_13 (by decide) c8 ?_
      refine rr_iconst dX2_findingOfMove_16 (by decide) ?_
      obtain ⟨rfl, rfl⟩ := ab_r2 h
      exact rr_iret dX2_findingOfMove_17 rfl hQ
  · refine rr_if_ne_n (t := 16) dX2_findingOfMove_5 (by decide) c4 ?_
    refine rr_iconst dX2_findingOfMove_16 (by decide) ?_
    obtain ⟨rfl, rfl⟩ := ab_r2 h
    exact rr_iret dX2_findingOfMove_17 rfl hQ
theorem u_X2_findingOfMove {n : Nat} {p1 : Int} {p2 : Int} {p3 : Int} {p4 : Int} {p5 : Int} {σ σr : am_Mem} {rr : Int} (h : f_X2_findingOfMove n p1 p2 p3 p4 p5 σ = some (rr, σr)) : σr = σ := by
  unfold f_X2_findingOfMove at h
  have fr : σ = σ := rfl
  obtain ⟨r2, σ3, e1, h⟩ := ab_2 h
  have fr := (u_X2_isMissing e1).trans fr
  rcases ab_i h with ⟨c4, h⟩ | ⟨c4, h⟩
  · obtain ⟨r6, σ7, e5, h⟩ := ab_2 h
    have fr := (u_X2_isMissing e5).trans fr
    rcases ab_i h with ⟨c8, h⟩ | ⟨c8, h⟩
    · obtain ⟨g9, h⟩ := ab_g h
      obtain ⟨g10, h⟩ := ab_g h
      rcases ab_i h with ⟨c11, h⟩ | ⟨c11, h⟩
      · obtain ⟨r13, σ14, e12, h⟩ := ab_2 h
        have fr := (u_X2_spans e12).trans fr
        rcases ab_i h with ⟨c15, h⟩ | ⟨c15, h⟩
        · obtain ⟨q1, q2⟩ := ab_r2 h
          exact q2.symm.trans fr
        · obtain ⟨r17, σ18, e16, h⟩ := ab_2 h
          have fr := (u_X2_spans e16).trans fr
          rcases ab_i h with ⟨c19, h⟩ | ⟨c19, h⟩
          · obtain ⟨q1, q2⟩ := ab_r2 h
            exact q2.symm.trans fr
          · obtain ⟨q1, q2⟩ := ab_r2 h
            exact q2.symm.trans fr
      · obtain ⟨q1, q2⟩ := ab_r2 h
        exact q2.symm.trans fr
    · obtain ⟨q1, q2⟩ := ab_r2 h
      exact q2.symm.trans fr
  · obtain ⟨q1, q2⟩ := ab_r2 h
    exact q2.symm.trans fr
/-! MoodFare$Rows.move -/
def f_X2_move (n : Nat) (p1 : Int) (p2 : Int) (p3 : Int) (p4 : Int) (p5 : Int) (σ : am_Mem) : Option am_Mem :=
  if (0 : Int) ≤ p1 ∧ p1 < 8 then if (0 : Int) ≤ p3 ∧ p3 < 8 then if (0 : Int) ≤ p2 ∧ (0 : Int) ≤ p4 ∧ (0 : Int) ≤ p5 ∧ p2 + p5 ≤ (40 : Int) ∧ p4 + p5 ≤ (40 : Int) then am_b1 (some (am_cpy σ (8 + (p1).toNat) p2 (8 + (p3).toNat) p4 p5)) fun σ4 => some σ4 else none else none else none
theorem t_X2_move {L n d : Nat} {Q : am_Post} {p1 : Int} {p2 : Int} {p3 : Int} {p4 : Int} {p5 : Int} {σ σr : am_Mem} (hd : 0 < d) (h : f_X2_move n p1 p2 p3 p4 p5 σ = some σr) (hQ : Q none (rm_h L σr)) : xs_aw d me_X2_move [am_r 4, am_i p1, am_i p2, am_i p3, am_i p4, am_i p5] (rm_h L σ) Q := by
  obtain ⟨d, rfl⟩ : ∃ k, d = k + 1 := ⟨d - 1, by omega⟩
  have hd : 0 ≤ d := by omega
  unfold f_X2_move at h
  show xs_AW (xs_aw d) me_X2_move Q 0 [some (am_r 4), some (am_i p1), some (am_i p2), some (am_i p3), some (am_i p4), some (am_i p5)] [] (rm_h L σ)
  refine rr_aload_n dX2_move_0 rfl ?_
  refine rr_getr (t := 7) dX2_move_1 fl_2_20 (sh_4 L) ⟨(by decide), by decide⟩ rfl rfl ?_
  refine rr_iload_n dX2_move_4 rfl ?_
  obtain ⟨g1, h⟩ := ab_g h
  refine rr_aald (nz := 8) (t := (8 + (p1).toNat)) dX2_move_5 (sh_7 L) ⟨(by decide), Or.inr rfl⟩ rfl g1 (er_7 g1) ?_
  refine rr_iload_n dX2_move_6 rfl ?_
  refine rr_aload_n dX2_move_7 rfl ?_
  refine rr_getr (t := 7) dX2_move_8 fl_2_20 (sh_4 L) ⟨(by decide), by decide⟩ rfl rfl ?_
  refine rr_iload_n dX2_move_11 rfl ?_
  obtain ⟨g2, h⟩ := ab_g h
  refine rr_aald (nz := 8) (t := (8 + (p3).toNat)) dX2_move_12 (sh_7 L) ⟨(by decide), Or.inr rfl⟩ rfl g2 (er_7 g2) ?_
  refine rr_iload dX2_move_13 rfl ?_
  refine rr_iload dX2_move_15 rfl ?_
  obtain ⟨g3, h⟩ := ab_g h
  refine rr_acp (naz := 40) (nbz := 40) dX2_move_17 ml_2_27 (el_7 g1 L) (el_7 g2 L) ⟨(Nat.le_trans (by decide) (Nat.le_add_right 8 _)), (Nat.le_trans (by decide) (Nat.le_add_right 8 _))⟩ rfl rfl g3 (Nat.le_of_ble_eq_true rfl) ?_
  obtain ⟨σ4, e5, h⟩ := ab_1 h
  refine ab_m e5 ?_
  obtain rfl := ab_r1 h
  exact rr_vret dX2_move_20 rfl hQ
def nw_X2_move (a : Nat) : Prop := (a < 8 ∨ 16 ≤ a)
theorem w_X2_move {n : Nat} {p1 : Int} {p2 : Int} {p3 : Int} {p4 : Int} {p5 : Int} {σ σr : am_Mem} (h : f_X2_move n p1 p2 p3 p4 p5 σ = some σr) : ∀ a : Nat, nw_X2_move a → σr a = σ a := by
  unfold f_X2_move at h
  have fr : ∀ a : Nat, nw_X2_move a → σ a = σ a := fun _ _ => rfl
  obtain ⟨g1, h⟩ := ab_g h
  obtain ⟨g2, h⟩ := ab_g h
  obtain ⟨g3, h⟩ := ab_g h
  obtain ⟨σ4, e5, h⟩ := ab_1 h
  have fr := fun (a : Nat) (ha : nw_X2_move a) => (ab_fc e5 (show a ≠ (8 + (p3).toNat) by unfold nw_X2_move at ha; omega)).trans (fr a ha)
  have q2 := ab_r1 h
  exact fun a ha => (congrFun q2.symm a).trans (fr a ha)
/-! MoodFare$Rows.lose -/
def f_X2_lose (n : Nat) (p1 : Int) (σ : am_Mem) : Option (Int × am_Mem) :=
  if (0 : Int) ≤ p1 ∧ p1 < 8 then am_b1 (some (am_up σ 6 p1 (-1))) fun σ2 => some (σ 6 p1, σ2) else none
theorem t_X2_lose {L n d : Nat} {Q : am_Post} {p1 : Int} {σ σr : am_Mem} {rr : Int} (hd : 0 < d) (h : f_X2_lose n p1 σ = some (rr, σr)) (hQ : Q (some (am_i rr)) (rm_h L σr)) : xs_aw d me_X2_lose [am_r 4, am_i p1] (rm_h L σ) Q := by
  obtain ⟨d, rfl⟩ : ∃ k, d = k + 1 := ⟨d - 1, by omega⟩
  have hd : 0 ≤ d := by omega
  unfold f_X2_lose at h
  show xs_AW (xs_aw d) me_X2_lose Q 0 [some (am_r 4), some (am_i p1), none] [] (rm_h L σ)
  refine rr_aload_n dX2_lose_0 rfl ?_
  refine rr_getr (t := 6) dX2_lose_1 fl_2_15 (sh_4 L) ⟨(by decide), by decide⟩ rfl rfl ?_
  refine rr_iload_n dX2_lose_4 rfl ?_
  obtain ⟨g1, h⟩ := ab_g h
  refine rr_iald (nz := 8) dX2_lose_5 (sh_6 L) rfl g1 ?_
  refine rr_istore_n (ls' := [some (am_r 4), some (am_i p1), some (am_i (σ 6 p1))]) dX2_lose_6 (Nat.le_of_ble_eq_true rfl) rfl ?_
  refine rr_aload_n dX2_lose_7 rfl ?_
  refine rr_getr (t := 6) dX2_lose_8 fl_2_15 (sh_4 L) ⟨(by decide), by decide⟩ rfl rfl ?_
  refine rr_iload_n dX2_lose_11 rfl ?_
  refine rr_iconst dX2_lose_12 (by decide) ?_
  refine rr_iast (nz := 8) dX2_lose_13 (sh_6 L) (by decide) rfl g1 ?_
  obtain ⟨σ2, e3, h⟩ := ab_1 h
  refine ab_m e3 ?_
  refine rr_iload_n dX2_lose_14 rfl ?_
  obtain ⟨rfl, rfl⟩ := ab_r2 h
  exact rr_iret dX2_lose_15 rfl hQ
def nw_X2_lose (a : Nat) : Prop := a ≠ 6
theorem w_X2_lose {n : Nat} {p1 : Int} {σ σr : am_Mem} {rr : Int} (h : f_X2_lose n p1 σ = some (rr, σr)) : ∀ a : Nat, nw_X2_lose a → σr a = σ a := by
  unfold f_X2_lose at h
  have fr : ∀ a : Nat, nw_X2_lose a → σ a = σ a := fun _ _ => rfl
  obtain ⟨g1, h⟩ := ab_g h
  obtain ⟨σ2, e3, h⟩ := ab_1 h
  have fr := fun (a : Nat) (ha : nw_X2_lose a) => (ab_fu e3 (show a ≠ 6 by unfold nw_X2_lose at ha; omega)).trans (fr a ha)
  obtain ⟨q1, q2⟩ := ab_r2 h
  exact fun a ha => (congrFun q2.symm a).trans (fr a ha)
/-! MoodFare$Tape.put -/
def f_X4_put (n : Nat) (p1 : Int) (σ : am_Mem) : Option (Int × am_Mem) :=
  if (0 : Int) ≤ σ 16 1 ∧ σ 16 1 < 120 then am_b1 (some (am_up σ 17 (σ 16 1) p1)) fun σ2 => am_b1 (some (am_up σ2 16 1 (am_w ((σ2 16 1) + 1)))) fun σ4 => some (σ4 16 1, σ4) else none
theorem t_X4_put {L n d : Nat} {Q : am_Post} {p1 : Int} {σ σr : am_Mem} {rr : Int} (hd : 0 < d) (h : f_X4_put n p1 σ = some (rr, σr)) (hQ : Q (some (am_i rr)) (rm_h L σr)) : xs_aw d me_X4_put [am_r 16, am_i p1] (rm_h L σ) Q := by
  obtain ⟨d, rfl⟩ : ∃ k, d = k + 1 := ⟨d - 1, by omega⟩
  have hd : 0 ≤ d := by omega
  unfold f_X4_put at h
  show xs_AW (xs_aw d) me_X4_put Q 0 [some (am_r 16), some (am_i p1)] [] (rm_h L σ)
  refine rr_aload_n dX4_put_0 rfl ?_
  refine rr_getr (t := 17) dX4_put_1 fl_4_9 (sh_16 L) ⟨(by decide), by decide⟩ rfl rfl ?_
  refine rr_aload_n dX4_put_4 rfl ?_
  refine rr_geti (kz := 1) dX4_put_5 fl_4_15 (sh_16 L) ⟨(by decide), by decide⟩ rfl rfl ?_
  refine rr_iload_n dX4_put_8 rfl ?_
  obtain ⟨g1, h⟩ := ab_g h
  refine rr_iast (nz := 120) dX4_put_9 (sh_17 L) (by decide) rfl g1 ?_
  obtain ⟨σ2, e3, h⟩ := ab_1 h
  refine ab_m e3 ?_
  refine rr_aload_n dX4_put_10 rfl ?_
  refine rr_dup dX4_put_11 rfl ?_
  refine rr_geti (kz := 1) dX4_put_12 fl_4_15 (sh_16 L) ⟨(by decide), by decide⟩ rfl rfl ?_
  refine rr_iconst dX4_put_15 (by decide) ?_
  refine rr_iadd dX4_put_16 ?_
  obtain ⟨σ4, e5, h⟩ := ab_1 h
  refine rr_puti (kz := 1) dX4_put_17 fl_4_15 (sh_16 L) ⟨(by decide), by decide⟩ ⟨rfl, rfl⟩ rfl (ab_m e5 ?_)
  refine rr_aload_n dX4_put_20 rfl ?_
  refine rr_geti (kz := 1) dX4_put_21 fl_4_15 (sh_16 L) ⟨(by decide), by decide⟩ rfl rfl ?_
  obtain ⟨rfl, rfl⟩ := ab_r2 h
  exact rr_iret dX4_put_24 rfl hQ
def nw_X4_put (a : Nat) : Prop := a ≠ 16 ∧ a ≠ 17
theorem w_X4_put {n : Nat} {p1 : Int} {σ σr : am_Mem} {rr : Int} (h : f_X4_put n p1 σ = some (rr, σr)) : ∀ a : Nat, nw_X4_put a → σr a = σ a := by
  unfold f_X4_put at h
  have fr : ∀ a : Nat, nw_X4_put a → σ a = σ a := fun _ _ => rfl
  obtain ⟨g1, h⟩ := ab_g h
  obtain ⟨σ2, e3, h⟩ := ab_1 h
  have fr := fun (a : Nat) (ha : nw_X4_put a) => (ab_fu e3 (show a ≠ 17 by unfold nw_X4_put at ha; omega)).trans (fr a ha)
  obtain ⟨σ4, e5, h⟩ := ab_1 h
  have fr := fun (a : Nat) (ha : nw_X4_put a) => (ab_fu e5 (show a ≠ 16 by unfold nw_X4_put at ha; omega)).trans (fr a ha)
  obtain ⟨q1, q2⟩ := ab_r2 h
  exact fun a ha => (congrFun q2.symm a).trans (fr a ha)
/-! MoodFare$Acts.forget -/
def f_X0_forget (n : Nat) (σ : am_Mem) : Option am_Mem :=
  am_b1 (some (am_up σ 43 1 0)) fun σ1 => am_b1 (some (am_up σ1 43 2 0)) fun σ3 => some σ3
theorem t_X0_forget {L n d : Nat} {Q : am_Post} {σ σr : am_Mem} (hd : 0 < d) (h : f_X0_forget n σ = some σr) (hQ : Q none (rm_h L σr)) : xs_aw d me_X0_forget [am_r 43] (rm_h L σ) Q := by
  obtain ⟨d, rfl⟩ : ∃ k, d = k + 1 := ⟨d - 1, by omega⟩
  have hd : 0 ≤ d := by omega
  unfold f_X0_forget at h
  show xs_AW (xs_aw d) me_X0_forget Q 0 [some (am_r 43)] [] (rm_h L σ)
  refine rr_aload_n dX0_forget_0 rfl ?_
  refine rr_iconst dX0_forget_1 (by decide) ?_
  obtain ⟨σ1, e2, h⟩ := ab_1 h
  refine rr_puti (kz := 1) dX0_forget_2 fl_0_16 (sh_43 L) ⟨(by decide), by decide⟩ ⟨rfl, rfl⟩ rfl (ab_m e2 ?_)
  refine rr_aload_n dX0_forget_5 rfl ?_
  refine rr_iconst dX0_forget_6 (by decide) ?_
  obtain ⟨σ3, e4, h⟩ := ab_1 h
  refine rr_puti (kz := 2) dX0_forget_7 fl_0_20 (sh_43 L) ⟨(by decide), by decide⟩ ⟨rfl, rfl⟩ rfl (ab_m e4 ?_)
  obtain rfl := ab_r1 h
  exact rr_vret dX0_forget_10 rfl hQ
def nw_X0_forget (a : Nat) : Prop := a ≠ 43
theorem w_X0_forget {n : Nat} {σ σr : am_Mem} (h : f_X0_forget n σ = some σr) : ∀ a : Nat, nw_X0_forget a → σr a = σ a := by
  unfold f_X0_forget at h
  have fr : ∀ a : Nat, nw_X0_forget a → σ a = σ a := fun _ _ => rfl
  obtain ⟨σ1, e2, h⟩ := ab_1 h
  have fr := fun (a : Nat) (ha : nw_X0_forget a) => (ab_fu e2 (show a ≠ 43 by unfold nw_X0_forget at ha; omega)).trans (fr a ha)
  obtain ⟨σ3, e4, h⟩ := ab_1 h
  have fr := fun (a : Nat) (ha : nw_X0_forget a) => (ab_fu e4 (show a ≠ 43 by unfold nw_X0_forget at ha; omega)).trans (fr a ha)
  have q2 := ab_r1 h
  exact fun a ha => (congrFun q2.symm a).trans (fr a ha)
/-! MoodFare$Tape.failsAt -/
def f_X4_failsAt (n : Nat) (p1 : Int) (p2 : Int) (σ : am_Mem) : Option (Int × am_Mem) :=
  am_b1 (some (am_up σ 16 3 p1)) fun σ1 => am_b1 (some (am_up σ1 16 2 p2)) fun σ3 => some (0, σ3)
theorem t_X4_failsAt {L n d : Nat} {Q : am_Post} {p1 : Int} {p2 : Int} {σ σr : am_Mem} {rr : Int} (hd : 0 < d) (h : f_X4_failsAt n p1 p2 σ = some (rr, σr)) (hQ : Q (some (am_i rr)) (rm_h L σr)) : xs_aw d me_X4_failsAt [am_r 16, am_i p1, am_i p2] (rm_h L σ) Q := by
  obtain ⟨d, rfl⟩ : ∃ k, d = k + 1 := ⟨d - 1, by omega⟩
  have hd : 0 ≤ d := by omega
  unfold f_X4_failsAt at h
  show xs_AW (xs_aw d) me_X4_failsAt Q 0 [some (am_r 16), some (am_i p1), some (am_i p2)] [] (rm_h L σ)
  refine rr_aload_n dX4_failsAt_0 rfl ?_
  refine rr_iload_n dX4_failsAt_1 rfl ?_
  obtain ⟨σ1, e2, h⟩ := ab_1 h
  refine rr_puti (kz := 3) dX4_failsAt_2 fl_4_95 (sh_16 L) ⟨(by decide), by decide⟩ ⟨rfl, rfl⟩ rfl (ab_m e2 ?_)
  refine rr_aload_n dX4_failsAt_5 rfl ?_
  refine rr_iload_n dX4_failsAt_6 rfl ?_
  obtain ⟨σ3, e4, h⟩ := ab_1 h
  refine rr_puti (kz := 2) dX4_failsAt_7 fl_4_98 (sh_16 L) ⟨(by decide), by decide⟩ ⟨rfl, rfl⟩ rfl (ab_m e4 ?_)
  refine rr_iconst dX4_failsAt_10 (by decide) ?_
  obtain ⟨rfl, rfl⟩ := ab_r2 h
  exact rr_zret dX4_failsAt_11 rfl (Or.inl rfl) hQ
def nw_X4_failsAt (a : Nat) : Prop := a ≠ 16
theorem w_X4_failsAt {n : Nat} {p1 : Int} {p2 : Int} {σ σr : am_Mem} {rr : Int} (h : f_X4_failsAt n p1 p2 σ = some (rr, σr)) : ∀ a : Nat, nw_X4_failsAt a → σr a = σ a := by
  unfold f_X4_failsAt at h
  have fr : ∀ a : Nat, nw_X4_failsAt a → σ a = σ a := fun _ _ => rfl
  obtain ⟨σ1, e2, h⟩ := ab_1 h
  have fr := fun (a : Nat) (ha : nw_X4_failsAt a) => (ab_fu e2 (show a ≠ 16 by unfold nw_X4_failsAt at ha; omega)).trans (fr a ha)
  obtain ⟨σ3, e4, h⟩ := ab_1 h
  have fr := fun (a : Nat) (ha : nw_X4_failsAt a) => (ab_fu e4 (show a ≠ 16 by unfold nw_X4_failsAt at ha; omega)).trans (fr a ha)
  obtain ⟨q1, q2⟩ := ab_r2 h
  exact fun a ha => (congrFun q2.symm a).trans (fr a ha)
/-! MoodFare$Tape.kindOf -/
def f_X4_kindOf (n : Nat) (p0 : Int) (σ : am_Mem) : Option (Int × am_Mem) :=
  if p0 = 103 then (some (4, σ)) else (if p0 = 104 then (some (3, σ)) else (if p0 = 105 then (some (0, σ)) else (if p0 = 106 then (some (1, σ)) else (if p0 = 107 then (some (0, σ)) else (if p0 = 108 then (some (2, σ)) else (if p0 = 109 then (some (0, σ)) else (if p0 = 110 then (some (0, σ)) else (if p0 = 111 then (some (0, σ)) else (if p0 = 112 then (some (0, σ)) else (if p0 = 113 then (some (0, σ)) else (if p0 = 114 then (some (5, σ)) else (some (0, σ)))))))))))))
theorem t_X4_kindOf {L n d : Nat} {Q : am_Post} {p0 : Int} {σ σr : am_Mem} {rr : Int} (hd : 0 < d) (h : f_X4_kindOf n p0 σ = some (rr, σr)) (hQ : Q (some (am_i rr)) (rm_h L σr)) : xs_aw d me_X4_kindOf [am_i p0] (rm_h L σ) Q := by
  obtain ⟨d, rfl⟩ : ∃ k, d = k + 1 := ⟨d - 1, by omega⟩
  have hd : 0 ≤ d := by omega
  unfold f_X4_kindOf at h
  show xs_AW (xs_aw d) me_X4_kindOf Q 0 [some (am_i p0)] [] (rm_h L σ)
  refine rr_iload_n dX4_kindOf_0 rfl ?_
  rcases ab_i h with ⟨c1, h⟩ | ⟨c1, h⟩
  · refine rr_tsw_in (off := 69) (t := 70) dX4_kindOf_1 (by omega) (by rw [c1]; rfl) (by decide) ?_
    refine rr_iconst dX4_kindOf_70 (by decide) ?_
    obtain ⟨rfl, rfl⟩ := ab_r2 h
    exact rr_iret dX4_kindOf_71 rfl hQ
  rcases ab_i h with ⟨c2, h⟩ | ⟨c2, h⟩
  · refine rr_tsw_in (off := 67) (t := 68) dX4_kindOf_1 (by omega) (by rw [c2]; rfl) (by decide) ?_
    refine rr_iconst dX4_kindOf_68 (by decide) ?_
    obtain ⟨rfl, rfl⟩ := ab_r2 h
    exact rr_iret dX4_kindOf_69 rfl hQ
  rcases ab_i h with ⟨c3, h⟩ | ⟨c3, h⟩
  · refine rr_tsw_in (off := 73) (t := 74) dX4_kindOf_1 (by omega) (by rw [c3]; rfl) (by decide) ?_
    refine rr_iconst dX4_kindOf_74 (by decide) ?_
    obtain ⟨rfl, rfl⟩ := ab_r2 h
    exact rr_iret dX4_kindOf_75 rfl hQ
  rcases ab_i h with ⟨c4, h⟩ | ⟨c4, h⟩
  · refine rr_tsw_in (off := 63) (t := 64) dX4_kindOf_1 (by omega) (by rw [c4]; rfl) (by decide) ?_
    refine rr_iconst dX4_kindOf_64 (by decide) ?_
    obtain ⟨rfl, rfl⟩ := ab_r2 h
    exact rr_iret dX4_kindOf_65 rfl hQ
  rcases ab_i h with ⟨c5, h⟩ | ⟨c5, h⟩
  · refine rr_tsw_in (off := 73) (t := 74) dX4_kindOf_1 (by omega) (by rw [c5]; rfl) (by decide) ?_
    refine rr_iconst dX4_kindOf_74 (by decide) ?_
    obtain ⟨rfl, rfl⟩ := ab_r2 h
    exact rr_iret dX4_kindOf_75 rfl hQ
  rcases ab_i h with ⟨c6, h⟩ | ⟨c6, h⟩
  · refine rr_tsw_in (off := 65) (t := 66) dX4_kindOf_1 (by omega) (by rw [c6]; rfl) (by decide) ?_
    refine rr_iconst dX4_kindOf_66 (by decide) ?_
    obtain ⟨rfl, rfl⟩ := ab_r2 h
    exact rr_iret dX4_kindOf_67 rfl hQ
  rcases ab_i h with ⟨c7, h⟩ | ⟨c7, h⟩
  · refine rr_tsw_in (off := 73) (t := 74) dX4_kindOf_1 (by omega) (by rw [c7]; rfl) (by decide) ?_
    refine rr_iconst dX4_kindOf_74 (by decide) ?_
    obtain ⟨rfl, rfl⟩ := ab_r2 h
    exact rr_iret dX4_kindOf_75 rfl hQ
  rcases ab_i h with ⟨c8, h⟩ | ⟨c8, h⟩
  · refine rr_tsw_in (off := 73) (t := 74) dX4_kindOf_1 (by omega) (by rw [c8]; rfl) (by decide) ?_
    refine rr_iconst dX4_kindOf_74 (by decide) ?_
    obtain ⟨rfl, rfl⟩ := ab_r2 h
    exact rr_iret dX4_kindOf_75 rfl hQ
  rcases ab_i h with ⟨c9, h⟩ | ⟨c9, h⟩
  · refine rr_tsw_in (off := 73) (t := 74) dX4_kindOf_1 (by omega) (by rw [c9]; rfl) (by decide) ?_
    refine rr_iconst dX4_kindOf_74 (by decide) ?_
    obtain ⟨rfl, rfl⟩ := ab_r2 h
    exact rr_iret dX4_kindOf_75 rfl hQ
  rcases ab_i h with ⟨c10, h⟩ | ⟨c10, h⟩
  · refine rr_tsw_in (off := 73) (t := 74) dX4_kindOf_1 (by omega) (by rw [c10]; rfl) (by decide) ?_
    refine rr_iconst dX4_kindOf_74 (by decide) ?_
    obtain ⟨rfl, rfl⟩ := ab_r2 h
    exact rr_iret dX4_kindOf_75 rfl hQ
  rcases ab_i h with ⟨c11, h⟩ | ⟨c11, h⟩
  · refine rr_tsw_in (off := 73) (t := 74) dX4_kindOf_1 (by omega) (by rw [c11]; rfl) (by decide) ?_
    refine rr_iconst dX4_kindOf_74 (by decide) ?_
    obtain ⟨rfl, rfl⟩ := ab_r2 h
    exact rr_iret dX4_kindOf_75 rfl hQ
  rcases ab_i h with ⟨c12, h⟩ | ⟨c12, h⟩
  · refine rr_tsw_in (off := 71) (t := 72) dX4_kindOf_1 (by omega) (by rw [c12]; rfl) (by decide) ?_
    refine rr_iconst dX4_kindOf_72 (by decide) ?_
    obtain ⟨rfl, rfl⟩ := ab_r2 h
    exact rr_iret dX4_kindOf_73 rfl hQ
  refine rr_tsw_out (t := 74) dX4_kindOf_1 (by omega) (by decide) ?_
  refine rr_iconst dX4_kindOf_74 (by decide) ?_
  obtain ⟨rfl, rfl⟩ := ab_r2 h
  exact rr_iret dX4_kindOf_75 rfl hQ
theorem u_X4_kindOf {n : Nat} {p0 : Int} {σ σr : am_Mem} {rr : Int} (h : f_X4_kindOf n p0 σ = some (rr, σr)) : σr = σ := by
  unfold f_X4_kindOf at h
  have fr : σ = σ := rfl
  rcases ab_i h with ⟨c1, h⟩ | ⟨c1, h⟩
  · obtain ⟨q1, q2⟩ := ab_r2 h
    exact q2.symm.trans fr
  rcases ab_i h with ⟨c2, h⟩ | ⟨c2, h⟩
  · obtain ⟨q1, q2⟩ := ab_r2 h
    exact q2.symm.trans fr
  rcases ab_i h with ⟨c3, h⟩ | ⟨c3, h⟩
  · obtain ⟨q1, q2⟩ := ab_r2 h
    exact q2.symm.trans fr
  rcases ab_i h with ⟨c4, h⟩ | ⟨c4, h⟩
  · obtain ⟨q1, q2⟩ := ab_r2 h
    exact q2.symm.trans fr
  rcases ab_i h with ⟨c5, h⟩ | ⟨c5, h⟩
  · obtain ⟨q1, q2⟩ := ab_r2 h
    exact q2.symm.trans fr
  rcases ab_i h with ⟨c6, h⟩ | ⟨c6, h⟩
  · obtain ⟨q1, q2⟩ := ab_r2 h
    exact q2.symm.trans fr
  rcases ab_i h with ⟨c7, h⟩ | ⟨c7, h⟩
  · obtain ⟨q1, q2⟩ := ab_r2 h
    exact q2.symm.trans fr
  rcases ab_i h with ⟨c8, h⟩ | ⟨c8, h⟩
  · obtain ⟨q1, q2⟩ := ab_r2 h
    exact q2.symm.trans fr
  rcases ab_i h with ⟨c9, h⟩ | ⟨c9, h⟩
  · obtain ⟨q1, q2⟩ := ab_r2 h
    exact q2.symm.trans fr
  rcases ab_i h with ⟨c10, h⟩ | ⟨c10, h⟩
  · obtain ⟨q1, q2⟩ := ab_r2 h
    exact q2.symm.trans fr
  rcases ab_i h with ⟨c11, h⟩ | ⟨c11, h⟩
  · obtain ⟨q1, q2⟩ := ab_r2 h
    exact q2.symm.trans fr
  rcases ab_i h with ⟨c12, h⟩ | ⟨c12, h⟩
  · obtain ⟨q1, q2⟩ := ab_r2 h
    exact q2.symm.trans fr
  obtain ⟨q1, q2⟩ := ab_r2 h
  exact q2.symm.trans fr
/-! MoodFare$Tape.letterHere -/
def f_X4_letterHere (n : Nat) (σ : am_Mem) : Option (Int × am_Mem) :=
  if σ 16 4 < σ 16 1 then (if (0 : Int) ≤ σ 16 4 ∧ σ 16 4 < 120 then some (σ 17 (σ 16 4), σ) else none) else (some ((-1), σ))
theorem t_X4_letterHere {L n d : Nat} {Q : am_Post} {σ σr : am_Mem} {rr : Int} (hd : 0 < d) (h : f_X4_letterHere n σ = some (rr, σr)) (hQ : Q (some (am_i rr)) (rm_h L σr)) : xs_aw d me_X4_letterHere [am_r 16] (rm_h L σ) Q := by
  obtain ⟨d, rfl⟩ : ∃ k, d = k + 1 := ⟨d - 1, by omega⟩
  have hd : 0 ≤ d := by omega
  unfold f_X4_letterHere at h
  show xs_AW (xs_aw d) me_X4_letterHere Q 0 [some (am_r 16)] [] (rm_h L σ)
  refine rr_aload_n dX4_letterHere_0 rfl ?_
  refine rr_geti (kz := 4) dX4_letterHere_1 fl_4_24 (sh_16 L) ⟨(by decide), by decide⟩ rfl rfl ?_
  refine rr_aload_n dX4_letterHere_4 rfl ?_
  refine rr_geti (kz := 1) dX4_letterHere_5 fl_4_15 (sh_16 L) ⟨(by decide), by decide⟩ rfl rfl ?_
  rcases ab_i h with ⟨c1, h⟩ | ⟨c1, h⟩
  · refine rr_icmp_ge_p (t := 23) dX4_letterHere_8 (by decide) c1 ?_
    refine rr_aload_n dX4_letterHere_11 rfl ?_
    refine rr_getr (t := 17) dX4_letterHere_12 fl_4_9 (sh_16 L) ⟨(by decide), by decide⟩ rfl rfl ?_
    refine rr_aload_n dX4_letterHere_15 rfl ?_
    refine rr_geti (kz := 4) dX4_letterHere_16 fl_4_24 (sh_16 L) ⟨(by decide), by decide⟩ rfl rfl ?_
    obtain ⟨g2, h⟩ := ab_g h
    refine rr_iald (nz := 120) dX4_letterHere_19 (sh_17 L) rfl g2 ?_
    refine rr_goto (t := 24) dX4_letterHere_20 (by decide) ?_
    obtain ⟨rfl, rfl⟩ := ab_r2 h
    exact rr_iret dX4_letterHere_24 rfl hQ
  · refine rr_icmp_ge_n (t := 23) dX4_letterHere_8 (by decide) c1 ?_
    refine rr_iconst dX4_letterHere_23 (by decide) ?_
    obtain ⟨rfl, rfl⟩ := ab_r2 h
    exact rr_iret dX4_letterHere_24 rfl hQ
theorem u_X4_letterHere {n : Nat} {σ σr : am_Mem} {rr : Int} (h : f_X4_letterHere n σ = some (rr, σr)) : σr = σ := by
  unfold f_X4_letterHere at h
  have fr : σ = σ := rfl
  rcases ab_i h with ⟨c1, h⟩ | ⟨c1, h⟩
  · obtain ⟨g2, h⟩ := ab_g h
    obtain ⟨q1, q2⟩ := ab_r2 h
    exact q2.symm.trans fr
  · obtain ⟨q1, q2⟩ := ab_r2 h
    exact q2.symm.trans fr
/-! MoodFare$Tape.numberWithin -/
def fb_X4_numberWithin_113 (n : Nat) (x5 : Int) (σ : am_Mem) : Option (Int × am_Mem) :=
  if x5 = 0 then (am_b2 (f_X4_failsAt n (σ 16 4) 1 σ) fun r8 σ9 => some ((-1), σ9)) else (am_b2 (f_X4_failsAt n (σ 16 4) 2 σ) fun r11 σ12 => some ((-1), σ12))
def fb_X4_numberWithin_71 (n : Nat) (x1 : Int) (x2 : Int) (x3 : Int) (x4 : Int) (σ : am_Mem) : Option (Int × am_Mem) :=
  if x3 ≤ σ 16 4 then (fb_X4_numberWithin_113 n 0 σ) else (if x3 < am_w ((σ 16 4) + 3) then (if x4 < x1 then (fb_X4_numberWithin_113 n 1 σ) else (if x4 ≤ x2 then (am_b1 (some (am_up σ 16 4 x3)) fun σ16 => some (x4, σ16)) else (fb_X4_numberWithin_113 n 1 σ))) else (fb_X4_numberWithin_113 n 0 σ))
def fb_X4_numberWithin_8 (n : Nat) (kh8 : Int → Int → Int → Int → am_Mem → Option (Int × am_Mem)) (x1 : Int) (x2 : Int) (x3 : Int) (x4 : Int) (σ : am_Mem) : Option (Int × am_Mem) :=
  if x3 < σ 16 1 then (if x3 < am_w ((σ 16 4) + 3) then (if (0 : Int) ≤ x3 ∧ x3 < 120 then if σ 17 x3 < 48 then (fb_X4_numberWithin_71 n x1 x2 x3 x4 σ) else (if σ 17 x3 ≤ 57 then (kh8 x1 x2 (am_w (x3 + 1)) (am_w ((am_w ((am_w (x4 * 10)) + (σ 17 x3))) - 48)) σ) else (fb_X4_numberWithin_71 n x1 x2 x3 x4 σ)) else none) else (fb_X4_numberWithin_71 n x1 x2 x3 x4 σ)) else (fb_X4_numberWithin_71 n x1 x2 x3 x4 σ)
def fl_X4_numberWithin_8 (n : Nat) : Nat → Int → Int → Int → Int → am_Mem → Option (Int × am_Mem)
  | 0, _, _, _, _, _ => none
  | m + 1, x1, x2, x3, x4, σ => fb_X4_numberWithin_8 n (fun yx1 yx2 yx3 yx4 σ => fl_X4_numberWithin_8 n m yx1 yx2 yx3 yx4 σ) x1 x2 x3 x4 σ
def f_X4_numberWithin (n : Nat) (p1 : Int) (p2 : Int) (σ : am_Mem) : Option (Int × am_Mem) :=
  fl_X4_numberWithin_8 n n p1 p2 (σ 16 4) 0 σ
theorem tb_X4_numberWithin_113 {L n d : Nat} {Q : am_Post} {x5 : Int} {o1 : Int} {o2 : Int} {o3 : Int} {o4 : Int} {σ σr : am_Mem} {rr : Int} (hd : 1 ≤ d) (hQ : Q (some (am_i rr)) (rm_h L σr)) (h : fb_X4_numberWithin_113 n x5 σ = some (rr, σr)) : xs_AW (xs_aw d) me_X4_numberWithin Q 113 [some (am_r 16), some (am_i o1), some (am_i o2), some (am_i o3), some (am_i o4), some (am_i x5)] [] (rm_h L σ) := by
  unfold fb_X4_numberWithin_113 at h
  refine rr_aload_n dX4_numberWithin_113 rfl ?_
  refine rr_aload_n dX4_numberWithin_114 rfl ?_
  refine rr_geti (kz := 4) dX4_numberWithin_115 fl_4_24 (sh_16 L) ⟨(by decide), by decide⟩ rfl rfl ?_
  refine rr_iload dX4_numberWithin_118 rfl ?_
  rcases ab_i h with ⟨c6, h⟩ | ⟨c6, h⟩
  · refine rr_if_eq_p (t := 127) dX4_numberWithin_120 (by decide) c6 ?_
    refine rr_iconst dX4_numberWithin_127 (by decide) ?_
    obtain ⟨r8, σ9, e7, h⟩ := ab_2 h
    refine rr_Vi (as := [am_i (σ 16 4), am_i 1]) (rest := []) dX4_numberWithin_128 ml_4_65 (sh_16 L) ⟨(by decide), by decide, by decide⟩ rfl rfl rfl (Nat.le_of_ble_eq_true rfl) ⟨rfl, rfl⟩ (Nat.le_of_ble_eq_true rfl) (fun _ k => t_X4_failsAt (by omega) e7 k) ?_
    refine rr_pop dX4_numberWithin_131 rfl ?_
    refine rr_iconst dX4_numberWithin_132 (by decide) ?_
    obtain ⟨rfl, rfl⟩ := ab_r2 h
    exact rr_iret dX4_numberWithin_133 rfl hQ
  · refine rr_if_eq_n (t := 127) dX4_numberWithin_120 (by decide) c6 ?_
    refine rr_iconst dX4_numberWithin_123 (by decide) ?_
    refine rr_goto (t := 128) dX4_numberWithin_124 (by decide) ?_
    obtain ⟨r11, σ12, e10, h⟩ := ab_2 h
    refine rr_Vi (as := [am_i (σ 16 4), am_i 2]) (rest := []) dX4_numberWithin_128 ml_4_65 (sh_16 L) ⟨(by decide), by decide, by decide⟩ rfl rfl rfl (Nat.le_of_ble_eq_true rfl) ⟨rfl, rfl⟩ (Nat.le_of_ble_eq_true rfl) (fun _ k => t_X4_failsAt (by omega) e10 k) ?_
    refine rr_pop dX4_numberWithin_131 rfl ?_
    refine rr_iconst dX4_numberWithin_132 (by decide) ?_
    obtain ⟨rfl, rfl⟩ := ab_r2 h
    exact rr_iret dX4_numberWithin_133 rfl hQ
theorem tb_X4_numberWithin_71 {L n d : Nat} {Q : am_Post} {x1 : Int} {x2 : Int} {x3 : Int} {x4 : Int} {o5 : Option am_V} {σ σr : am_Mem} {rr : Int} (hd : 1 ≤ d) (hQ : Q (some (am_i rr)) (rm_h L σr)) (h : fb_X4_numberWithin_71 n x1 x2 x3 x4 σ = some (rr, σr)) : xs_AW (xs_aw d) me_X4_numberWithin Q 71 [some (am_r 16), some (am_i x1), some (am_i x2), some (am_i x3), some (am_i x4), o5] [] (rm_h L σ) := by
  unfold fb_X4_numberWithin_71 at h
  refine rr_iload_n dX4_numberWithin_71 rfl ?_
  refine rr_aload_n dX4_numberWithin_72 rfl ?_
  refine rr_geti (kz := 4) dX4_numberWithin_73 fl_4_24 (sh_16 L) ⟨(by decide), by decide⟩ rfl rfl ?_
  rcases ab_i h with ⟨c5, h⟩ | ⟨c5, h⟩
  · refine rr_icmp_le_p (t := 93) dX4_numberWithin_76 (by decide) c5 ?_
    refine rr_iconst dX4_numberWithin_93 (by decide) ?_
    refine rr_istore (ls' := [some (am_r 16), some (am_i x1), some (am_i x2), some (am_i x3), some (am_i x4), some (am_i 0)]) dX4_numberWithin_94 (Nat.le_of_ble_eq_true rfl) rfl ?_
    refine rr_iload dX4_numberWithin_96 rfl ?_
    refine rr_if_eq_p (t := 113) dX4_numberWithin_98 (by decide) (by decide) ?_
    exact tb_X4_numberWithin_113 hd hQ h
  · refine rr_icmp_le_n (t := 93) dX4_numberWithin_76 (by decide) c5 ?_
    refine rr_iload_n dX4_numberWithin_79 rfl ?_
    refine rr_aload_n dX4_numberWithin_80 rfl ?_
    refine rr_geti (kz := 4) dX4_numberWithin_81 fl_4_24 (sh_16 L) ⟨(by decide), by decide⟩ rfl rfl ?_
    refine rr_iconst dX4_numberWithin_84 (by decide) ?_
    refine rr_iadd dX4_numberWithin_85 ?_
    rcases ab_i h with ⟨c13, h⟩ | ⟨c13, h⟩
    · refine rr_icmp_ge_p (t := 93) dX4_numberWithin_86 (by decide) c13 ?_
      refine rr_iconst dX4_numberWithin_89 (by decide) ?_
      refine rr_goto (t := 94) dX4_numberWithin_90 (by decide) ?_
      refine rr_istore (ls' := [some (am_r 16), some (am_i x1), some (am_i x2), some (am_i x3), some (am_i x4), some (am_i 1)]) dX4_numberWithin_94 (Nat.le_of_ble_eq_true rfl) rfl ?_
      refine rr_iload dX4_numberWithin_96 rfl ?_
      refine rr_if_eq_n (t := 113) dX4_numberWithin_98 (by decide) (by decide) ?_
      refine rr_iload dX4_numberWithin_101 rfl ?_
      refine rr_iload_n dX4_numberWithin_103 rfl ?_
      rcases ab_i h with ⟨c14, h⟩ | ⟨c14, h⟩
      · refine rr_icmp_lt_p (t := 113) dX4_numberWithin_104 (by decide) c14 ?_
        exact tb_X4_numberWithin_113 hd hQ h
      · refine rr_icmp_lt_n (t := 113) dX4_numberWithin_104 (by decide) c14 ?_
        refine rr_iload dX4_numberWithin_107 rfl ?_
        refine rr_iload_n dX4_numberWithin_109 rfl ?_
        rcases ab_i h with ⟨c15, h⟩ | ⟨c15, h⟩
        · refine rr_icmp_le_p (t := 134) dX4_numberWithin_110 (by decide) c15 ?_
          refine rr_aload_n dX4_numberWithin_134 rfl ?_
          refine rr_iload_n dX4_numberWithin_135 rfl ?_
          obtain ⟨σ16, e17, h⟩ := ab_1 h
          refine rr_puti (kz := 4) dX4_numberWithin_136 fl_4_24 (sh_16 L) ⟨(by decide), by decide⟩ ⟨rfl, rfl⟩ rfl (ab_m e17 ?_)
          refine rr_iload dX4_numberWithin_139 rfl ?_
          obtain ⟨rfl, rfl⟩ := ab_r2 h
          exact rr_iret dX4_numberWithin_141 rfl hQ
        · refine rr_icmp_le_n (t := 134) dX4_numberWithin_110 (by decide) c15 ?_
          exact tb_X4_numberWithin_113 hd hQ h
    · refine rr_icmp_ge_n (t := 93) dX4_numberWithin_86 (by decide) c13 ?_
      refine rr_iconst dX4_numberWithin_93 (by decide) ?_
      refine rr_istore (ls' := [some (am_r 16), some (am_i x1), some (am_i x2), some (am_i x3), some (am_i x4), some (am_i 0)]) dX4_numberWithin_94 (Nat.le_of_ble_eq_true rfl) rfl ?_
      refine rr_iload dX4_numberWithin_96 rfl ?_
      refine rr_if_eq_p (t := 113) dX4_numberWithin_98 (by decide) (by decide) ?_
      exact tb_X4_numberWithin_113 hd hQ h
theorem tb_X4_numberWithin_8 {L n d : Nat} {Q : am_Post} {kh8 : Int → Int → Int → Int → am_Mem → Option (Int × am_Mem)} {x1 : Int} {x2 : Int} {x3 : Int} {x4 : Int} {o5 : Option am_V} {σ σr : am_Mem} {rr : Int} (hd : 1 ≤ d) (hk8 : ∀ (y1 : Int) (y2 : Int) (y3 : Int) (y4 : Int) (σ : am_Mem), kh8 y1 y2 y3 y4 σ = some (rr, σr) → ∀ (o5 : Option am_V), xs_AW (xs_aw d) me_X4_numberWithin Q 8 [some (am_r 16), some (am_i y1), some (am_i y2), some (am_i y3), some (am_i y4), o5] [] (rm_h L σ)) (hQ : Q (some (am_i rr)) (rm_h L σr)) (h : fb_X4_numberWithin_8 n kh8 x1 x2 x3 x4 σ = some (rr, σr)) : xs_AW (xs_aw d) me_X4_numberWithin Q 8 [some (am_r 16), some (am_i x1), some (am_i x2), some (am_i x3), some (am_i x4), o5] [] (rm_h L σ) := by
  unfold fb_X4_numberWithin_8 at h
  refine rr_iload_n dX4_numberWithin_8 rfl ?_
  refine rr_aload_n dX4_numberWithin_9 rfl ?_
  refine rr_geti (kz := 1) dX4_numberWithin_10 fl_4_15 (sh_16 L) ⟨(by decide), by decide⟩ rfl rfl ?_
  rcases ab_i h with ⟨c1, h⟩ | ⟨c1, h⟩
  · refine rr_icmp_ge_p (t := 71) dX4_numberWithin_13 (by decide) c1 ?_
    refine rr_iload_n dX4_numberWithin_16 rfl ?_
    refine rr_aload_n dX4_numberWithin_17 rfl ?_
    refine rr_geti (kz := 4) dX4_numberWithin_18 fl_4_24 (sh_16 L) ⟨(by decide), by decide⟩ rfl rfl ?_
    refine rr_iconst dX4_numberWithin_21 (by decide) ?_
    refine rr_iadd dX4_numberWithin_22 ?_
    rcases ab_i h with ⟨c2, h⟩ | ⟨c2, h⟩
    · refine rr_icmp_ge_p (t := 71) dX4_numberWithin_23 (by decide) c2 ?_
      refine rr_aload_n dX4_numberWithin_26 rfl ?_
      refine rr_getr (t := 17) dX4_numberWithin_27 fl_4_9 (sh_16 L) ⟨(by decide), by decide⟩ rfl rfl ?_
      refine rr_iload_n dX4_numberWithin_30 rfl ?_
      obtain ⟨g3, h⟩ := ab_g h
      refine rr_iald (nz := 120) dX4_numberWithin_31 (sh_17 L) rfl g3 ?_
      refine rr_bipush dX4_numberWithin_32 (by decide) ?_
      rcases ab_i h with ⟨c4, h⟩ | ⟨c4, h⟩
      · refine rr_icmp_lt_p (t := 71) dX4_numberWithin_34 (by decide) c4 ?_
        exact tb_X4_numberWithin_71 hd hQ h
      · refine rr_icmp_lt_n (t := 71) dX4_numberWithin_34 (by decide) c4 ?_
        refine rr_aload_n dX4_numberWithin_37 rfl ?_
        refine rr_getr (t := 17) dX4_numberWithin_38 fl_4_9 (sh_16 L) ⟨(by decide), by decide⟩ rfl rfl ?_
        refine rr_iload_n dX4_numberWithin_41 rfl ?_
        refine rr_iald (nz := 120) dX4_numberWithin_42 (sh_17 L) rfl g3 ?_
        refine rr_bipush dX4_numberWithin_43 (by decide) ?_
        rcases ab_i h with ⟨c18, h⟩ | ⟨c18, h⟩
        · refine rr_icmp_gt_p (t := 71) dX4_numberWithin_45 (by decide) c18 ?_
          refine rr_iload dX4_numberWithin_48 rfl ?_
          refine rr_bipush dX4_numberWithin_50 (by decide) ?_
          refine rr_imul dX4_numberWithin_52 ?_
          refine rr_aload_n dX4_numberWithin_53 rfl ?_
          refine rr_getr (t := 17) dX4_numberWithin_54 fl_4_9 (sh_16 L) ⟨(by decide), by decide⟩ rfl rfl ?_
          refine rr_iload_n dX4_numberWithin_57 rfl ?_
          refine rr_iald (nz := 120) dX4_numberWithin_58 (sh_17 L) rfl g3 ?_
          refine rr_iadd dX4_numberWithin_59 ?_
          refine rr_bipush dX4_numberWithin_60 (by decide) ?_
          refine rr_isub dX4_numberWithin_62 ?_
          refine rr_istore (ls' := [some (am_r 16), some (am_i x1), some (am_i x2), some (am_i x3), some (am_i (am_w ((am_w ((am_w (x4 * 10)) + (σ 17 x3))) - 48))), o5]) dX4_numberWithin_63 (Nat.le_of_ble_eq_true rfl) rfl ?_
          refine rr_iinc (ls' := [some (am_r 16), some (am_i x1), some (am_i x2), some (am_i (am_w (x3 + 1))), some (am_i (am_w ((am_w ((am_w (x4 * 10)) + (σ 17 x3))) - 48))), o5]) dX4_numberWithin_65 rfl (Nat.le_of_ble_eq_true rfl) rfl ?_
          refine rr_goto (t := 8) dX4_numberWithin_68 (by decide) ?_
          exact hk8 _ _ _ _ _ h _
        · refine rr_icmp_gt_n (t := 71) dX4_numberWithin_45 (by decide) c18 ?_
          exact tb_X4_numberWithin_71 hd hQ h
    · refine rr_icmp_ge_n (t := 71) dX4_numberWithin_23 (by decide) c2 ?_
      exact tb_X4_numberWithin_71 hd hQ h
  · refine rr_icmp_ge_n (t := 71) dX4_numberWithin_13 (by decide) c1 ?_
    exact tb_X4_numberWithin_71 hd hQ h
theorem tl_X4_numberWithin_8 {L n d : Nat} {Q : am_Post} {σr : am_Mem} {rr : Int} (hd : 1 ≤ d) (hQ : Q (some (am_i rr)) (rm_h L σr)) : ∀ (m : Nat) (x1 : Int) (x2 : Int) (x3 : Int) (x4 : Int) (σ : am_Mem) (o5 : Option am_V), fl_X4_numberWithin_8 n m x1 x2 x3 x4 σ = some (rr, σr) → xs_AW (xs_aw d) me_X4_numberWithin Q 8 [some (am_r 16), some (am_i x1), some (am_i x2), some (am_i x3), some (am_i x4), o5] [] (rm_h L σ) := by
  intro m
  induction m with
  | zero => intro x1 x2 x3 x4 σ o5 h; cases h
  | succ m ih =>
    intro x1 x2 x3 x4 σ o5 h
    exact tb_X4_numberWithin_8 hd (fun x1 x2 x3 x4 σ h o5 => ih x1 x2 x3 x4 σ o5 h) hQ h
theorem t_X4_numberWithin {L n d : Nat} {Q : am_Post} {p1 : Int} {p2 : Int} {σ σr : am_Mem} {rr : Int} (hd : 1 < d) (h : f_X4_numberWithin n p1 p2 σ = some (rr, σr)) (hQ : Q (some (am_i rr)) (rm_h L σr)) : xs_aw d me_X4_numberWithin [am_r 16, am_i p1, am_i p2] (rm_h L σ) Q := by
  obtain ⟨d, rfl⟩ : ∃ k, d = k + 1 := ⟨d - 1, by omega⟩
  have hd : 1 ≤ d := by omega
  unfold f_X4_numberWithin at h
  show xs_AW (xs_aw d) me_X4_numberWithin Q 0 [some (am_r 16), some (am_i p1), some (am_i p2), none, none, none] [] (rm_h L σ)
  refine rr_aload_n dX4_numberWithin_0 rfl ?_
  refine rr_geti (kz := 4) dX4_numberWithin_1 fl_4_24 (sh_16 L) ⟨(by decide), by decide⟩ rfl rfl ?_
  refine rr_istore_n (ls' := [some (am_r 16), some (am_i p1), some (am_i p2), some (am_i (σ 16 4)), none, none]) dX4_numberWithin_4 (Nat.le_of_ble_eq_true rfl) rfl ?_
  refine rr_iconst dX4_numberWithin_5 (by decide) ?_
  refine rr_istore (ls' := [some (am_r 16), some (am_i p1), some (am_i p2), some (am_i (σ 16 4)), some (am_i 0), none]) dX4_numberWithin_6 (Nat.le_of_ble_eq_true rfl) rfl ?_
  exact tl_X4_numberWithin_8 hd hQ n _ _ _ _ _ _ h
def nw_X4_numberWithin (a : Nat) : Prop := a ≠ 16
theorem wb_X4_numberWithin_113 {n : Nat} {x5 : Int} {σ σr : am_Mem} {rr : Int} (h : fb_X4_numberWithin_113 n x5 σ = some (rr, σr)) : ∀ a : Nat, nw_X4_numberWithin a → σr a = σ a := by
  unfold fb_X4_numberWithin_113 at h
  have fr : ∀ a : Nat, nw_X4_numberWithin a → σ a = σ a := fun _ _ => rfl
  rcases ab_i h with ⟨c6, h⟩ | ⟨c6, h⟩
  · obtain ⟨r8, σ9, e7, h⟩ := ab_2 h
    have fr := fun (a : Nat) (ha : nw_X4_numberWithin a) => (w_X4_failsAt e7 a (by unfold nw_X4_numberWithin at ha; unfold nw_X4_failsAt; omega)).trans (fr a ha)
    obtain ⟨q1, q2⟩ := ab_r2 h
    exact fun a ha => (congrFun q2.symm a).trans (fr a ha)
  · obtain ⟨r11, σ12, e10, h⟩ := ab_2 h
    have fr := fun (a : Nat) (ha : nw_X4_numberWithin a) => (w_X4_failsAt e10 a (by unfold nw_X4_numberWithin at ha; unfold nw_X4_failsAt; omega)).trans (fr a ha)
    obtain ⟨q1, q2⟩ := ab_r2 h
    exact fun a ha => (congrFun q2.symm a).trans (fr a ha)
theorem wb_X4_numberWithin_71 {n : Nat} {x1 : Int} {x2 : Int} {x3 : Int} {x4 : Int} {σ σr : am_Mem} {rr : Int} (h : fb_X4_numberWithin_71 n x1 x2 x3 x4 σ = some (rr, σr)) : ∀ a : Nat, nw_X4_numberWithin a → σr a = σ a := by
  unfold fb_X4_numberWithin_71 at h
  have fr : ∀ a : Nat, nw_X4_numberWithin a → σ a = σ a := fun _ _ => rfl
  rcases ab_i h with ⟨c5, h⟩ | ⟨c5, h⟩
  · exact fun a ha => (wb_X4_numberWithin_113 h a ha).trans (fr a ha)
  · rcases ab_i h with ⟨c13, h⟩ | ⟨c13, h⟩
    · rcases ab_i h with ⟨c14, h⟩ | ⟨c14, h⟩
      · exact fun a ha => (wb_X4_numberWithin_113 h a ha).trans (fr a ha)
      · rcases ab_i h with ⟨c15, h⟩ | ⟨c15, h⟩
        · obtain ⟨σ16, e17, h⟩ := ab_1 h
          have fr := fun (a : Nat) (ha : nw_X4_numberWithin a) => (ab_fu e17 (show a ≠ 16 by unfold nw_X4_numberWithin at ha; omega)).trans (fr a ha)
          obtain ⟨q1, q2⟩ := ab_r2 h
          exact fun a ha => (congrFun q2.symm a).trans (fr a ha)
        · exact fun a ha => (wb_X4_numberWithin_113 h a ha).trans (fr a ha)
    · exact fun a ha => (wb_X4_numberWithin_113 h a ha).trans (fr a ha)
theorem wb_X4_numberWithin_8 {n : Nat} {kh8 : Int → Int → Int → Int → am_Mem → Option (Int × am_Mem)} {x1 : Int} {x2 : Int} {x3 : Int} {x4 : Int} {σ σr : am_Mem} {rr : Int} (hk8 : ∀ (y1 : Int) (y2 : Int) (y3 : Int) (y4 : Int) (σ : am_Mem), kh8 y1 y2 y3 y4 σ = some (rr, σr) → ∀ a : Nat, nw_X4_numberWithin a → σr a = σ a) (h : fb_X4_numberWithin_8 n kh8 x1 x2 x3 x4 σ = some (rr, σr)) : ∀ a : Nat, nw_X4_numberWithin a → σr a = σ a := by
  unfold fb_X4_numberWithin_8 at h
  have fr : ∀ a : Nat, nw_X4_numberWithin a → σ a = σ a := fun _ _ => rfl
  rcases ab_i h with ⟨c1, h⟩ | ⟨c1, h⟩
  · rcases ab_i h with ⟨c2, h⟩ | ⟨c2, h⟩
    · obtain ⟨g3, h⟩ := ab_g h
      rcases ab_i h with ⟨c4, h⟩ | ⟨c4, h⟩
      · exact fun a ha => (wb_X4_numberWithin_71 h a ha).trans (fr a ha)
      · rcases ab_i h with ⟨c18, h⟩ | ⟨c18, h⟩
        · exact fun a ha => (hk8 _ _ _ _ _ h a ha).trans (fr a ha)
        · exact fun a ha => (wb_X4_numberWithin_71 h a ha).trans (fr a ha)
    · exact fun a ha => (wb_X4_numberWithin_71 h a ha).trans (fr a ha)
  · exact fun a ha => (wb_X4_numberWithin_71 h a ha).trans (fr a ha)
theorem wl_X4_numberWithin_8 {n : Nat} {σr : am_Mem} {rr : Int} : ∀ (m : Nat) (x1 : Int) (x2 : Int) (x3 : Int) (x4 : Int) (σ : am_Mem), fl_X4_numberWithin_8 n m x1 x2 x3 x4 σ = some (rr, σr) → ∀ a : Nat, nw_X4_numberWithin a → σr a = σ a := by
  intro m
  induction m with
  | zero => intro x1 x2 x3 x4 σ h; cases h
  | succ m ih =>
    intro x1 x2 x3 x4 σ h
    exact wb_X4_numberWithin_8 (fun x1 x2 x3 x4 σ h => ih x1 x2 x3 x4 σ h) h
theorem w_X4_numberWithin {n : Nat} {p1 : Int} {p2 : Int} {σ σr : am_Mem} {rr : Int} (h : f_X4_numberWithin n p1 p2 σ = some (rr, σr)) : ∀ a : Nat, nw_X4_numberWithin a → σr a = σ a := by
  unfold f_X4_numberWithin at h
  have fr : ∀ a : Nat, nw_X4_numberWithin a → σ a = σ a := fun _ _ => rfl
  exact fun a ha => (wl_X4_numberWithin_8 n _ _ _ _ _ h a ha).trans (fr a ha)
/-! MoodFare$Tape.takes -/
def f_X4_takes (n : Nat) (p1 : Int) (σ : am_Mem) : Option (Int × am_Mem) :=
  am_b2 (f_X4_letterHere n σ) fun r2 σ3 => if r2 = p1 then (am_b1 (some (am_up σ3 16 4 (am_w ((σ3 16 4) + 1)))) fun σ5 => some (1, σ5)) else (am_b2 (f_X4_failsAt n (σ3 16 4) 1 σ3) fun r8 σ9 => if r8 = 0 ∨ r8 = 1 then some (r8, σ9) else none)
theorem t_X4_takes {L n d : Nat} {Q : am_Post} {p1 : Int} {σ σr : am_Mem} {rr : Int} (hd : 1 < d) (h : f_X4_takes n p1 σ = some (rr, σr)) (hQ : Q (some (am_i rr)) (rm_h L σr)) : xs_aw d me_X4_takes [am_r 16, am_i p1] (rm_h L σ) Q := by
  obtain ⟨d, rfl⟩ : ∃ k, d = k + 1 := ⟨d - 1, by omega⟩
  have hd : 1 ≤ d := by omega
  unfold f_X4_takes at h
  show xs_AW (xs_aw d) me_X4_takes Q 0 [some (am_r 16), some (am_i p1)] [] (rm_h L σ)
  refine rr_aload_n dX4_takes_0 rfl ?_
  obtain ⟨r2, σ3, e1, h⟩ := ab_2 h
  refine rr_Vi (as := []) (rest := []) dX4_takes_1 ml_4_57 (sh_16 L) ⟨(by decide), by decide, by decide⟩ rfl rfl rfl (Nat.le_of_ble_eq_true rfl) ⟨rfl, rfl⟩ (Nat.le_of_ble_eq_true rfl) (fun _ k => t_X4_letterHere (by omega) e1 k) ?_
  refine rr_iload_n dX4_takes_4 rfl ?_
  rcases ab_i h with ⟨c4, h⟩ | ⟨c4, h⟩
  · refine rr_icmp_eq_p (t := 18) dX4_takes_5 (by decide) c4 ?_
    refine rr_aload_n dX4_takes_18 rfl ?_
    refine rr_dup dX4_takes_19 rfl ?_
    refine rr_geti (kz := 4) dX4_takes_20 fl_4_24 (sh_16 L) ⟨(by decide), by decide⟩ rfl rfl ?_
    refine rr_iconst dX4_takes_23 (by decide) ?_
    refine rr_iadd dX4_takes_24 ?_
    obtain ⟨σ5, e6, h⟩ := ab_1 h
    refine rr_puti (kz := 4) dX4_takes_25 fl_4_24 (sh_16 L) ⟨(by decide), by decide⟩ ⟨rfl, rfl⟩ rfl (ab_m e6 ?_)
    refine rr_iconst dX4_takes_28 (by decide) ?_
    obtain ⟨rfl, rfl⟩ := ab_r2 h
    exact rr_zret dX4_takes_29 rfl (Or.inr rfl) hQ
  · refine rr_icmp_eq_n (t := 18) dX4_takes_5 (by decide) c4 ?_
    refine rr_aload_n dX4_takes_8 rfl ?_
    refine rr_aload_n dX4_takes_9 rfl ?_
    refine rr_geti (kz := 4) dX4_takes_10 fl_4_24 (sh_16 L) ⟨(by decide), by decide⟩ rfl rfl ?_
    refine rr_iconst dX4_takes_13 (by decide) ?_
    obtain ⟨r8, σ9, e7, h⟩ := ab_2 h
    refine rr_Vi (as := [am_i (σ3 16 4), am_i 1]) (rest := []) dX4_takes_14 ml_4_65 (sh_16 L) ⟨(by decide), by decide, by decide⟩ rfl rfl rfl (Nat.le_of_ble_eq_true rfl) ⟨rfl, rfl⟩ (Nat.le_of_ble_eq_true rfl) (fun _ k => t_X4_failsAt (by omega) e7 k) ?_
    obtain ⟨g10, h⟩ := ab_g h
    obtain ⟨rfl, rfl⟩ := ab_r2 h
    exact rr_zret dX4_takes_17 rfl g10 hQ
def nw_X4_takes (a : Nat) : Prop := a ≠ 16
theorem w_X4_takes {n : Nat} {p1 : Int} {σ σr : am_Mem} {rr : Int} (h : f_X4_takes n p1 σ = some (rr, σr)) : ∀ a : Nat, nw_X4_takes a → σr a = σ a := by
  unfold f_X4_takes at h
  have fr : ∀ a : Nat, nw_X4_takes a → σ a = σ a := fun _ _ => rfl
  obtain ⟨r2, σ3, e1, h⟩ := ab_2 h
  have fr := fun (a : Nat) (ha : nw_X4_takes a) => (congrFun (u_X4_letterHere e1) a).trans (fr a ha)
  rcases ab_i h with ⟨c4, h⟩ | ⟨c4, h⟩
  · obtain ⟨σ5, e6, h⟩ := ab_1 h
    have fr := fun (a : Nat) (ha : nw_X4_takes a) => (ab_fu e6 (show a ≠ 16 by unfold nw_X4_takes at ha; omega)).trans (fr a ha)
    obtain ⟨q1, q2⟩ := ab_r2 h
    exact fun a ha => (congrFun q2.symm a).trans (fr a ha)
  · obtain ⟨r8, σ9, e7, h⟩ := ab_2 h
    have fr := fun (a : Nat) (ha : nw_X4_takes a) => (w_X4_failsAt e7 a (by unfold nw_X4_takes at ha; unfold nw_X4_failsAt; omega)).trans (fr a ha)
    obtain ⟨g10, h⟩ := ab_g h
    obtain ⟨q1, q2⟩ := ab_r2 h
    exact fun a ha => (congrFun q2.symm a).trans (fr a ha)
/-! MoodFare$Tape.readCorners -/
def fb_X4_readCorners_2 (n : Nat) (p1 : Nat) (kh2 : Int → am_Mem → Option (Int × am_Mem)) (x2 : Int) (σ : am_Mem) : Option (Int × am_Mem) :=
  if x2 ≤ 6 then (am_b2 (f_X4_letterHere n σ) fun r3 σ4 => am_b2 (f_X4_kindOf n r3 σ4) fun r6 σ7 => if r6 = 0 then (if x2 ≤ 0 then (am_b2 (f_X4_failsAt n (σ7 16 4) 1 σ7) fun r11 σ12 => if r11 = 0 then (some (0, σ12)) else (some (1, σ12))) else (some (1, σ7))) else (if x2 = 6 then (am_b2 (f_X4_failsAt n (σ7 16 4) 3 σ7) fun r16 σ17 => if r16 = 0 ∨ r16 = 1 then some (r16, σ17) else none) else (am_b1 (some (am_up σ7 16 4 (am_w ((σ7 16 4) + 1)))) fun σ19 => if (0 : Int) ≤ x2 ∧ x2 < 6 then am_b1 (some (am_up σ19 (p1 + 1) x2 r6)) fun σ22 => am_b2 (f_X4_numberWithin n 0 9 σ22) fun r25 σ26 => am_b1 (some (am_up σ26 (p1 + 2) x2 r25)) fun σ27 => if σ27 (p1 + 2) x2 < 0 then (some (0, σ27)) else (am_b2 (f_X4_takes n 44 σ27) fun r31 σ32 => if r31 = 0 then (some (0, σ32)) else (am_b2 (f_X4_numberWithin n 0 9 σ32) fun r35 σ36 => am_b1 (some (am_up σ36 (p1 + 3) x2 r35)) fun σ37 => if σ37 (p1 + 3) x2 < 0 then (some (0, σ37)) else (am_b2 (f_X4_takes n 59 σ37) fun r41 σ42 => if r41 = 0 then (some (0, σ42)) else (am_b1 (some (am_up σ42 p1 5 (am_w ((σ42 p1 5) + 1)))) fun σ44 => kh2 (am_w (x2 + 1)) σ44)))) else none))) else (some (1, σ))
def fl_X4_readCorners_2 (n : Nat) (p1 : Nat) : Nat → Int → am_Mem → Option (Int × am_Mem)
  | 0, _, _ => none
  | m + 1, x2, σ => fb_X4_readCorners_2 n p1 (fun yx2 σ => fl_X4_readCorners_2 n p1 m yx2 σ) x2 σ
def f_X4_readCorners (n : Nat) (p1 : Nat) (σ : am_Mem) : Option (Int × am_Mem) :=
  fl_X4_readCorners_2 n p1 n 0 σ
theorem tb_X4_readCorners_2 {L n d : Nat} {Q : am_Post} {p1 : Nat} {kh2 : Int → am_Mem → Option (Int × am_Mem)} {x2 : Int} {o3 : Option am_V} {σ σr : am_Mem} {rr : Int} (hd : 2 ≤ d) (ht_p1 : tw p1) (hk2 : ∀ (y2 : Int) (σ : am_Mem), kh2 y2 σ = some (rr, σr) → ∀ (o3 : Option am_V), xs_AW (xs_aw d) me_X4_readCorners Q 2 [some (am_r 16), some (am_r p1), some (am_i y2), o3] [] (rm_h L σ)) (hQ : Q (some (am_i rr)) (rm_h L σr)) (h : fb_X4_readCorners_2 n p1 kh2 x2 σ = some (rr, σr)) : xs_AW (xs_aw d) me_X4_readCorners Q 2 [some (am_r 16), some (am_r p1), some (am_i x2), o3] [] (rm_h L σ) := by
  unfold fb_X4_readCorners_2 at h
  refine rr_iload_n dX4_readCorners_2 rfl ?_
  refine rr_bipush dX4_readCorners_3 (by decide) ?_
  rcases ab_i h with ⟨c1, h⟩ | ⟨c1, h⟩
  · refine rr_icmp_gt_p (t := 157) dX4_readCorners_5 (by decide) c1 ?_
    refine rr_aload_n dX4_readCorners_8 rfl ?_
    obtain ⟨r3, σ4, e2, h⟩ := ab_2 h
    refine rr_Vi (as := []) (rest := []) dX4_readCorners_9 ml_4_57 (sh_16 L) ⟨(by decide), by decide, by decide⟩ rfl rfl rfl (Nat.le_of_ble_eq_true rfl) ⟨rfl, rfl⟩ (Nat.le_of_ble_eq_true rfl) (fun _ k => t_X4_letterHere (by omega) e2 k) ?_
    obtain ⟨r6, σ7, e5, h⟩ := ab_2 h
    refine rr_Si (as := [am_i r3]) (rest := []) dX4_readCorners_12 ml_4_61 (Or.inl rfl) rfl rfl (Nat.le_of_ble_eq_true rfl) ⟨rfl, rfl⟩ (Nat.le_of_ble_eq_true rfl) (fun _ k => t_X4_kindOf (by omega) e5 k) ?_
    refine rr_istore_n (ls' := [some (am_r 16), some (am_r p1), some (am_i x2), some (am_i r6)]) dX4_readCorners_15 (Nat.le_of_ble_eq_true rfl) rfl ?_
    refine rr_iload_n dX4_readCorners_16 rfl ?_
    rcases ab_i h with ⟨c8, h⟩ | ⟨c8, h⟩
    · refine rr_if_ne_p (t := 42) dX4_readCorners_17 (by decide) c8 ?_
      refine rr_iload_n dX4_readCorners_20 rfl ?_
      rcases ab_i h with ⟨c9, h⟩ | ⟨c9, h⟩
      · refine rr_if_gt_p (t := 36) dX4_readCorners_21 (by decide) c9 ?_
        refine rr_aload_n dX4_readCorners_24 rfl ?_
        refine rr_aload_n dX4_readCorners_25 rfl ?_
        refine rr_geti (kz := 4) dX4_readCorners_26 fl_4_24 (sh_16 L) ⟨(by decide), by decide⟩ rfl rfl ?_
        refine rr_iconst dX4_readCorners_29 (by decide) ?_
        obtain ⟨r11, σ12, e10, h⟩ := ab_2 h
        refine rr_Vi (as := [am_i (σ7 16 4), am_i 1]) (rest := []) dX4_readCorners_30 ml_4_65 (sh_16 L) ⟨(by decide), by decide, by decide⟩ rfl rfl rfl (Nat.le_of_ble_eq_true rfl) ⟨rfl, rfl⟩ (Nat.le_of_ble_eq_true rfl) (fun _ k => t_X4_failsAt (by omega) e10 k) ?_
        rcases ab_i h with ⟨c13, h⟩ | ⟨c13, h⟩
        · refine rr_if_eq_p (t := 40) dX4_readCorners_33 (by decide) c13 ?_
          refine rr_iconst dX4_readCorners_40 (by decide) ?_
          obtain ⟨rfl, rfl⟩ := ab_r2 h
          exact rr_zret dX4_readCorners_41 rfl (Or.inl rfl) hQ
        · refine rr_if_eq_n (t := 40) dX4_readCorners_33 (by decide) c13 ?_
          refine rr_iconst dX4_readCorners_36 (by decide) ?_
          refine rr_goto (t := 41) dX4_readCorners_37 (by decide) ?_
          obtain ⟨rfl, rfl⟩ := ab_r2 h
          exact rr_zret dX4_readCorners_41 rfl (Or.inr rfl) hQ
      · refine rr_if_gt_n (t := 36) dX4_readCorners_21 (by decide) c9 ?_
        refine rr_iconst dX4_readCorners_36 (by decide) ?_
        refine rr_goto (t := 41) dX4_readCorners_37 (by decide) ?_
        obtain ⟨rfl, rfl⟩ := ab_r2 h
        exact rr_zret dX4_readCorners_41 rfl (Or.inr rfl) hQ
    · refine rr_if_ne_n (t := 42) dX4_readCorners_17 (by decide) c8 ?_
      refine rr_iload_n dX4_readCorners_42 rfl ?_
      refine rr_bipush dX4_readCorners_43 (by decide) ?_
      rcases ab_i h with ⟨c14, h⟩ | ⟨c14, h⟩
      · refine rr_icmp_ne_p (t := 58) dX4_readCorners_45 (by decide) c14 ?_
        refine rr_aload_n dX4_readCorners_48 rfl ?_
        refine rr_aload_n dX4_readCorners_49 rfl ?_
        refine rr_geti (kz := 4) dX4_readCorners_50 fl_4_24 (sh_16 L) ⟨(by decide), by decide⟩ rfl rfl ?_
        refine rr_iconst dX4_readCorners_53 (by decide) ?_
        obtain ⟨r16, σ17, e15, h⟩ := ab_2 h
        refine rr_Vi (as := [am_i (σ7 16 4), am_i 3]) (rest := []) dX4_readCorners_54 ml_4_65 (sh_16 L) ⟨(by decide), by decide, by decide⟩ rfl rfl rfl (Nat.le_of_ble_eq_true rfl) ⟨rfl, rfl⟩ (Nat.le_of_ble_eq_true rfl) (fun _ k => t_X4_failsAt (by omega) e15 k) ?_
        obtain ⟨g18, h⟩ := ab_g h
        obtain ⟨rfl, rfl⟩ := ab_r2 h
        exact rr_zret dX4_readCorners_57 rfl g18 hQ
      · refine rr_icmp_ne_n (t := 58) dX4_readCorners_45 (by decide) c14 ?_
        refine rr_aload_n dX4_readCorners_58 rfl ?_
        refine rr_dup dX4_readCorners_59 rfl ?_
        refine rr_geti (kz := 4) dX4_readCorners_60 fl_4_24 (sh_16 L) ⟨(by decide), by decide⟩ rfl rfl ?_
        refine rr_iconst dX4_readCorners_63 (by decide) ?_
        refine rr_iadd dX4_readCorners_64 ?_
        obtain ⟨σ19, e20, h⟩ := ab_1 h
        refine rr_puti (kz := 4) dX4_readCorners_65 fl_4_24 (sh_16 L) ⟨(by decide), by decide⟩ ⟨rfl, rfl⟩ rfl (ab_m e20 ?_)
        refine rr_aload_n dX4_readCorners_68 rfl ?_
        refine rr_getr (t := (p1 + 1)) dX4_readCorners_69 fl_4_69 (tw_sh ht_p1 L) ⟨(tw_ge ht_p1), by decide⟩ rfl rfl ?_
        refine rr_iload_n dX4_readCorners_72 rfl ?_
        refine rr_iload_n dX4_readCorners_73 rfl ?_
        obtain ⟨g21, h⟩ := ab_g h
        refine rr_iast (nz := 6) dX4_readCorners_74 (tw_a1 ht_p1 L) (Nat.le_trans (tw_ge ht_p1) (Nat.le_add_right _ _)) rfl g21 ?_
        obtain ⟨σ22, e23, h⟩ := ab_1 h
        refine ab_m e23 ?_
        refine rr_aload_n dX4_readCorners_75 rfl ?_
        refine rr_getr (t := (p1 + 2)) dX4_readCorners_76 fl_4_72 (tw_sh ht_p1 L) ⟨(tw_ge ht_p1), by decide⟩ rfl rfl ?_
        refine rr_iload_n dX4_readCorners_79 rfl ?_
        refine rr_aload_n dX4_readCorners_80 rfl ?_
        refine rr_iconst dX4_readCorners_81 (by decide) ?_
        refine rr_bipush dX4_readCorners_82 (by decide) ?_
        obtain ⟨r25, σ26, e24, h⟩ := ab_2 h
        refine rr_Vi (as := [am_i 0, am_i 9]) (rest := [am_i x2, am_r (p1 + 2)]) dX4_readCorners_84 ml_4_47 (sh_16 L) ⟨(by decide), by decide, by decide⟩ rfl rfl rfl (Nat.le_of_ble_eq_true rfl) ⟨rfl, rfl⟩ (Nat.le_of_ble_eq_true rfl) (fun _ k => t_X4_numberWithin (by omega) e24 k) ?_
        refine rr_iast (nz := 6) dX4_readCorners_87 (tw_a2 ht_p1 L) (Nat.le_trans (tw_ge ht_p1) (Nat.le_add_right _ _)) rfl g21 ?_
        obtain ⟨σ27, e28, h⟩ := ab_1 h
        refine ab_m e28 ?_
        refine rr_aload_n dX4_readCorners_88 rfl ?_
        refine rr_getr (t := (p1 + 2)) dX4_readCorners_89 fl_4_72 (tw_sh ht_p1 L) ⟨(tw_ge ht_p1), by decide⟩ rfl rfl ?_
        refine rr_iload_n dX4_readCorners_92 rfl ?_
        refine rr_iald (nz := 6) dX4_readCorners_93 (tw_a2 ht_p1 L) rfl g21 ?_
        rcases ab_i h with ⟨c29, h⟩ | ⟨c29, h⟩
        · refine rr_if_lt_p (t := 106) dX4_readCorners_94 (by decide) c29 ?_
          refine rr_iconst dX4_readCorners_106 (by decide) ?_
          obtain ⟨rfl, rfl⟩ := ab_r2 h
          exact rr_zret dX4_readCorners_107 rfl (Or.inl rfl) hQ
        · refine rr_if_lt_n (t := 106) dX4_readCorners_94 (by decide) c29 ?_
          refine rr_aload_n dX4_readCorners_97 rfl ?_
          refine rr_bipush dX4_readCorners_98 (by decide) ?_
          obtain ⟨r31, σ32, e30, h⟩ := ab_2 h
          refine rr_Vi (as := [am_i 44]) (rest := []) dX4_readCorners_100 ml_4_43 (sh_16 L) ⟨(by decide), by decide, by decide⟩ rfl rfl rfl (Nat.le_of_ble_eq_true rfl) ⟨rfl, rfl⟩ (Nat.le_of_ble_eq_true rfl) (fun _ k => t_X4_takes (by omega) e30 k) ?_
          rcases ab_i h with ⟨c33, h⟩ | ⟨c33, h⟩
          · refine rr_if_ne_p (t := 108) dX4_readCorners_103 (by decide) c33 ?_
            refine rr_iconst dX4_readCorners_106 (by decide) ?_
            obtain ⟨rfl, rfl⟩ := ab_r2 h
            exact rr_zret dX4_readCorners_107 rfl (Or.inl rfl) hQ
          · refine rr_if_ne_n (t := 108) dX4_readCorners_103 (by decide) c33 ?_
            refine rr_aload_n dX4_readCorners_108 rfl ?_
            refine rr_getr (t := (p1 + 3)) dX4_readCorners_109 fl_4_75 (tw_sh ht_p1 L) ⟨(tw_ge ht_p1), by decide⟩ rfl rfl ?_
            refine rr_iload_n dX4_readCorners_112 rfl ?_
            refine rr_aload_n dX4_readCorners_113 rfl ?_
            refine rr_iconst dX4_readCorners_114 (by decide) ?_
            refine rr_bipush dX4_readCorners_115 (by decide) ?_
            obtain ⟨r35, σ36, e34, h⟩ := ab_2 h
            refine rr_Vi (as := [am_i 0, am_i 9]) (rest := [am_i x2, am_r (p1 + 3)]) dX4_readCorners_117 ml_4_47 (sh_16 L) ⟨(by decide), by decide, by decide⟩ rfl rfl rfl (Nat.le_of_ble_eq_true rfl) ⟨rfl, rfl⟩ (Nat.le_of_ble_eq_true rfl) (fun _ k => t_X4_numberWithin (by omega) e34 k) ?_
            refine rr_iast (nz := 6) dX4_readCorners_120 (tw_a3 ht_p1 L) (Nat.le_trans (tw_ge ht_p1) (Nat.le_add_right _ _)) rfl g21 ?_
            obtain ⟨σ37, e38, h⟩ := ab_1 h
            refine ab_m e38 ?_
            refine rr_aload_n dX4_readCorners_121 rfl ?_
            refine rr_getr (t := (p1 + 3)) dX4_readCorners_122 fl_4_75 (tw_sh ht_p1 L) ⟨(tw_ge ht_p1), by decide⟩ rfl rfl ?_
            refine rr_iload_n dX4_readCorners_125 rfl ?_
            refine rr_iald (nz := 6) dX4_readCorners_126 (tw_a3 ht_p1 L) rfl g21 ?_
            rcases ab_i h with ⟨c39, h⟩ | ⟨c39, h⟩
            · refine rr_if_lt_p (t := 139) dX4_readCorners_127 (by decide) c39 ?_
              refine rr_iconst dX4_readCorners_139 (by decide) ?_
              obtain ⟨rfl, rfl⟩ := ab_r2 h
              exact rr_zret dX4_readCorners_140 rfl (Or.inl rfl) hQ
            · refine rr_if_lt_n (t := 139) dX4_readCorners_127 (by decide) c39 ?_
              refine rr_aload_n dX4_readCorners_130 rfl ?_
              refine rr_bipush dX4_readCorners_131 (by decide) ?_
              obtain ⟨r41, σ42, e40, h⟩ := ab_2 h
              refine rr_Vi (as := [am_i 59]) (rest := []) dX4_readCorners_133 ml_4_43 (sh_16 L) ⟨(by decide), by decide, by decide⟩ rfl rfl rfl (Nat.le_of_ble_eq_true rfl) ⟨rfl, rfl⟩ (Nat.le_of_ble_eq_true rfl) (fun _ k => t_X4_takes (by omega) e40 k) ?_
              rcases ab_i h with ⟨c43, h⟩ | ⟨c43, h⟩
              · refine rr_if_ne_p (t := 141) dX4_readCorners_136 (by decide) c43 ?_
                refine rr_iconst dX4_readCorners_139 (by decide) ?_
                obtain ⟨rfl, rfl⟩ := ab_r2 h
                exact rr_zret dX4_readCorners_140 rfl (Or.inl rfl) hQ
              · refine rr_if_ne_n (t := 141) dX4_readCorners_136 (by decide) c43 ?_
                refine rr_aload_n dX4_readCorners_141 rfl ?_
                refine rr_dup dX4_readCorners_142 rfl ?_
                refine rr_geti (kz := 5) dX4_readCorners_143 fl_4_78 (tw_sh ht_p1 L) ⟨(tw_ge ht_p1), by decide⟩ rfl rfl ?_
                refine rr_iconst dX4_readCorners_146 (by decide) ?_
                refine rr_iadd dX4_readCorners_147 ?_
                obtain ⟨σ44, e45, h⟩ := ab_1 h
                refine rr_puti (kz := 5) dX4_readCorners_148 fl_4_78 (tw_sh ht_p1 L) ⟨(tw_ge ht_p1), by decide⟩ ⟨rfl, rfl⟩ rfl (ab_m e45 ?_)
                refine rr_iinc (ls' := [some (am_r 16), some (am_r p1), some (am_i (am_w (x2 + 1))), some (am_i r6)]) dX4_readCorners_151 rfl (Nat.le_of_ble_eq_true rfl) rfl ?_
                refine rr_goto (t := 2) dX4_readCorners_154 (by decide) ?_
                exact hk2 _ _ h _
  · refine rr_icmp_gt_n (t := 157) dX4_readCorners_5 (by decide) c1 ?_
    refine rr_iconst dX4_readCorners_157 (by decide) ?_
    obtain ⟨rfl, rfl⟩ := ab_r2 h
    exact rr_zret dX4_readCorners_158 rfl (Or.inr rfl) hQ
theorem tl_X4_readCorners_2 {L n d : Nat} {Q : am_Post} {p1 : Nat} {σr : am_Mem} {rr : Int} (hd : 2 ≤ d) (ht_p1 : tw p1) (hQ : Q (some (am_i rr)) (rm_h L σr)) : ∀ (m : Nat) (x2 : Int) (σ : am_Mem) (o3 : Option am_V), fl_X4_readCorners_2 n p1 m x2 σ = some (rr, σr) → xs_AW (xs_aw d) me_X4_readCorners Q 2 [some (am_r 16), some (am_r p1), some (am_i x2), o3] [] (rm_h L σ) := by
  intro m
  induction m with
  | zero => intro x2 σ o3 h; cases h
  | succ m ih =>
    intro x2 σ o3 h
    exact tb_X4_readCorners_2 hd ht_p1 (fun x2 σ h o3 => ih x2 σ o3 h) hQ h
theorem t_X4_readCorners {L n d : Nat} {Q : am_Post} {p1 : Nat} {σ σr : am_Mem} {rr : Int} (hd : 2 < d) (ht_p1 : tw p1) (h : f_X4_readCorners n p1 σ = some (rr, σr)) (hQ : Q (some (am_i rr)) (rm_h L σr)) : xs_aw d me_X4_readCorners [am_r 16, am_r p1] (rm_h L σ) Q := by
  obtain ⟨d, rfl⟩ : ∃ k, d = k + 1 := ⟨d - 1, by omega⟩
  have hd : 2 ≤ d := by omega
  unfold f_X4_readCorners at h
  show xs_AW (xs_aw d) me_X4_readCorners Q 0 [some (am_r 16), some (am_r p1), none, none] [] (rm_h L σ)
  refine rr_iconst dX4_readCorners_0 (by decide) ?_
  refine rr_istore_n (ls' := [some (am_r 16), some (am_r p1), some (am_i 0), none]) dX4_readCorners_1 (Nat.le_of_ble_eq_true rfl) rfl ?_
  exact tl_X4_readCorners_2 hd ht_p1 hQ n _ _ _ h
def nw_X4_readCorners (p1 : Nat) (a : Nat) : Prop := a ≠ 16 ∧ a ≠ p1 + 1 ∧ a ≠ p1 + 2 ∧ a ≠ p1 + 3 ∧ a ≠ p1
theorem wb_X4_readCorners_2 {n : Nat} {p1 : Nat} {kh2 : Int → am_Mem → Option (Int × am_Mem)} {x2 : Int} {σ σr : am_Mem} {rr : Int} (hk2 : ∀ (y2 : Int) (σ : am_Mem), kh2 y2 σ = some (rr, σr) → ∀ a : Nat, nw_X4_readCorners p1 a → σr a = σ a) (h : fb_X4_readCorners_2 n p1 kh2 x2 σ = some (rr, σr)) : ∀ a : Nat, nw_X4_readCorners p1 a → σr a = σ a := by
  unfold fb_X4_readCorners_2 at h
  have fr : ∀ a : Nat, nw_X4_readCorners p1 a → σ a = σ a := fun _ _ => rfl
  rcases ab_i h with ⟨c1, h⟩ | ⟨c1, h⟩
  · obtain ⟨r3, σ4, e2, h⟩ := ab_2 h
    have fr := fun (a : Nat) (ha : nw_X4_readCorners p1 a) => (congrFun (u_X4_letterHere e2) a).trans (fr a ha)
    obtain ⟨r6, σ7, e5, h⟩ := ab_2 h
    have fr := fun (a : Nat) (ha : nw_X4_readCorners p1 a) => (congrFun (u_X4_kindOf e5) a).trans (fr a ha)
    rcases ab_i h with ⟨c8, h⟩ | ⟨c8, h⟩
    · rcases ab_i h with ⟨c9, h⟩ | ⟨c9, h⟩
      · obtain ⟨r11, σ12, e10, h⟩ := ab_2 h
        have fr := fun (a : Nat) (ha : nw_X4_readCorners p1 a) => (w_X4_failsAt e10 a (by unfold nw_X4_readCorners at ha; unfold nw_X4_failsAt; omega)).trans (fr a ha)
        rcases ab_i h with ⟨c13, h⟩ | ⟨c13, h⟩
        · obtain ⟨q1, q2⟩ := ab_r2 h
          exact fun a ha => (congrFun q2.symm a).trans (fr a ha)
        · obtain ⟨q1, q2⟩ := ab_r2 h
          exact fun a ha => (congrFun q2.symm a).trans (fr a ha)
      · obtain ⟨q1, q2⟩ := ab_r2 h
        exact fun a ha => (congrFun q2.symm a).trans (fr a ha)
    · rcases ab_i h with ⟨c14, h⟩ | ⟨c14, h⟩
      · obtain ⟨r16, σ17, e15, h⟩ := ab_2 h
        have fr := fun (a : Nat) (ha : nw_X4_readCorners p1 a) => (w_X4_failsAt e15 a (by unfold nw_X4_readCorners at ha; unfold nw_X4_failsAt; omega)).trans (fr a ha)
        obtain ⟨g18, h⟩ := ab_g h
        obtain ⟨q1, q2⟩ := ab_r2 h
        exact fun a ha => (congrFun q2.symm a).trans (fr a ha)
      · obtain ⟨σ19, e20, h⟩ := ab_1 h
        have fr := fun (a : Nat) (ha : nw_X4_readCorners p1 a) => (ab_fu e20 (show a ≠ 16 by unfold nw_X4_readCorners at ha; omega)).trans (fr a ha)
        obtain ⟨g21, h⟩ := ab_g h
        obtain ⟨σ22, e23, h⟩ := ab_1 h
        have fr := fun (a : Nat) (ha : nw_X4_readCorners p1 a) => (ab_fu e23 (show a ≠ (p1 + 1) by unfold nw_X4_readCorners at ha; omega)).trans (fr a ha)
        obtain ⟨r25, σ26, e24, h⟩ := ab_2 h
        have fr := fun (a : Nat) (ha : nw_X4_readCorners p1 a) => (w_X4_numberWithin e24 a (by unfold nw_X4_readCorners at ha; unfold nw_X4_numberWithin; omega)).trans (fr a ha)
        obtain ⟨σ27, e28, h⟩ := ab_1 h
        have fr := fun (a : Nat) (ha : nw_X4_readCorners p1 a) => (ab_fu e28 (show a ≠ (p1 + 2) by unfold nw_X4_readCorners at ha; omega)).trans (fr a ha)
        rcases ab_i h with ⟨c29, h⟩ | ⟨c29, h⟩
        · obtain ⟨q1, q2⟩ := ab_r2 h
          exact fun a ha => (congrFun q2.symm a).trans (fr a ha)
        · obtain ⟨r31, σ32, e30, h⟩ := ab_2 h
          have fr := fun (a : Nat) (ha : nw_X4_readCorners p1 a) => (w_X4_takes e30 a (by unfold nw_X4_readCorners at ha; unfold nw_X4_takes; omega)).trans (fr a ha)
          rcases ab_i h with ⟨c33, h⟩ | ⟨c33, h⟩
          · obtain ⟨q1, q2⟩ := ab_r2 h
            exact fun a ha => (congrFun q2.symm a).trans (fr a ha)
          · obtain ⟨r35, σ36, e34, h⟩ := ab_2 h
            have fr := fun (a : Nat) (ha : nw_X4_readCorners p1 a) => (w_X4_numberWithin e34 a (by unfold nw_X4_readCorners at ha; unfold nw_X4_numberWithin; omega)).trans (fr a ha)
            obtain ⟨σ37, e38, h⟩ := ab_1 h
            have fr := fun (a : Nat) (ha : nw_X4_readCorners p1 a) => (ab_fu e38 (show a ≠ (p1 + 3) by unfold nw_X4_readCorners at ha; omega)).trans (fr a ha)
            rcases ab_i h with ⟨c39, h⟩ | ⟨c39, h⟩
            · obtain ⟨q1, q2⟩ := ab_r2 h
              exact fun a ha => (congrFun q2.symm a).trans (fr a ha)
            · obtain ⟨r41, σ42, e40, h⟩ := ab_2 h
              have fr := fun (a : Nat) (ha : nw_X4_readCorners p1 a) => (w_X4_takes e40 a (by unfold nw_X4_readCorners at ha; unfold nw_X4_takes; omega)).trans (fr a ha)
              rcases ab_i h with ⟨c43, h⟩ | ⟨c43, h⟩
              · obtain ⟨q1, q2⟩ := ab_r2 h
                exact fun a ha => (congrFun q2.symm a).trans (fr a ha)
              · obtain ⟨σ44, e45, h⟩ := ab_1 h
                have fr := fun (a : Nat) (ha : nw_X4_readCorners p1 a) => (ab_fu e45 (show a ≠ p1 by unfold nw_X4_readCorners at ha; omega)).trans (fr a ha)
                exact fun a ha => (hk2 _ _ h a ha).trans (fr a ha)
  · obtain ⟨q1, q2⟩ := ab_r2 h
    exact fun a ha => (congrFun q2.symm a).trans (fr a ha)
theorem wl_X4_readCorners_2 {n : Nat} {p1 : Nat} {σr : am_Mem} {rr : Int} : ∀ (m : Nat) (x2 : Int) (σ : am_Mem), fl_X4_readCorners_2 n p1 m x2 σ = some (rr, σr) → ∀ a : Nat, nw_X4_readCorners p1 a → σr a = σ a := by
  intro m
  induction m with
  | zero => intro x2 σ h; cases h
  | succ m ih =>
    intro x2 σ h
    exact wb_X4_readCorners_2 (fun x2 σ h => ih x2 σ h) h
theorem w_X4_readCorners {n : Nat} {p1 : Nat} {σ σr : am_Mem} {rr : Int} (h : f_X4_readCorners n p1 σ = some (rr, σr)) : ∀ a : Nat, nw_X4_readCorners p1 a → σr a = σ a := by
  unfold f_X4_readCorners at h
  have fr : ∀ a : Nat, nw_X4_readCorners p1 a → σ a = σ a := fun _ _ => rfl
  exact fun a ha => (wl_X4_readCorners_2 n _ _ h a ha).trans (fr a ha)
/-! MoodFare$Tape.readLaw -/
def f_X4_readLaw (n : Nat) (p1 : Nat) (σ : am_Mem) : Option (Int × am_Mem) :=
  am_b2 (f_X4_takes n 116 σ) fun r2 σ3 => if r2 = 0 then (some (0, σ3)) else (am_b2 (f_X4_numberWithin n 1 9 σ3) fun r6 σ7 => am_b1 (some (am_up σ7 p1 7 r6)) fun σ8 => if σ8 p1 7 < 0 then (some (0, σ8)) else (am_b2 (f_X4_takes n 44 σ8) fun r12 σ13 => if r12 = 0 then (some (0, σ13)) else (am_b2 (f_X4_numberWithin n 0 9 σ13) fun r16 σ17 => am_b1 (some (am_up σ17 p1 10 r16)) fun σ18 => if σ18 p1 10 < 0 then (some (0, σ18)) else (am_b2 (f_X4_takes n 59 σ18) fun r22 σ23 => if r22 = 0 then (some (0, σ23)) else (some (1, σ23))))))
theorem t_X4_readLaw {L n d : Nat} {Q : am_Post} {p1 : Nat} {σ σr : am_Mem} {rr : Int} (hd : 2 < d) (ht_p1 : tw p1) (h : f_X4_readLaw n p1 σ = some (rr, σr)) (hQ : Q (some (am_i rr)) (rm_h L σr)) : xs_aw d me_X4_readLaw [am_r 16, am_r p1] (rm_h L σ) Q := by
  obtain ⟨d, rfl⟩ : ∃ k, d = k + 1 := ⟨d - 1, by omega⟩
  have hd : 2 ≤ d := by omega
  unfold f_X4_readLaw at h
  show xs_AW (xs_aw d) me_X4_readLaw Q 0 [some (am_r 16), some (am_r p1)] [] (rm_h L σ)
  refine rr_aload_n dX4_readLaw_0 rfl ?_
  refine rr_bipush dX4_readLaw_1 (by decide) ?_
  obtain ⟨r2, σ3, e1, h⟩ := ab_2 h
  refine rr_Vi (as := [am_i 116]) (rest := []) dX4_readLaw_3 ml_4_43 (sh_16 L) ⟨(by decide), by decide, by decide⟩ rfl rfl rfl (Nat.le_of_ble_eq_true rfl) ⟨rfl, rfl⟩ (Nat.le_of_ble_eq_true rfl) (fun _ k => t_X4_takes (by omega) e1 k) ?_
  rcases ab_i h with ⟨c4, h⟩ | ⟨c4, h⟩
  · refine rr_if_ne_p (t := 11) dX4_readLaw_6 (by decide) c4 ?_
    refine rr_iconst dX4_readLaw_9 (by decide) ?_
    obtain ⟨rfl, rfl⟩ := ab_r2 h
    exact rr_zret dX4_readLaw_10 rfl (Or.inl rfl) hQ
  · refine rr_if_ne_n (t := 11) dX4_readLaw_6 (by decide) c4 ?_
    refine rr_aload_n dX4_readLaw_11 rfl ?_
    refine rr_aload_n dX4_readLaw_12 rfl ?_
    refine rr_iconst dX4_readLaw_13 (by decide) ?_
    refine rr_bipush dX4_readLaw_14 (by decide) ?_
    obtain ⟨r6, σ7, e5, h⟩ := ab_2 h
    refine rr_Vi (as := [am_i 1, am_i 9]) (rest := [am_r p1]) dX4_readLaw_16 ml_4_47 (sh_16 L) ⟨(by decide), by decide, by decide⟩ rfl rfl rfl (Nat.le_of_ble_eq_true rfl) ⟨rfl, rfl⟩ (Nat.le_of_ble_eq_true rfl) (fun _ k => t_X4_numberWithin (by omega) e5 k) ?_
    obtain ⟨σ8, e9, h⟩ := ab_1 h
    refine rr_puti (kz := 7) dX4_readLaw_19 fl_4_51 (tw_sh ht_p1 L) ⟨(tw_ge ht_p1), by decide⟩ ⟨rfl, rfl⟩ rfl (ab_m e9 ?_)
    refine rr_aload_n dX4_readLaw_22 rfl ?_
    refine rr_geti (kz := 7) dX4_readLaw_23 fl_4_51 (tw_sh ht_p1 L) ⟨(tw_ge ht_p1), by decide⟩ rfl rfl ?_
    rcases ab_i h with ⟨c10, h⟩ | ⟨c10, h⟩
    · refine rr_if_lt_p (t := 38) dX4_readLaw_26 (by decide) c10 ?_
      refine rr_iconst dX4_readLaw_38 (by decide) ?_
      obtain ⟨rfl, rfl⟩ := ab_r2 h
      exact rr_zret dX4_readLaw_39 rfl (Or.inl rfl) hQ
    · refine rr_if_lt_n (t := 38) dX4_readLaw_26 (by decide) c10 ?_
      refine rr_aload_n dX4_readLaw_29 rfl ?_
      refine rr_bipush dX4_readLaw_30 (by decide) ?_
      obtain ⟨r12, σ13, e11, h⟩ := ab_2 h
      refine rr_Vi (as := [am_i 44]) (rest := []) dX4_readLaw_32 ml_4_43 (sh_16 L) ⟨(by decide), by decide, by decide⟩ rfl rfl rfl (Nat.le_of_ble_eq_true rfl) ⟨rfl, rfl⟩ (Nat.le_of_ble_eq_true rfl) (fun _ k => t_X4_takes (by omega) e11 k) ?_
      rcases ab_i h with ⟨c14, h⟩ | ⟨c14, h⟩
      · refine rr_if_ne_p (t := 40) dX4_readLaw_35 (by decide) c14 ?_
        refine rr_iconst dX4_readLaw_38 (by decide) ?_
        obtain ⟨rfl, rfl⟩ := ab_r2 h
        exact rr_zret dX4_readLaw_39 rfl (Or.inl rfl) hQ
      · refine rr_if_ne_n (t := 40) dX4_readLaw_35 (by decide) c14 ?_
        refine rr_aload_n dX4_readLaw_40 rfl ?_
        refine rr_aload_n dX4_readLaw_41 rfl ?_
        refine rr_iconst dX4_readLaw_42 (by decide) ?_
        refine rr_bipush dX4_readLaw_43 (by decide) ?_
        obtain ⟨r16, σ17, e15, h⟩ := ab_2 h
        refine rr_Vi (as := [am_i 0, am_i 9]) (rest := [am_r p1]) dX4_readLaw_45 ml_4_47 (sh_16 L) ⟨(by decide), by decide, by decide⟩ rfl rfl rfl (Nat.le_of_ble_eq_true rfl) ⟨rfl, rfl⟩ (Nat.le_of_ble_eq_true rfl) (fun _ k => t_X4_numberWithin (by omega) e15 k) ?_
        obtain ⟨σ18, e19, h⟩ := ab_1 h
        refine rr_puti (kz := 10) dX4_readLaw_48 fl_4_54 (tw_sh ht_p1 L) ⟨(tw_ge ht_p1), by decide⟩ ⟨rfl, rfl⟩ rfl (ab_m e19 ?_)
        refine rr_aload_n dX4_readLaw_51 rfl ?_
        refine rr_geti (kz := 10) dX4_readLaw_52 fl_4_54 (tw_sh ht_p1 L) ⟨(tw_ge ht_p1), by decide⟩ rfl rfl ?_
        rcases ab_i h with ⟨c20, h⟩ | ⟨c20, h⟩
        · refine rr_if_lt_p (t := 71) dX4_readLaw_55 (by decide) c20 ?_
          refine rr_iconst dX4_readLaw_71 (by decide) ?_
          obtain ⟨rfl, rfl⟩ := ab_r2 h
          exact rr_zret dX4_readLaw_72 rfl (Or.inl rfl) hQ
        · refine rr_if_lt_n (t := 71) dX4_readLaw_55 (by decide) c20 ?_
          refine rr_aload_n dX4_readLaw_58 rfl ?_
          refine rr_bipush dX4_readLaw_59 (by decide) ?_
          obtain ⟨r22, σ23, e21, h⟩ := ab_2 h
          refine rr_Vi (as := [am_i 59]) (rest := []) dX4_readLaw_61 ml_4_43 (sh_16 L) ⟨(by decide), by decide, by decide⟩ rfl rfl rfl (Nat.le_of_ble_eq_true rfl) ⟨rfl, rfl⟩ (Nat.le_of_ble_eq_true rfl) (fun _ k => t_X4_takes (by omega) e21 k) ?_
          rcases ab_i h with ⟨c24, h⟩ | ⟨c24, h⟩
          · refine rr_if_eq_p (t := 71) dX4_readLaw_64 (by decide) c24 ?_
            refine rr_iconst dX4_readLaw_71 (by decide) ?_
            obtain ⟨rfl, rfl⟩ := ab_r2 h
            exact rr_zret dX4_readLaw_72 rfl (Or.inl rfl) hQ
          · refine rr_if_eq_n (t := 71) dX4_readLaw_64 (by decide) c24 ?_
            refine rr_iconst dX4_readLaw_67 (by decide) ?_
            refine rr_goto (t := 72) dX4_readLaw_68 (by decide) ?_
            obtain ⟨rfl, rfl⟩ := ab_r2 h
            exact rr_zret dX4_readLaw_72 rfl (Or.inr rfl) hQ
def nw_X4_readLaw (p1 : Nat) (a : Nat) : Prop := a ≠ 16 ∧ a ≠ p1
theorem w_X4_readLaw {n : Nat} {p1 : Nat} {σ σr : am_Mem} {rr : Int} (h : f_X4_readLaw n p1 σ = some (rr, σr)) : ∀ a : Nat, nw_X4_readLaw p1 a → σr a = σ a := by
  unfold f_X4_readLaw at h
  have fr : ∀ a : Nat, nw_X4_readLaw p1 a → σ a = σ a := fun _ _ => rfl
  obtain ⟨r2, σ3, e1, h⟩ := ab_2 h
  have fr := fun (a : Nat) (ha : nw_X4_readLaw p1 a) => (w_X4_takes e1 a (by unfold nw_X4_readLaw at ha; unfold nw_X4_takes; omega)).trans (fr a ha)
  rcases ab_i h with ⟨c4, h⟩ | ⟨c4, h⟩
  · obtain ⟨q1, q2⟩ := ab_r2 h
    exact fun a ha => (congrFun q2.symm a).trans (fr a ha)
  · obtain ⟨r6, σ7, e5, h⟩ := ab_2 h
    have fr := fun (a : Nat) (ha : nw_X4_readLaw p1 a) => (w_X4_numberWithin e5 a (by unfold nw_X4_readLaw at ha; unfold nw_X4_numberWithin; omega)).trans (fr a ha)
    obtain ⟨σ8, e9, h⟩ := ab_1 h
    have fr := fun (a : Nat) (ha : nw_X4_readLaw p1 a) => (ab_fu e9 (show a ≠ p1 by unfold nw_X4_readLaw at ha; omega)).trans (fr a ha)
    rcases ab_i h with ⟨c10, h⟩ | ⟨c10, h⟩
    · obtain ⟨q1, q2⟩ := ab_r2 h
      exact fun a ha => (congrFun q2.symm a).trans (fr a ha)
    · obtain ⟨r12, σ13, e11, h⟩ := ab_2 h
      have fr := fun (a : Nat) (ha : nw_X4_readLaw p1 a) => (w_X4_takes e11 a (by unfold nw_X4_readLaw at ha; unfold nw_X4_takes; omega)).trans (fr a ha)
      rcases ab_i h with ⟨c14, h⟩ | ⟨c14, h⟩
      · obtain ⟨q1, q2⟩ := ab_r2 h
        exact fun a ha => (congrFun q2.symm a).trans (fr a ha)
      · obtain ⟨r16, σ17, e15, h⟩ := ab_2 h
        have fr := fun (a : Nat) (ha : nw_X4_readLaw p1 a) => (w_X4_numberWithin e15 a (by unfold nw_X4_readLaw at ha; unfold nw_X4_numberWithin; omega)).trans (fr a ha)
        obtain ⟨σ18, e19, h⟩ := ab_1 h
        have fr := fun (a : Nat) (ha : nw_X4_readLaw p1 a) => (ab_fu e19 (show a ≠ p1 by unfold nw_X4_readLaw at ha; omega)).trans (fr a ha)
        rcases ab_i h with ⟨c20, h⟩ | ⟨c20, h⟩
        · obtain ⟨q1, q2⟩ := ab_r2 h
          exact fun a ha => (congrFun q2.symm a).trans (fr a ha)
        · obtain ⟨r22, σ23, e21, h⟩ := ab_2 h
          have fr := fun (a : Nat) (ha : nw_X4_readLaw p1 a) => (w_X4_takes e21 a (by unfold nw_X4_readLaw at ha; unfold nw_X4_takes; omega)).trans (fr a ha)
          rcases ab_i h with ⟨c24, h⟩ | ⟨c24, h⟩
          · obtain ⟨q1, q2⟩ := ab_r2 h
            exact fun a ha => (congrFun q2.symm a).trans (fr a ha)
          · obtain ⟨q1, q2⟩ := ab_r2 h
            exact fun a ha => (congrFun q2.symm a).trans (fr a ha)
/-! MoodFare$Tape.isTold -/
def fb_X4_isTold_2 (n : Nat) (p0 : Nat) (kh2 : Int → Int → Int → am_Mem → Option (Int × am_Mem)) (x1 : Int) (x2 : Int) (x3 : Int) (σ : am_Mem) : Option (Int × am_Mem) :=
  if x3 < σ p0 6 then (if (0 : Int) ≤ x3 ∧ x3 < 8 then if σ (p0 + 4) x3 = x1 then (if σ (p0 + 5) x3 = x2 then (some (1, σ)) else (kh2 x1 x2 (am_w (x3 + 1)) σ)) else (kh2 x1 x2 (am_w (x3 + 1)) σ) else none) else (some (0, σ))
def fl_X4_isTold_2 (n : Nat) (p0 : Nat) : Nat → Int → Int → Int → am_Mem → Option (Int × am_Mem)
  | 0, _, _, _, _ => none
  | m + 1, x1, x2, x3, σ => fb_X4_isTold_2 n p0 (fun yx1 yx2 yx3 σ => fl_X4_isTold_2 n p0 m yx1 yx2 yx3 σ) x1 x2 x3 σ
def f_X4_isTold (n : Nat) (p0 : Nat) (p1 : Int) (p2 : Int) (σ : am_Mem) : Option (Int × am_Mem) :=
  fl_X4_isTold_2 n p0 n p1 p2 0 σ
theorem tb_X4_isTold_2 {L n d : Nat} {Q : am_Post} {p0 : Nat} {kh2 : Int → Int → Int → am_Mem → Option (Int × am_Mem)} {x1 : Int} {x2 : Int} {x3 : Int} {σ σr : am_Mem} {rr : Int} (hd : 0 ≤ d) (ht_p0 : tw p0) (hk2 : ∀ (y1 : Int) (y2 : Int) (y3 : Int) (σ : am_Mem), kh2 y1 y2 y3 σ = some (rr, σr) → xs_AW (xs_aw d) me_X4_isTold Q 2 [some (am_r p0), some (am_i y1), some (am_i y2), some (am_i y3)] [] (rm_h L σ)) (hQ : Q (some (am_i rr)) (rm_h L σr)) (h : fb_X4_isTold_2 n p0 kh2 x1 x2 x3 σ = some (rr, σr)) : xs_AW (xs_aw d) me_X4_isTold Q 2 [some (am_r p0), some (am_i x1), some (am_i x2), some (am_i x3)] [] (rm_h L σ) := by
  unfold fb_X4_isTold_2 at h
  refine rr_iload_n dX4_isTold_2 rfl ?_
  refine rr_aload_n dX4_isTold_3 rfl ?_
  refine rr_geti (kz := 6) dX4_isTold_4 fl_4_37 (tw_sh ht_p0 L) ⟨(tw_ge ht_p0), by decide⟩ rfl rfl ?_
  rcases ab_i h with ⟨c1, h⟩ | ⟨c1, h⟩
  · refine rr_icmp_ge_p (t := 38) dX4_isTold_7 (by decide) c1 ?_
    refine rr_aload_n dX4_isTold_10 rfl ?_
    refine rr_getr (t := (p0 + 4)) dX4_isTold_11 fl_4_89 (tw_sh ht_p0 L) ⟨(tw_ge ht_p0), by decide⟩ rfl rfl ?_
    refine rr_iload_n dX4_isTold_14 rfl ?_
    obtain ⟨g2, h⟩ := ab_g h
    refine rr_iald (nz := 8) dX4_isTold_15 (tw_a4 ht_p0 L) rfl g2 ?_
    refine rr_iload_n dX4_isTold_16 rfl ?_
    rcases ab_i h with ⟨c3, h⟩ | ⟨c3, h⟩
    · refine rr_icmp_ne_p (t := 32) dX4_isTold_17 (by decide) c3 ?_
      refine rr_aload_n dX4_isTold_20 rfl ?_
      refine rr_getr (t := (p0 + 5)) dX4_isTold_21 fl_4_92 (tw_sh ht_p0 L) ⟨(tw_ge ht_p0), by decide⟩ rfl rfl ?_
      refine rr_iload_n dX4_isTold_24 rfl ?_
      refine rr_iald (nz := 8) dX4_isTold_25 (tw_a5 ht_p0 L) rfl g2 ?_
      refine rr_iload_n dX4_isTold_26 rfl ?_
      rcases ab_i h with ⟨c4, h⟩ | ⟨c4, h⟩
      · refine rr_icmp_ne_p (t := 32) dX4_isTold_27 (by decide) c4 ?_
        refine rr_iconst dX4_isTold_30 (by decide) ?_
        obtain ⟨rfl, rfl⟩ := ab_r2 h
        exact rr_zret dX4_isTold_31 rfl (Or.inr rfl) hQ
      · refine rr_icmp_ne_n (t := 32) dX4_isTold_27 (by decide) c4 ?_
        refine rr_iinc (ls' := [some (am_r p0), some (am_i x1), some (am_i x2), some (am_i (am_w (x3 + 1)))]) dX4_isTold_32 rfl (Nat.le_of_ble_eq_true rfl) rfl ?_
        refine rr_goto (t := 2) dX4_isTold_35 (by decide) ?_
        exact hk2 _ _ _ _ h
    · refine rr_icmp_ne_n (t := 32) dX4_isTold_17 (by decide) c3 ?_
      refine rr_iinc (ls' := [some (am_r p0), some (am_i x1), some (am_i x2), some (am_i (am_w (x3 + 1)))]) dX4_isTold_32 rfl (Nat.le_of_ble_eq_true rfl) rfl ?_
      refine rr_goto (t := 2) dX4_isTold_35 (by decide) ?_
      exact hk2 _ _ _ _ h
  · refine rr_icmp_ge_n (t := 38) dX4_isTold_7 (by decide) c1 ?_
    refine rr_iconst dX4_isTold_38 (by decide) ?_
    obtain ⟨rfl, rfl⟩ := ab_r2 h
    exact rr_zret dX4_isTold_39 rfl (Or.inl rfl) hQ
theorem tl_X4_isTold_2 {L n d : Nat} {Q : am_Post} {p0 : Nat} {σr : am_Mem} {rr : Int} (hd : 0 ≤ d) (ht_p0 : tw p0) (hQ : Q (some (am_i rr)) (rm_h L σr)) : ∀ (m : Nat) (x1 : Int) (x2 : Int) (x3 : Int) (σ : am_Mem), fl_X4_isTold_2 n p0 m x1 x2 x3 σ = some (rr, σr) → xs_AW (xs_aw d) me_X4_isTold Q 2 [some (am_r p0), some (am_i x1), some (am_i x2), some (am_i x3)] [] (rm_h L σ) := by
  intro m
  induction m with
  | zero => intro x1 x2 x3 σ h; cases h
  | succ m ih =>
    intro x1 x2 x3 σ h
    exact tb_X4_isTold_2 hd ht_p0 (fun x1 x2 x3 σ h => ih x1 x2 x3 σ h) hQ h
theorem t_X4_isTold {L n d : Nat} {Q : am_Post} {p0 : Nat} {p1 : Int} {p2 : Int} {σ σr : am_Mem} {rr : Int} (hd : 0 < d) (ht_p0 : tw p0) (h : f_X4_isTold n p0 p1 p2 σ = some (rr, σr)) (hQ : Q (some (am_i rr)) (rm_h L σr)) : xs_aw d me_X4_isTold [am_r p0, am_i p1, am_i p2] (rm_h L σ) Q := by
  obtain ⟨d, rfl⟩ : ∃ k, d = k + 1 := ⟨d - 1, by omega⟩
  have hd : 0 ≤ d := by omega
  unfold f_X4_isTold at h
  show xs_AW (xs_aw d) me_X4_isTold Q 0 [some (am_r p0), some (am_i p1), some (am_i p2), none] [] (rm_h L σ)
  refine rr_iconst dX4_isTold_0 (by decide) ?_
  refine rr_istore_n (ls' := [some (am_r p0), some (am_i p1), some (am_i p2), some (am_i 0)]) dX4_isTold_1 (Nat.le_of_ble_eq_true rfl) rfl ?_
  exact tl_X4_isTold_2 hd ht_p0 hQ n _ _ _ _ h
theorem ub_X4_isTold_2 {n : Nat} {p0 : Nat} {kh2 : Int → Int → Int → am_Mem → Option (Int × am_Mem)} {x1 : Int} {x2 : Int} {x3 : Int} {σ σr : am_Mem} {rr : Int} (hk2 : ∀ (y1 : Int) (y2 : Int) (y3 : Int) (σ : am_Mem), kh2 y1 y2 y3 σ = some (rr, σr) → σr = σ) (h : fb_X4_isTold_2 n p0 kh2 x1 x2 x3 σ = some (rr, σr)) : σr = σ := by
  unfold fb_X4_isTold_2 at h
  have fr : σ = σ := rfl
  rcases ab_i h with ⟨c1, h⟩ | ⟨c1, h⟩
  · obtain ⟨g2, h⟩ := ab_g h
    rcases ab_i h with ⟨c3, h⟩ | ⟨c3, h⟩
    · rcases ab_i h with ⟨c4, h⟩ | ⟨c4, h⟩
      · obtain ⟨q1, q2⟩ := ab_r2 h
        exact q2.symm.trans fr
      · exact (hk2 _ _ _ _ h).trans fr
    · exact (hk2 _ _ _ _ h).trans fr
  · obtain ⟨q1, q2⟩ := ab_r2 h
    exact q2.symm.trans fr
theorem ul_X4_isTold_2 {n : Nat} {p0 : Nat} {σr : am_Mem} {rr : Int} : ∀ (m : Nat) (x1 : Int) (x2 : Int) (x3 : Int) (σ : am_Mem), fl_X4_isTold_2 n p0 m x1 x2 x3 σ = some (rr, σr) → σr = σ := by
  intro m
  induction m with
  | zero => intro x1 x2 x3 σ h; cases h
  | succ m ih =>
    intro x1 x2 x3 σ h
    exact ub_X4_isTold_2 (fun x1 x2 x3 σ h => ih x1 x2 x3 σ h) h
theorem u_X4_isTold {n : Nat} {p0 : Nat} {p1 : Int} {p2 : Int} {σ σr : am_Mem} {rr : Int} (h : f_X4_isTold n p0 p1 p2 σ = some (rr, σr)) : σr = σ := by
  unfold f_X4_isTold at h
  have fr : σ = σ := rfl
  exact (ul_X4_isTold_2 n _ _ _ _ h).trans fr
/-! MoodFare$Tape.readEnds -/
def f_X4_readEnds (n : Nat) (p1 : Nat) (p2 : Int) (σ : am_Mem) : Option (Int × am_Mem) :=
  am_b2 (f_X4_numberWithin n 0 (am_w ((σ p1 5) - 1)) σ) fun r2 σ3 => if r2 < 0 then (some (0, σ3)) else (am_b2 (f_X4_takes n 44 σ3) fun r6 σ7 => if r6 = 0 then (some (0, σ7)) else (am_b2 (f_X4_numberWithin n 0 (am_w ((σ7 p1 5) - 1)) σ7) fun r10 σ11 => if r10 < 0 then (some (0, σ11)) else (if r2 = r10 then (am_b2 (f_X4_failsAt n (σ7 16 4) 2 σ11) fun r15 σ16 => if r15 = 0 ∨ r15 = 1 then some (r15, σ16) else none) else (am_b2 (f_X4_isTold n p1 r2 r10 σ11) fun r19 σ20 => if r19 = 0 then (if (0 : Int) ≤ p2 ∧ p2 < 8 then am_b1 (some (am_up σ20 (p1 + 4) p2 r2)) fun σ23 => am_b1 (some (am_up σ23 (p1 + 5) p2 r10)) fun σ25 => am_b2 (f_X4_takes n 59 σ25) fun r28 σ29 => if r28 = 0 ∨ r28 = 1 then some (r28, σ29) else none else none) else (am_b2 (f_X4_failsAt n (σ7 16 4) 2 σ20) fun r32 σ33 => if r32 = 0 ∨ r32 = 1 then some (r32, σ33) else none)))))
theorem t_X4_readEnds {L n d : Nat} {Q : am_Post} {p1 : Nat} {p2 : Int} {σ σr : am_Mem} {rr : Int} (hd : 2 < d) (ht_p1 : tw p1) (h : f_X4_readEnds n p1 p2 σ = some (rr, σr)) (hQ : Q (some (am_i rr)) (rm_h L σr)) : xs_aw d me_X4_readEnds [am_r 16, am_r p1, am_i p2] (rm_h L σ) Q := by
  obtain ⟨d, rfl⟩ : ∃ k, d = k + 1 := ⟨d - 1, by omega⟩
  have hd : 2 ≤ d := by omega
  unfold f_X4_readEnds at h
  show xs_AW (xs_aw d) me_X4_readEnds Q 0 [some (am_r 16), some (am_r p1), some (am_i p2), none, none, none] [] (rm_h L σ)
  refine rr_aload_n dX4_readEnds_0 rfl ?_
  refine rr_iconst dX4_readEnds_1 (by decide) ?_
  refine rr_aload_n dX4_readEnds_2 rfl ?_
  refine rr_geti (kz := 5) dX4_readEnds_3 fl_4_78 (tw_sh ht_p1 L) ⟨(tw_ge ht_p1), by decide⟩ rfl rfl ?_
  refine rr_iconst dX4_readEnds_6 (by decide) ?_
  refine rr_isub dX4_readEnds_7 ?_
  obtain ⟨r2, σ3, e1, h⟩ := ab_2 h
  refine rr_Vi (as := [am_i 0, am_i (am_w ((σ p1 5) - 1))]) (rest := []) dX4_readEnds_8 ml_4_47 (sh_16 L) ⟨(by decide), by decide, by decide⟩ rfl rfl rfl (Nat.le_of_ble_eq_true rfl) ⟨rfl, rfl⟩ (Nat.le_of_ble_eq_true rfl) (fun _ k => t_X4_numberWithin (by omega) e1 k) ?_
  refine rr_istore_n (ls' := [some (am_r 16), some (am_r p1), some (am_i p2), some (am_i r2), none, none]) dX4_readEnds_11 (Nat.le_of_ble_eq_true rfl) rfl ?_
  refine rr_iload_n dX4_readEnds_12 rfl ?_
  rcases ab_i h with ⟨c4, h⟩ | ⟨c4, h⟩
  · refine rr_if_lt_p (t := 25) dX4_readEnds_13 (by decide) c4 ?_
    refine rr_iconst dX4_readEnds_25 (by decide) ?_
    obtain ⟨rfl, rfl⟩ := ab_r2 h
    exact rr_zret dX4_readEnds_26 rfl (Or.inl rfl) hQ
  · refine rr_if_lt_n (t := 25) dX4_readEnds_13 (by decide) c4 ?_
    refine rr_aload_n dX4_readEnds_16 rfl ?_
    refine rr_bipush dX4_readEnds_17 (by decide) ?_
    obtain ⟨r6, σ7, e5, h⟩ := ab_2 h
    refine rr_Vi (as := [am_i 44]) (rest := []) dX4_readEnds_19 ml_4_43 (sh_16 L) ⟨(by decide), by decide, by decide⟩ rfl rfl rfl (Nat.le_of_ble_eq_true rfl) ⟨rfl, rfl⟩ (Nat.le_of_ble_eq_true rfl) (fun _ k => t_X4_takes (by omega) e5 k) ?_
    rcases ab_i h with ⟨c8, h⟩ | ⟨c8, h⟩
    · refine rr_if_ne_p (t := 27) dX4_readEnds_22 (by decide) c8 ?_
      refine rr_iconst dX4_readEnds_25 (by decide) ?_
      obtain ⟨rfl, rfl⟩ := ab_r2 h
      exact rr_zret dX4_readEnds_26 rfl (Or.inl rfl) hQ
    · refine rr_if_ne_n (t := 27) dX4_readEnds_22 (by decide) c8 ?_
      refine rr_aload_n dX4_readEnds_27 rfl ?_
      refine rr_geti (kz := 4) dX4_readEnds_28 fl_4_24 (sh_16 L) ⟨(by decide), by decide⟩ rfl rfl ?_
      refine rr_istore (ls' := [some (am_r 16), some (am_r p1), some (am_i p2), some (am_i r2), some (am_i (σ7 16 4)), none]) dX4_readEnds_31 (Nat.le_of_ble_eq_true rfl) rfl ?_
      refine rr_aload_n dX4_readEnds_33 rfl ?_
      refine rr_iconst dX4_readEnds_34 (by decide) ?_
      refine rr_aload_n dX4_readEnds_35 rfl ?_
      refine rr_geti (kz := 5) dX4_readEnds_36 fl_4_78 (tw_sh ht_p1 L) ⟨(tw_ge ht_p1), by decide⟩ rfl rfl ?_
      refine rr_iconst dX4_readEnds_39 (by decide) ?_
      refine rr_isub dX4_readEnds_40 ?_
      obtain ⟨r10, σ11, e9, h⟩ := ab_2 h
      refine rr_Vi (as := [am_i 0, am_i (am_w ((σ7 p1 5) - 1))]) (rest := []) dX4_readEnds_41 ml_4_47 (sh_16 L) ⟨(by decide), by decide, by decide⟩ rfl rfl rfl (Nat.le_of_ble_eq_true rfl) ⟨rfl, rfl⟩ (Nat.le_of_ble_eq_true rfl) (fun _ k => t_X4_numberWithin (by omega) e9 k) ?_
      refine rr_istore (ls' := [some (am_r 16), some (am_r p1), some (am_i p2), some (am_i r2), some (am_i (σ7 16 4)), some (am_i r10)]) dX4_readEnds_44 (Nat.le_of_ble_eq_true rfl) rfl ?_
      refine rr_iload dX4_readEnds_46 rfl ?_
      rcases ab_i h with ⟨c12, h⟩ | ⟨c12, h⟩
      · refine rr_if_ge_p (t := 53) dX4_readEnds_48 (by decide) c12 ?_
        refine rr_iconst dX4_readEnds_51 (by decide) ?_
        obtain ⟨rfl, rfl⟩ := ab_r2 h
        exact rr_zret dX4_readEnds_52 rfl (Or.inl rfl) hQ
      · refine rr_if_ge_n (t := 53) dX4_readEnds_48 (by decide) c12 ?_
        refine rr_iload_n dX4_readEnds_53 rfl ?_
        refine rr_iload dX4_readEnds_54 rfl ?_
        rcases ab_i h with ⟨c13, h⟩ | ⟨c13, h⟩
        · refine rr_icmp_eq_p (t := 69) dX4_readEnds_56 (by decide) c13 ?_
          refine rr_aload_n dX4_readEnds_69 rfl ?_
          refine rr_iload dX4_readEnds_70 rfl ?_
          refine rr_iconst dX4_readEnds_72 (by decide) ?_
          obtain ⟨r15, σ16, e14, h⟩ := ab_2 h
          refine rr_Vi (as := [am_i (σ7 16 4), am_i 2]) (rest := []) dX4_readEnds_73 ml_4_65 (sh_16 L) ⟨(by decide), by decide, by decide⟩ rfl rfl rfl (Nat.le_of_ble_eq_true rfl) ⟨rfl, rfl⟩ (Nat.le_of_ble_eq_true rfl) (fun _ k => t_X4_failsAt (by omega) e14 k) ?_
          obtain ⟨g17, h⟩ := ab_g h
          obtain ⟨rfl, rfl⟩ := ab_r2 h
          exact rr_zret dX4_readEnds_76 rfl g17 hQ
        · refine rr_icmp_eq_n (t := 69) dX4_readEnds_56 (by decide) c13 ?_
          refine rr_aload_n dX4_readEnds_59 rfl ?_
          refine rr_iload_n dX4_readEnds_60 rfl ?_
          refine rr_iload dX4_readEnds_61 rfl ?_
          obtain ⟨r19, σ20, e18, h⟩ := ab_2 h
          refine rr_Si (as := [am_r p1, am_i r2, am_i r10]) (rest := []) dX4_readEnds_63 ml_4_85 (Or.inl rfl) rfl rfl (Nat.le_of_ble_eq_true rfl) ⟨rfl, rfl⟩ (Nat.le_of_ble_eq_true rfl) (fun _ k => t_X4_isTold (by omega) ht_p1 e18 k) ?_
          rcases ab_i h with ⟨c21, h⟩ | ⟨c21, h⟩
          · refine rr_if_eq_p (t := 77) dX4_readEnds_66 (by decide) c21 ?_
            refine rr_aload_n dX4_readEnds_77 rfl ?_
            refine rr_getr (t := (p1 + 4)) dX4_readEnds_78 fl_4_89 (tw_sh ht_p1 L) ⟨(tw_ge ht_p1), by decide⟩ rfl rfl ?_
            refine rr_iload_n dX4_readEnds_81 rfl ?_
            refine rr_iload_n dX4_readEnds_82 rfl ?_
            obtain ⟨g22, h⟩ := ab_g h
            refine rr_iast (nz := 8) dX4_readEnds_83 (tw_a4 ht_p1 L) (Nat.le_trans (tw_ge ht_p1) (Nat.le_add_right _ _)) rfl g22 ?_
            obtain ⟨σ23, e24, h⟩ := ab_1 h
            refine ab_m e24 ?_
            refine rr_aload_n dX4_readEnds_84 rfl ?_
            refine rr_getr (t := (p1 + 5)) dX4_readEnds_85 fl_4_92 (tw_sh ht_p1 L) ⟨(tw_ge ht_p1), by decide⟩ rfl rfl ?_
            refine rr_iload_n dX4_readEnds_88 rfl ?_
            refine rr_iload dX4_readEnds_89 rfl ?_
            refine rr_iast (nz := 8) dX4_readEnds_91 (tw_a5 ht_p1 L) (Nat.le_trans (tw_ge ht_p1) (Nat.le_add_right _ _)) rfl g22 ?_
            obtain ⟨σ25, e26, h⟩ := ab_1 h
            refine ab_m e26 ?_
            refine rr_aload_n dX4_readEnds_92 rfl ?_
            refine rr_bipush dX4_readEnds_93 (by decide) ?_
            obtain ⟨r28, σ29, e27, h⟩ := ab_2 h
            refine rr_Vi (as := [am_i 59]) (rest := []) dX4_readEnds_95 ml_4_43 (sh_16 L) ⟨(by decide), by decide, by decide⟩ rfl rfl rfl (Nat.le_of_ble_eq_true rfl) ⟨rfl, rfl⟩ (Nat.le_of_ble_eq_true rfl) (fun _ k => t_X4_takes (by omega) e27 k) ?_
            obtain ⟨g30, h⟩ := ab_g h
            obtain ⟨rfl, rfl⟩ := ab_r2 h
            exact rr_zret dX4_readEnds_98 rfl g30 hQ
          · refine rr_if_eq_n (t := 77) dX4_readEnds_66 (by decide) c21 ?_
            refine rr_aload_n dX4_readEnds_69 rfl ?_
            refine rr_iload dX4_readEnds_70 rfl ?_
            refine rr_iconst dX4_readEnds_72 (by decide) ?_
            obtain ⟨r32, σ33, e31, h⟩ := ab_2 h
            refine rr_Vi (as := [am_i (σ7 16 4), am_i 2]) (rest := []) dX4_readEnds_73 ml_4_65 (sh_16 L) ⟨(by decide), by decide, by decide⟩ rfl rfl rfl (Nat.le_of_ble_eq_true rfl) ⟨rfl, rfl⟩ (Nat.le_of_ble_eq_true rfl) (fun _ k => t_X4_failsAt (by omega) e31 k) ?_
            obtain ⟨g34, h⟩ := ab_g h
            obtain ⟨rfl, rfl⟩ := ab_r2 h
            exact rr_zret dX4_readEnds_76 rfl g34 hQ
def nw_X4_readEnds (p1 : Nat) (a : Nat) : Prop := a ≠ 16 ∧ a ≠ p1 + 4 ∧ a ≠ p1 + 5
theorem w_X4_readEnds {n : Nat} {p1 : Nat} {p2 : Int} {σ σr : am_Mem} {rr : Int} (h : f_X4_readEnds n p1 p2 σ = some (rr, σr)) : ∀ a : Nat, nw_X4_readEnds p1 a → σr a = σ a := by
  unfold f_X4_readEnds at h
  have fr : ∀ a : Nat, nw_X4_readEnds p1 a → σ a = σ a := fun _ _ => rfl
  obtain ⟨r2, σ3, e1, h⟩ := ab_2 h
  have fr := fun (a : Nat) (ha : nw_X4_readEnds p1 a) => (w_X4_numberWithin e1 a (by unfold nw_X4_readEnds at ha; unfold nw_X4_numberWithin; omega)).trans (fr a ha)
  rcases ab_i h with ⟨c4, h⟩ | ⟨c4, h⟩
  · obtain ⟨q1, q2⟩ := ab_r2 h
    exact fun a ha => (congrFun q2.symm a).trans (fr a ha)
  · obtain ⟨r6, σ7, e5, h⟩ := ab_2 h
    have fr := fun (a : Nat) (ha : nw_X4_readEnds p1 a) => (w_X4_takes e5 a (by unfold nw_X4_readEnds at ha; unfold nw_X4_takes; omega)).trans (fr a ha)
    rcases ab_i h with ⟨c8, h⟩ | ⟨c8, h⟩
    · obtain ⟨q1, q2⟩ := ab_r2 h
      exact fun a ha => (congrFun q2.symm a).trans (fr a ha)
    · obtain ⟨r10, σ11, e9, h⟩ := ab_2 h
      have fr := fun (a : Nat) (ha : nw_X4_readEnds p1 a) => (w_X4_numberWithin e9 a (by unfold nw_X4_readEnds at ha; unfold nw_X4_numberWithin; omega)).trans (fr a ha)
      rcases ab_i h with ⟨c12, h⟩ | ⟨c12, h⟩
      · obtain ⟨q1, q2⟩ := ab_r2 h
        exact fun a ha => (congrFun q2.symm a).trans (fr a ha)
      · rcases ab_i h with ⟨c13, h⟩ | ⟨c13, h⟩
        · obtain ⟨r15, σ16, e14, h⟩ := ab_2 h
          have fr := fun (a : Nat) (ha : nw_X4_readEnds p1 a) => (w_X4_failsAt e14 a (by unfold nw_X4_readEnds at ha; unfold nw_X4_failsAt; omega)).trans (fr a ha)
          obtain ⟨g17, h⟩ := ab_g h
          obtain ⟨q1, q2⟩ := ab_r2 h
          exact fun a ha => (congrFun q2.symm a).trans (fr a ha)
        · obtain ⟨r19, σ20, e18, h⟩ := ab_2 h
          have fr := fun (a : Nat) (ha : nw_X4_readEnds p1 a) => (congrFun (u_X4_isTold e18) a).trans (fr a ha)
          rcases ab_i h with ⟨c21, h⟩ | ⟨c21, h⟩
          · obtain ⟨g22, h⟩ := ab_g h
            obtain ⟨σ23, e24, h⟩ := ab_1 h
            have fr := fun (a : Nat) (ha : nw_X4_readEnds p1 a) => (ab_fu e24 (show a ≠ (p1 + 4) by unfold nw_X4_readEnds at ha; omega)).trans (fr a ha)
            obtain ⟨σ25, e26, h⟩ := ab_1 h
            have fr := fun (a : Nat) (ha : nw_X4_readEnds p1 a) => (ab_fu e26 (show a ≠ (p1 + 5) by unfold nw_X4_readEnds at ha; omega)).trans (fr a ha)
            obtain ⟨r28, σ29, e27, h⟩ := ab_2 h
            have fr := fun (a : Nat) (ha : nw_X4_readEnds p1 a) => (w_X4_takes e27 a (by unfold nw_X4_readEnds at ha; unfold nw_X4_takes; omega)).trans (fr a ha)
            obtain ⟨g30, h⟩ := ab_g h
            obtain ⟨q1, q2⟩ := ab_r2 h
            exact fun a ha => (congrFun q2.symm a).trans (fr a ha)
          · obtain ⟨r32, σ33, e31, h⟩ := ab_2 h
            have fr := fun (a : Nat) (ha : nw_X4_readEnds p1 a) => (w_X4_failsAt e31 a (by unfold nw_X4_readEnds at ha; unfold nw_X4_failsAt; omega)).trans (fr a ha)
            obtain ⟨g34, h⟩ := ab_g h
            obtain ⟨q1, q2⟩ := ab_r2 h
            exact fun a ha => (congrFun q2.symm a).trans (fr a ha)
/-! MoodFare$Tape.readStreets -/
def fb_X4_readStreets_2 (n : Nat) (p1 : Nat) (kh2 : Int → am_Mem → Option (Int × am_Mem)) (x2 : Int) (σ : am_Mem) : Option (Int × am_Mem) :=
  if x2 ≤ 8 then (if σ 16 4 < σ 16 1 then (am_b2 (f_X4_letterHere n σ) fun r4 σ5 => if r4 = 120 then (if x2 = 8 then (am_b2 (f_X4_failsAt n (σ5 16 4) 3 σ5) fun r9 σ10 => if r9 = 0 ∨ r9 = 1 then some (r9, σ10) else none) else (am_b1 (some (am_up σ5 16 4 (am_w ((σ5 16 4) + 1)))) fun σ12 => am_b2 (f_X4_readEnds n p1 x2 σ12) fun r15 σ16 => if r15 = 0 then (some (0, σ16)) else (am_b1 (some (am_up σ16 p1 6 (am_w ((σ16 p1 6) + 1)))) fun σ18 => kh2 (am_w (x2 + 1)) σ18))) else (am_b2 (f_X4_failsAt n (σ5 16 4) 1 σ5) fun r21 σ22 => if r21 = 0 ∨ r21 = 1 then some (r21, σ22) else none)) else (some (1, σ))) else (some (1, σ))
def fl_X4_readStreets_2 (n : Nat) (p1 : Nat) : Nat → Int → am_Mem → Option (Int × am_Mem)
  | 0, _, _ => none
  | m + 1, x2, σ => fb_X4_readStreets_2 n p1 (fun yx2 σ => fl_X4_readStreets_2 n p1 m yx2 σ) x2 σ
def f_X4_readStreets (n : Nat) (p1 : Nat) (σ : am_Mem) : Option (Int × am_Mem) :=
  fl_X4_readStreets_2 n p1 n 0 σ
theorem tb_X4_readStreets_2 {L n d : Nat} {Q : am_Post} {p1 : Nat} {kh2 : Int → am_Mem → Option (Int × am_Mem)} {x2 : Int} {σ σr : am_Mem} {rr : Int} (hd : 3 ≤ d) (ht_p1 : tw p1) (hk2 : ∀ (y2 : Int) (σ : am_Mem), kh2 y2 σ = some (rr, σr) → xs_AW (xs_aw d) me_X4_readStreets Q 2 [some (am_r 16), some (am_r p1), some (am_i y2)] [] (rm_h L σ)) (hQ : Q (some (am_i rr)) (rm_h L σr)) (h : fb_X4_readStreets_2 n p1 kh2 x2 σ = some (rr, σr)) : xs_AW (xs_aw d) me_X4_readStreets Q 2 [some (am_r 16), some (am_r p1), some (am_i x2)] [] (rm_h L σ) := by
  unfold fb_X4_readStreets_2 at h
  refine rr_iload_n dX4_readStreets_2 rfl ?_
  refine rr_bipush dX4_readStreets_3 (by decide) ?_
  rcases ab_i h with ⟨c1, h⟩ | ⟨c1, h⟩
  · refine rr_icmp_gt_p (t := 91) dX4_readStreets_5 (by decide) c1 ?_
    refine rr_aload_n dX4_readStreets_8 rfl ?_
    refine rr_geti (kz := 4) dX4_readStreets_9 fl_4_24 (sh_16 L) ⟨(by decide), by decide⟩ rfl rfl ?_
    refine rr_aload_n dX4_readStreets_12 rfl ?_
    refine rr_geti (kz := 1) dX4_readStreets_13 fl_4_15 (sh_16 L) ⟨(by decide), by decide⟩ rfl rfl ?_
    rcases ab_i h with ⟨c2, h⟩ | ⟨c2, h⟩
    · refine rr_icmp_ge_p (t := 91) dX4_readStreets_16 (by decide) c2 ?_
      refine rr_aload_n dX4_readStreets_19 rfl ?_
      obtain ⟨r4, σ5, e3, h⟩ := ab_2 h
      refine rr_Vi (as := []) (rest := []) dX4_readStreets_20 ml_4_57 (sh_16 L) ⟨(by decide), by decide, by decide⟩ rfl rfl rfl (Nat.le_of_ble_eq_true rfl) ⟨rfl, rfl⟩ (Nat.le_of_ble_eq_true rfl) (fun _ k => t_X4_letterHere (by omega) e3 k) ?_
      refine rr_bipush dX4_readStreets_23 (by decide) ?_
      rcases ab_i h with ⟨c6, h⟩ | ⟨c6, h⟩
      · refine rr_icmp_eq_p (t := 38) dX4_readStreets_25 (by decide) c6 ?_
        refine rr_iload_n dX4_readStreets_38 rfl ?_
        refine rr_bipush dX4_readStreets_39 (by decide) ?_
        rcases ab_i h with ⟨c7, h⟩ | ⟨c7, h⟩
        · refine rr_icmp_ne_p (t := 54) dX4_readStreets_41 (by decide) c7 ?_
          refine rr_aload_n dX4_readStreets_44 rfl ?_
          refine rr_aload_n dX4_readStreets_45 rfl ?_
          refine rr_geti (kz := 4) dX4_readStreets_46 fl_4_24 (sh_16 L) ⟨(by decide), by decide⟩ rfl rfl ?_
          refine rr_iconst dX4_readStreets_49 (by decide) ?_
          obtain ⟨r9, σ10, e8, h⟩ := ab_2 h
          refine rr_Vi (as := [am_i (σ5 16 4), am_i 3]) (rest := []) dX4_readStreets_50 ml_4_65 (sh_16 L) ⟨(by decide), by decide, by decide⟩ rfl rfl rfl (Nat.le_of_ble_eq_true rfl) ⟨rfl, rfl⟩ (Nat.le_of_ble_eq_true rfl) (fun _ k => t_X4_failsAt (by omega) e8 k) ?_
          obtain ⟨g11, h⟩ := ab_g h
          obtain ⟨rfl, rfl⟩ := ab_r2 h
          exact rr_zret dX4_readStreets_53 rfl g11 hQ
        · refine rr_icmp_ne_n (t := 54) dX4_readStreets_41 (by decide) c7 ?_
          refine rr_aload_n dX4_readStreets_54 rfl ?_
          refine rr_dup dX4_readStreets_55 rfl ?_
          refine rr_geti (kz := 4) dX4_readStreets_56 fl_4_24 (sh_16 L) ⟨(by decide), by decide⟩ rfl rfl ?_
          refine rr_iconst dX4_readStreets_59 (by decide) ?_
          refine rr_iadd dX4_readStreets_60 ?_
          obtain ⟨σ12, e13, h⟩ := ab_1 h
          refine rr_puti (kz := 4) dX4_readStreets_61 fl_4_24 (sh_16 L) ⟨(by decide), by decide⟩ ⟨rfl, rfl⟩ rfl (ab_m e13 ?_)
          refine rr_aload_n dX4_readStreets_64 rfl ?_
          refine rr_aload_n dX4_readStreets_65 rfl ?_
          refine rr_iload_n dX4_readStreets_66 rfl ?_
          obtain ⟨r15, σ16, e14, h⟩ := ab_2 h
          refine rr_Vi (as := [am_r p1, am_i x2]) (rest := []) dX4_readStreets_67 ml_4_81 (sh_16 L) ⟨(by decide), by decide, by decide⟩ rfl rfl rfl (Nat.le_of_ble_eq_true rfl) ⟨rfl, rfl⟩ (Nat.le_of_ble_eq_true rfl) (fun _ k => t_X4_readEnds (by omega) ht_p1 e14 k) ?_
          rcases ab_i h with ⟨c17, h⟩ | ⟨c17, h⟩
          · refine rr_if_ne_p (t := 75) dX4_readStreets_70 (by decide) c17 ?_
            refine rr_iconst dX4_readStreets_73 (by decide) ?_
            obtain ⟨rfl, rfl⟩ := ab_r2 h
            exact rr_zret dX4_readStreets_74 rfl (Or.inl rfl) hQ
          · refine rr_if_ne_n (t := 75) dX4_readStreets_70 (by decide) c17 ?_
            refine rr_aload_n dX4_readStreets_75 rfl ?_
            refine rr_dup dX4_readStreets_76 rfl ?_
            refine rr_geti (kz := 6) dX4_readStreets_77 fl_4_37 (tw_sh ht_p1 L) ⟨(tw_ge ht_p1), by decide⟩ rfl rfl ?_
            refine rr_iconst dX4_readStreets_80 (by decide) ?_
            refine rr_iadd dX4_readStreets_81 ?_
            obtain ⟨σ18, e19, h⟩ := ab_1 h
            refine rr_puti (kz := 6) dX4_readStreets_82 fl_4_37 (tw_sh ht_p1 L) ⟨(tw_ge ht_p1), by decide⟩ ⟨rfl, rfl⟩ rfl (ab_m e19 ?_)
            refine rr_iinc (ls' := [some (am_r 16), some (am_r p1), some (am_i (am_w (x2 + 1)))]) dX4_readStreets_85 rfl (Nat.le_of_ble_eq_true rfl) rfl ?_
            refine rr_goto (t := 2) dX4_readStreets_88 (by decide) ?_
            exact hk2 _ _ h
      · refine rr_icmp_eq_n (t := 38) dX4_readStreets_25 (by decide) c6 ?_
        refine rr_aload_n dX4_readStreets_28 rfl ?_
        refine rr_aload_n dX4_readStreets_29 rfl ?_
        refine rr_geti (kz := 4) dX4_readStreets_30 fl_4_24 (sh_16 L) ⟨(by decide), by decide⟩ rfl rfl ?_
        refine rr_iconst dX4_readStreets_33 (by decide) ?_
        obtain ⟨r21, σ22, e20, h⟩ := ab_2 h
        refine rr_Vi (as := [am_i (σ5 16 4), am_i 1]) (rest := []) dX4_readStreets_34 ml_4_65 (sh_16 L) ⟨(by decide), by decide, by decide⟩ rfl rfl rfl (Nat.le_of_ble_eq_true rfl) ⟨rfl, rfl⟩ (Nat.le_of_ble_eq_true rfl) (fun _ k => t_X4_failsAt (by omega) e20 k) ?_
        obtain ⟨g23, h⟩ := ab_g h
        obtain ⟨rfl, rfl⟩ := ab_r2 h
        exact rr_zret dX4_readStreets_37 rfl g23 hQ
    · refine rr_icmp_ge_n (t := 91) dX4_readStreets_16 (by decide) c2 ?_
      refine rr_iconst dX4_readStreets_91 (by decide) ?_
      obtain ⟨rfl, rfl⟩ := ab_r2 h
      exact rr_zret dX4_readStreets_92 rfl (Or.inr rfl) hQ
  · refine rr_icmp_gt_n (t := 91) dX4_readStreets_5 (by decide) c1 ?_
    refine rr_iconst dX4_readStreets_91 (by decide) ?_
    obtain ⟨rfl, rfl⟩ := ab_r2 h
    exact rr_zret dX4_readStreets_92 rfl (Or.inr rfl) hQ
theorem tl_X4_readStreets_2 {L n d : Nat} {Q : am_Post} {p1 : Nat} {σr : am_Mem} {rr : Int} (hd : 3 ≤ d) (ht_p1 : tw p1) (hQ : Q (some (am_i rr)) (rm_h L σr)) : ∀ (m : Nat) (x2 : Int) (σ : am_Mem), fl_X4_readStreets_2 n p1 m x2 σ = some (rr, σr) → xs_AW (xs_aw d) me_X4_readStreets Q 2 [some (am_r 16), some (am_r p1), some (am_i x2)] [] (rm_h L σ) := by
  intro m
  induction m with
  | zero => intro x2 σ h; cases h
  | succ m ih =>
    intro x2 σ h
    exact tb_X4_readStreets_2 hd ht_p1 (fun x2 σ h => ih x2 σ h) hQ h
theorem t_X4_readStreets {L n d : Nat} {Q : am_Post} {p1 : Nat} {σ σr : am_Mem} {rr : Int} (hd : 3 < d) (ht_p1 : tw p1) (h : f_X4_readStreets n p1 σ = some (rr, σr)) (hQ : Q (some (am_i rr)) (rm_h L σr)) : xs_aw d me_X4_readStreets [am_r 16, am_r p1] (rm_h L σ) Q := by
  obtain ⟨d, rfl⟩ : ∃ k, d = k + 1 := ⟨d - 1, by omega⟩
  have hd : 3 ≤ d := by omega
  unfold f_X4_readStreets at h
  show xs_AW (xs_aw d) me_X4_readStreets Q 0 [some (am_r 16), some (am_r p1), none] [] (rm_h L σ)
  refine rr_iconst dX4_readStreets_0 (by decide) ?_
  refine rr_istore_n (ls' := [some (am_r 16), some (am_r p1), some (am_i 0)]) dX4_readStreets_1 (Nat.le_of_ble_eq_true rfl) rfl ?_
  exact tl_X4_readStreets_2 hd ht_p1 hQ n _ _ h
def nw_X4_readStreets (p1 : Nat) (a : Nat) : Prop := a ≠ 16 ∧ a ≠ p1 + 4 ∧ a ≠ p1 + 5 ∧ a ≠ p1
theorem wb_X4_readStreets_2 {n : Nat} {p1 : Nat} {kh2 : Int → am_Mem → Option (Int × am_Mem)} {x2 : Int} {σ σr : am_Mem} {rr : Int} (hk2 : ∀ (y2 : Int) (σ : am_Mem), kh2 y2 σ = some (rr, σr) → ∀ a : Nat, nw_X4_readStreets p1 a → σr a = σ a) (h : fb_X4_readStreets_2 n p1 kh2 x2 σ = some (rr, σr)) : ∀ a : Nat, nw_X4_readStreets p1 a → σr a = σ a := by
  unfold fb_X4_readStreets_2 at h
  have fr : ∀ a : Nat, nw_X4_readStreets p1 a → σ a = σ a := fun _ _ => rfl
  rcases ab_i h with ⟨c1, h⟩ | ⟨c1, h⟩
  · rcases ab_i h with ⟨c2, h⟩ | ⟨c2, h⟩
    · obtain ⟨r4, σ5, e3, h⟩ := ab_2 h
      have fr := fun (a : Nat) (ha : nw_X4_readStreets p1 a) => (congrFun (u_X4_letterHere e3) a).trans (fr a ha)
      rcases ab_i h with ⟨c6, h⟩ | ⟨c6, h⟩
      · rcases ab_i h with ⟨c7, h⟩ | ⟨c7, h⟩
        · obtain ⟨r9, σ10, e8, h⟩ := ab_2 h
          have fr := fun (a : Nat) (ha : nw_X4_readStreets p1 a) => (w_X4_failsAt e8 a (by unfold nw_X4_readStreets at ha; unfold nw_X4_failsAt; omega)).trans (fr a ha)
          obtain ⟨g11, h⟩ := ab_g h
          obtain ⟨q1, q2⟩ := ab_r2 h
          exact fun a ha => (congrFun q2.symm a).trans (fr a ha)
        · obtain ⟨σ12, e13, h⟩ := ab_1 h
          have fr := fun (a : Nat) (ha : nw_X4_readStreets p1 a) => (ab_fu e13 (show a ≠ 16 by unfold nw_X4_readStreets at ha; omega)).trans (fr a ha)
          obtain ⟨r15, σ16, e14, h⟩ := ab_2 h
          have fr := fun (a : Nat) (ha : nw_X4_readStreets p1 a) => (w_X4_readEnds e14 a (by unfold nw_X4_readStreets at ha; unfold nw_X4_readEnds; omega)).trans (fr a ha)
          rcases ab_i h with ⟨c17, h⟩ | ⟨c17, h⟩
          · obtain ⟨q1, q2⟩ := ab_r2 h
            exact fun a ha => (congrFun q2.symm a).trans (fr a ha)
          · obtain ⟨σ18, e19, h⟩ := ab_1 h
            have fr := fun (a : Nat) (ha : nw_X4_readStreets p1 a) => (ab_fu e19 (show a ≠ p1 by unfold nw_X4_readStreets at ha; omega)).trans (fr a ha)
            exact fun a ha => (hk2 _ _ h a ha).trans (fr a ha)
      · obtain ⟨r21, σ22, e20, h⟩ := ab_2 h
        have fr := fun (a : Nat) (ha : nw_X4_readStreets p1 a) => (w_X4_failsAt e20 a (by unfold nw_X4_readStreets at ha; unfold nw_X4_failsAt; omega)).trans (fr a ha)
        obtain ⟨g23, h⟩ := ab_g h
        obtain ⟨q1, q2⟩ := ab_r2 h
        exact fun a ha => (congrFun q2.symm a).trans (fr a ha)
    · obtain ⟨q1, q2⟩ := ab_r2 h
      exact fun a ha => (congrFun q2.symm a).trans (fr a ha)
  · obtain ⟨q1, q2⟩ := ab_r2 h
    exact fun a ha => (congrFun q2.symm a).trans (fr a ha)
theorem wl_X4_readStreets_2 {n : Nat} {p1 : Nat} {σr : am_Mem} {rr : Int} : ∀ (m : Nat) (x2 : Int) (σ : am_Mem), fl_X4_readStreets_2 n p1 m x2 σ = some (rr, σr) → ∀ a : Nat, nw_X4_readStreets p1 a → σr a = σ a := by
  intro m
  induction m with
  | zero => intro x2 σ h; cases h
  | succ m ih =>
    intro x2 σ h
    exact wb_X4_readStreets_2 (fun x2 σ h => ih x2 σ h) h
theorem w_X4_readStreets {n : Nat} {p1 : Nat} {σ σr : am_Mem} {rr : Int} (h : f_X4_readStreets n p1 σ = some (rr, σr)) : ∀ a : Nat, nw_X4_readStreets p1 a → σr a = σ a := by
  unfold f_X4_readStreets at h
  have fr : ∀ a : Nat, nw_X4_readStreets p1 a → σ a = σ a := fun _ _ => rfl
  exact fun a ha => (wl_X4_readStreets_2 n _ _ h a ha).trans (fr a ha)
/-! MoodFare$Town.clear -/
def f_X5_clear (n : Nat) (t : Nat) (σ : am_Mem) : Option am_Mem :=
  am_b1 (some (am_up σ t 5 0)) fun σ1 => am_b1 (some (am_up σ1 t 6 0)) fun σ3 => am_b1 (some (am_up σ3 t 7 0)) fun σ5 => am_b1 (some (am_up σ5 t 8 0)) fun σ7 => am_b1 (some (am_up σ7 t 9 0)) fun σ9 => am_b1 (some (am_up σ9 t 10 0)) fun σ11 => am_b1 (some (am_up σ11 t 11 0)) fun σ13 => am_b1 (some (am_up σ13 t 12 0)) fun σ15 => some σ15
theorem t_X5_clear {L n d : Nat} {Q : am_Post} {t : Nat} {σ σr : am_Mem} (hd : 0 < d) (ht : tw t) (h : f_X5_clear n t σ = some σr) (hQ : Q none (rm_h L σr)) : xs_aw d me_X5_clear [am_r t] (rm_h L σ) Q := by
  obtain ⟨d, rfl⟩ : ∃ k, d = k + 1 := ⟨d - 1, by omega⟩
  have hd : 0 ≤ d := by omega
  unfold f_X5_clear at h
  show xs_AW (xs_aw d) me_X5_clear Q 0 [some (am_r t)] [] (rm_h L σ)
  refine rr_aload_n dX5_clear_0 rfl ?_
  refine rr_iconst dX5_clear_1 (by decide) ?_
  obtain ⟨σ1, e2, h⟩ := ab_1 h
  refine rr_puti (kz := 5) dX5_clear_2 fl_5_33 (tw_sh ht L) ⟨(tw_ge ht), by decide⟩ ⟨rfl, rfl⟩ rfl (ab_m e2 ?_)
  refine rr_aload_n dX5_clear_5 rfl ?_
  refine rr_iconst dX5_clear_6 (by decide) ?_
  obtain ⟨σ3, e4, h⟩ := ab_1 h
  refine rr_puti (kz := 6) dX5_clear_7 fl_5_37 (tw_sh ht L) ⟨(tw_ge ht), by decide⟩ ⟨rfl, rfl⟩ rfl (ab_m e4 ?_)
  refine rr_aload_n dX5_clear_10 rfl ?_
  refine rr_iconst dX5_clear_11 (by decide) ?_
  obtain ⟨σ5, e6, h⟩ := ab_1 h
  refine rr_puti (kz := 7) dX5_clear_12 fl_5_40 (tw_sh ht L) ⟨(tw_ge ht), by decide⟩ ⟨rfl, rfl⟩ rfl (ab_m e6 ?_)
  refine rr_aload_n dX5_clear_15 rfl ?_
  refine rr_iconst dX5_clear_16 (by decide) ?_
  obtain ⟨σ7, e8, h⟩ := ab_1 h
  refine rr_puti (kz := 8) dX5_clear_17 fl_5_43 (tw_sh ht L) ⟨(tw_ge ht), by decide⟩ ⟨rfl, rfl⟩ rfl (ab_m e8 ?_)
  refine rr_aload_n dX5_clear_20 rfl ?_
  refine rr_iconst dX5_clear_21 (by decide) ?_
  obtain ⟨σ9, e10, h⟩ := ab_1 h
  refine rr_puti (kz := 9) dX5_clear_22 fl_5_46 (tw_sh ht L) ⟨(tw_ge ht), by decide⟩ ⟨rfl, rfl⟩ rfl (ab_m e10 ?_)
  refine rr_aload_n dX5_clear_25 rfl ?_
  refine rr_iconst dX5_clear_26 (by decide) ?_
  obtain ⟨σ11, e12, h⟩ := ab_1 h
  refine rr_puti (kz := 10) dX5_clear_27 fl_5_49 (tw_sh ht L) ⟨(tw_ge ht), by decide⟩ ⟨rfl, rfl⟩ rfl (ab_m e12 ?_)
  refine rr_aload_n dX5_clear_30 rfl ?_
  refine rr_iconst dX5_clear_31 (by decide) ?_
  obtain ⟨σ13, e14, h⟩ := ab_1 h
  refine rr_puti (kz := 11) dX5_clear_32 fl_5_52 (tw_sh ht L) ⟨(tw_ge ht), by decide⟩ ⟨rfl, rfl⟩ rfl (ab_m e14 ?_)
  refine rr_aload_n dX5_clear_35 rfl ?_
  refine rr_iconst dX5_clear_36 (by decide) ?_
  obtain ⟨σ15, e16, h⟩ := ab_1 h
  refine rr_puti (kz := 12) dX5_clear_37 fl_5_55 (tw_sh ht L) ⟨(tw_ge ht), by decide⟩ ⟨rfl, rfl⟩ rfl (ab_m e16 ?_)
  obtain rfl := ab_r1 h
  exact rr_vret dX5_clear_40 rfl hQ
def nw_X5_clear (t : Nat) (a : Nat) : Prop := a ≠ t
theorem w_X5_clear {n : Nat} {t : Nat} {σ σr : am_Mem} (h : f_X5_clear n t σ = some σr) : ∀ a : Nat, nw_X5_clear t a → σr a = σ a := by
  unfold f_X5_clear at h
  have fr : ∀ a : Nat, nw_X5_clear t a → σ a = σ a := fun _ _ => rfl
  obtain ⟨σ1, e2, h⟩ := ab_1 h
  have fr := fun (a : Nat) (ha : nw_X5_clear t a) => (ab_fu e2 (show a ≠ t by unfold nw_X5_clear at ha; omega)).trans (fr a ha)
  obtain ⟨σ3, e4, h⟩ := ab_1 h
  have fr := fun (a : Nat) (ha : nw_X5_clear t a) => (ab_fu e4 (show a ≠ t by unfold nw_X5_clear at ha; omega)).trans (fr a ha)
  obtain ⟨σ5, e6, h⟩ := ab_1 h
  have fr := fun (a : Nat) (ha : nw_X5_clear t a) => (ab_fu e6 (show a ≠ t by unfold nw_X5_clear at ha; omega)).trans (fr a ha)
  obtain ⟨σ7, e8, h⟩ := ab_1 h
  have fr := fun (a : Nat) (ha : nw_X5_clear t a) => (ab_fu e8 (show a ≠ t by unfold nw_X5_clear at ha; omega)).trans (fr a ha)
  obtain ⟨σ9, e10, h⟩ := ab_1 h
  have fr := fun (a : Nat) (ha : nw_X5_clear t a) => (ab_fu e10 (show a ≠ t by unfold nw_X5_clear at ha; omega)).trans (fr a ha)
  obtain ⟨σ11, e12, h⟩ := ab_1 h
  have fr := fun (a : Nat) (ha : nw_X5_clear t a) => (ab_fu e12 (show a ≠ t by unfold nw_X5_clear at ha; omega)).trans (fr a ha)
  obtain ⟨σ13, e14, h⟩ := ab_1 h
  have fr := fun (a : Nat) (ha : nw_X5_clear t a) => (ab_fu e14 (show a ≠ t by unfold nw_X5_clear at ha; omega)).trans (fr a ha)
  obtain ⟨σ15, e16, h⟩ := ab_1 h
  have fr := fun (a : Nat) (ha : nw_X5_clear t a) => (ab_fu e16 (show a ≠ t by unfold nw_X5_clear at ha; omega)).trans (fr a ha)
  have q2 := ab_r1 h
  exact fun a ha => (congrFun q2.symm a).trans (fr a ha)
/-! MoodFare$Tape.readInto -/
def f_X4_readInto (n : Nat) (p1 : Nat) (σ : am_Mem) : Option (Int × am_Mem) :=
  am_b1 (f_X5_clear n p1 σ) fun σ3 => am_b1 (some (am_up σ3 16 4 0)) fun σ4 => am_b2 (f_X4_readLaw n p1 σ4) fun r7 σ8 => if r7 = 0 then (some (0, σ8)) else (am_b2 (f_X4_readCorners n p1 σ8) fun r11 σ12 => if r11 = 0 then (some (0, σ12)) else (am_b2 (f_X4_readStreets n p1 σ12) fun r15 σ16 => if r15 = 0 then (some (0, σ16)) else (am_b1 (some (am_up σ16 p1 8 (am_w ((am_shl 1 (σ16 p1 6)) - 1)))) fun σ18 => some (1, σ18))))
theorem t_X4_readInto {L n d : Nat} {Q : am_Post} {p1 : Nat} {σ σr : am_Mem} {rr : Int} (hd : 4 < d) (ht_p1 : tw p1) (h : f_X4_readInto n p1 σ = some (rr, σr)) (hQ : Q (some (am_i rr)) (rm_h L σr)) : xs_aw d me_X4_readInto [am_r 16, am_r p1] (rm_h L σ) Q := by
  obtain ⟨d, rfl⟩ : ∃ k, d = k + 1 := ⟨d - 1, by omega⟩
  have hd : 4 ≤ d := by omega
  unfold f_X4_readInto at h
  show xs_AW (xs_aw d) me_X4_readInto Q 0 [some (am_r 16), some (am_r p1)] [] (rm_h L σ)
  refine rr_aload_n dX4_readInto_0 rfl ?_
  obtain ⟨σ3, e1, h⟩ := ab_1 h
  refine rr_Vv (as := []) (rest := []) dX4_readInto_1 ml_4_19 (tw_sh ht_p1 L) ⟨(tw_ge ht_p1), by decide, by decide⟩ rfl rfl rfl (Nat.le_of_ble_eq_true rfl) ⟨rfl, rfl⟩ (Nat.le_of_ble_eq_true rfl) (fun _ k => t_X5_clear (by omega) ht_p1 e1 k) ?_
  refine rr_aload_n dX4_readInto_4 rfl ?_
  refine rr_iconst dX4_readInto_5 (by decide) ?_
  obtain ⟨σ4, e5, h⟩ := ab_1 h
  refine rr_puti (kz := 4) dX4_readInto_6 fl_4_24 (sh_16 L) ⟨(by decide), by decide⟩ ⟨rfl, rfl⟩ rfl (ab_m e5 ?_)
  refine rr_aload_n dX4_readInto_9 rfl ?_
  refine rr_aload_n dX4_readInto_10 rfl ?_
  obtain ⟨r7, σ8, e6, h⟩ := ab_2 h
  refine rr_Vi (as := [am_r p1]) (rest := []) dX4_readInto_11 ml_4_27 (sh_16 L) ⟨(by decide), by decide, by decide⟩ rfl rfl rfl (Nat.le_of_ble_eq_true rfl) ⟨rfl, rfl⟩ (Nat.le_of_ble_eq_true rfl) (fun _ k => t_X4_readLaw (by omega) ht_p1 e6 k) ?_
  rcases ab_i h with ⟨c9, h⟩ | ⟨c9, h⟩
  · refine rr_if_eq_p (t := 33) dX4_readInto_14 (by decide) c9 ?_
    refine rr_iconst dX4_readInto_33 (by decide) ?_
    obtain ⟨rfl, rfl⟩ := ab_r2 h
    exact rr_zret dX4_readInto_34 rfl (Or.inl rfl) hQ
  · refine rr_if_eq_n (t := 33) dX4_readInto_14 (by decide) c9 ?_
    refine rr_aload_n dX4_readInto_17 rfl ?_
    refine rr_aload_n dX4_readInto_18 rfl ?_
    obtain ⟨r11, σ12, e10, h⟩ := ab_2 h
    refine rr_Vi (as := [am_r p1]) (rest := []) dX4_readInto_19 ml_4_31 (sh_16 L) ⟨(by decide), by decide, by decide⟩ rfl rfl rfl (Nat.le_of_ble_eq_true rfl) ⟨rfl, rfl⟩ (Nat.le_of_ble_eq_true rfl) (fun _ k => t_X4_readCorners (by omega) ht_p1 e10 k) ?_
    rcases ab_i h with ⟨c13, h⟩ | ⟨c13, h⟩
    · refine rr_if_eq_p (t := 33) dX4_readInto_22 (by decide) c13 ?_
      refine rr_iconst dX4_readInto_33 (by decide) ?_
      obtain ⟨rfl, rfl⟩ := ab_r2 h
      exact rr_zret dX4_readInto_34 rfl (Or.inl rfl) hQ
    · refine rr_if_eq_n (t := 33) dX4_readInto_22 (by decide) c13 ?_
      refine rr_aload_n dX4_readInto_25 rfl ?_
      refine rr_aload_n dX4_readInto_26 rfl ?_
      obtain ⟨r15, σ16, e14, h⟩ := ab_2 h
      refine rr_Vi (as := [am_r p1]) (rest := []) dX4_readInto_27 ml_4_34 (sh_16 L) ⟨(by decide), by decide, by decide⟩ rfl rfl rfl (Nat.le_of_ble_eq_true rfl) ⟨rfl, rfl⟩ (Nat.le_of_ble_eq_true rfl) (fun _ k => t_X4_readStreets (by omega) ht_p1 e14 k) ?_
      rcases ab_i h with ⟨c17, h⟩ | ⟨c17, h⟩
      · refine rr_if_ne_p (t := 35) dX4_readInto_30 (by decide) c17 ?_
        refine rr_iconst dX4_readInto_33 (by decide) ?_
        obtain ⟨rfl, rfl⟩ := ab_r2 h
        exact rr_zret dX4_readInto_34 rfl (Or.inl rfl) hQ
      · refine rr_if_ne_n (t := 35) dX4_readInto_30 (by decide) c17 ?_
        refine rr_aload_n dX4_readInto_35 rfl ?_
        refine rr_iconst dX4_readInto_36 (by decide) ?_
        refine rr_aload_n dX4_readInto_37 rfl ?_
        refine rr_geti (kz := 6) dX4_readInto_38 fl_4_37 (tw_sh ht_p1 L) ⟨(tw_ge ht_p1), by decide⟩ rfl rfl ?_
        refine rr_ishl dX4_readInto_41 ?_
        refine rr_iconst dX4_readInto_42 (by decide) ?_
        refine rr_isub dX4_readInto_43 ?_
        obtain ⟨σ18, e19, h⟩ := ab_1 h
        refine rr_puti (kz := 8) dX4_readInto_44 fl_4_40 (tw_sh ht_p1 L) ⟨(tw_ge ht_p1), by decide⟩ ⟨rfl, rfl⟩ rfl (ab_m e19 ?_)
        refine rr_iconst dX4_readInto_47 (by decide) ?_
        obtain ⟨rfl, rfl⟩ := ab_r2 h
        exact rr_zret dX4_readInto_48 rfl (Or.inr rfl) hQ
def nw_X4_readInto (p1 : Nat) (a : Nat) : Prop := a ≠ 16 ∧ a ≠ p1 + 1 ∧ a ≠ p1 + 2 ∧ a ≠ p1 + 3 ∧ a ≠ p1 + 4 ∧ a ≠ p1 + 5 ∧ a ≠ p1
theorem w_X4_readInto {n : Nat} {p1 : Nat} {σ σr : am_Mem} {rr : Int} (h : f_X4_readInto n p1 σ = some (rr, σr)) : ∀ a : Nat, nw_X4_readInto p1 a → σr a = σ a := by
  unfold f_X4_readInto at h
  have fr : ∀ a : Nat, nw_X4_readInto p1 a → σ a = σ a := fun _ _ => rfl
  obtain ⟨σ3, e1, h⟩ := ab_1 h
  have fr := fun (a : Nat) (ha : nw_X4_readInto p1 a) => (w_X5_clear e1 a (by unfold nw_X4_readInto at ha; unfold nw_X5_clear; omega)).trans (fr a ha)
  obtain ⟨σ4, e5, h⟩ := ab_1 h
  have fr := fun (a : Nat) (ha : nw_X4_readInto p1 a) => (ab_fu e5 (show a ≠ 16 by unfold nw_X4_readInto at ha; omega)).trans (fr a ha)
  obtain ⟨r7, σ8, e6, h⟩ := ab_2 h
  have fr := fun (a : Nat) (ha : nw_X4_readInto p1 a) => (w_X4_readLaw e6 a (by unfold nw_X4_readInto at ha; unfold nw_X4_readLaw; omega)).trans (fr a ha)
  rcases ab_i h with ⟨c9, h⟩ | ⟨c9, h⟩
  · obtain ⟨q1, q2⟩ := ab_r2 h
    exact fun a ha => (congrFun q2.symm a).trans (fr a ha)
  · obtain ⟨r11, σ12, e10, h⟩ := ab_2 h
    have fr := fun (a : Nat) (ha : nw_X4_readInto p1 a) => (w_X4_readCorners e10 a (by unfold nw_X4_readInto at ha; unfold nw_X4_readCorners; omega)).trans (fr a ha)
    rcases ab_i h with ⟨c13, h⟩ | ⟨c13, h⟩
    · obtain ⟨q1, q2⟩ := ab_r2 h
      exact fun a ha => (congrFun q2.symm a).trans (fr a ha)
    · obtain ⟨r15, σ16, e14, h⟩ := ab_2 h
      have fr := fun (a : Nat) (ha : nw_X4_readInto p1 a) => (w_X4_readStreets e14 a (by unfold nw_X4_readInto at ha; unfold nw_X4_readStreets; omega)).trans (fr a ha)
      rcases ab_i h with ⟨c17, h⟩ | ⟨c17, h⟩
      · obtain ⟨q1, q2⟩ := ab_r2 h
        exact fun a ha => (congrFun q2.symm a).trans (fr a ha)
      · obtain ⟨σ18, e19, h⟩ := ab_1 h
        have fr := fun (a : Nat) (ha : nw_X4_readInto p1 a) => (ab_fu e19 (show a ≠ p1 by unfold nw_X4_readInto at ha; omega)).trans (fr a ha)
        obtain ⟨q1, q2⟩ := ab_r2 h
        exact fun a ha => (congrFun q2.symm a).trans (fr a ha)
/-! MoodFare$Town.become -/
def f_X5_become (n : Nat) (t : Nat) (p1 : Nat) (σ : am_Mem) : Option am_Mem :=
  am_b1 (some (am_cpy σ (p1 + 1) 0 (t + 1) 0 6)) fun σ2 => am_b1 (some (am_cpy σ2 (p1 + 2) 0 (t + 2) 0 6)) fun σ5 => am_b1 (some (am_cpy σ5 (p1 + 3) 0 (t + 3) 0 6)) fun σ8 => am_b1 (some (am_cpy σ8 (p1 + 4) 0 (t + 4) 0 8)) fun σ11 => am_b1 (some (am_cpy σ11 (p1 + 5) 0 (t + 5) 0 8)) fun σ14 => am_b1 (some (am_up σ14 t 5 (σ14 p1 5))) fun σ16 => am_b1 (some (am_up σ16 t 6 (σ16 p1 6))) fun σ18 => am_b1 (some (am_up σ18 t 7 (σ18 p1 7))) fun σ20 => am_b1 (some (am_up σ20 t 8 (σ20 p1 8))) fun σ22 => am_b1 (some (am_up σ22 t 9 (σ22 p1 9))) fun σ24 => am_b1 (some (am_up σ24 t 10 (σ24 p1 10))) fun σ26 => am_b1 (some (am_up σ26 t 11 (σ26 p1 11))) fun σ28 => am_b1 (some (am_up σ28 t 12 (σ28 p1 12))) fun σ30 => some σ30
theorem t_X5_become {L n d : Nat} {Q : am_Post} {t : Nat} {p1 : Nat} {σ σr : am_Mem} (hd : 0 < d) (ht : tw t) (ht_p1 : tw p1) (h : f_X5_become n t p1 σ = some σr) (hQ : Q none (rm_h L σr)) : xs_aw d me_X5_become [am_r t, am_r p1] (rm_h L σ) Q := by
  obtain ⟨d, rfl⟩ : ∃ k, d = k + 1 := ⟨d - 1, by omega⟩
  have hd : 0 ≤ d := by omega
  unfold f_X5_become at h
  show xs_AW (xs_aw d) me_X5_become Q 0 [some (am_r t), some (am_r p1)] [] (rm_h L σ)
  refine rr_aload_n dX5_become_0 rfl ?_
  refine rr_getr (t := (p1 + 1)) dX5_become_1 fl_5_9 (tw_sh ht_p1 L) ⟨(tw_ge ht_p1), by decide⟩ rfl rfl ?_
  refine rr_iconst dX5_become_4 (by decide) ?_
  refine rr_aload_n dX5_become_5 rfl ?_
  refine rr_getr (t := (t + 1)) dX5_become_6 fl_5_9 (tw_sh ht L) ⟨(tw_ge ht), by decide⟩ rfl rfl ?_
  refine rr_iconst dX5_become_9 (by decide) ?_
  refine rr_bipush dX5_become_10 (by decide) ?_
  refine rr_acp (naz := 6) (nbz := 6) dX5_become_12 ml_5_27 (tw_a1 ht_p1 L) (tw_a1 ht L) ⟨(Nat.le_trans (tw_ge ht_p1) (Nat.le_add_right _ _)), (Nat.le_trans (tw_ge ht) (Nat.le_add_right _ _))⟩ rfl rfl (by decide) (Nat.le_of_ble_eq_true rfl) ?_
  obtain ⟨σ2, e3, h⟩ := ab_1 h
  refine ab_m e3 ?_
  refine rr_aload_n dX5_become_15 rfl ?_
  refine rr_getr (t := (p1 + 2)) dX5_become_16 fl_5_15 (tw_sh ht_p1 L) ⟨(tw_ge ht_p1), by decide⟩ rfl rfl ?_
  refine rr_iconst dX5_become_19 (by decide) ?_
  refine rr_aload_n dX5_become_20 rfl ?_
  refine rr_getr (t := (t + 2)) dX5_become_21 fl_5_15 (tw_sh ht L) ⟨(tw_ge ht), by decide⟩ rfl rfl ?_
  refine rr_iconst dX5_become_24 (by decide) ?_
  refine rr_bipush dX5_become_25 (by decide) ?_
  refine rr_acp (naz := 6) (nbz := 6) dX5_become_27 ml_5_27 (tw_a2 ht_p1 L) (tw_a2 ht L) ⟨(Nat.le_trans (tw_ge ht_p1) (Nat.le_add_right _ _)), (Nat.le_trans (tw_ge ht) (Nat.le_add_right _ _))⟩ rfl rfl (by decide) (Nat.le_of_ble_eq_true rfl) ?_
  obtain ⟨σ5, e6, h⟩ := ab_1 h
  refine ab_m e6 ?_
  refine rr_aload_n dX5_become_30 rfl ?_
  refine rr_getr (t := (p1 + 3)) dX5_become_31 fl_5_18 (tw_sh ht_p1 L) ⟨(tw_ge ht_p1), by decide⟩ rfl rfl ?_
  refine rr_iconst dX5_become_34 (by decide) ?_
  refine rr_aload_n dX5_become_35 rfl ?_
  refine rr_getr (t := (t + 3)) dX5_become_36 fl_5_18 (tw_sh ht L) ⟨(tw_ge ht), by decide⟩ rfl rfl ?_
  refine rr_iconst dX5_become_39 (by decide) ?_
  refine rr_bipush dX5_become_40 (by decide) ?_
  refine rr_acp (naz := 6) (nbz := 6) dX5_become_42 ml_5_27 (tw_a3 ht_p1 L) (tw_a3 ht L) ⟨(Nat.le_trans (tw_ge ht_p1) (Nat.le_add_right _ _)), (Nat.le_trans (tw_ge ht) (Nat.le_add_right _ _))⟩ rfl rfl (by decide) (Nat.le_of_ble_eq_true rfl) ?_
  obtain ⟨σ8, e9, h⟩ := ab_1 h
  refine ab_m e9 ?_
  refine rr_aload_n dX5_become_45 rfl ?_
  refine rr_getr (t := (p1 + 4)) dX5_become_46 fl_5_21 (tw_sh ht_p1 L) ⟨(tw_ge ht_p1), by decide⟩ rfl rfl ?_
  refine rr_iconst dX5_become_49 (by decide) ?_
  refine rr_aload_n dX5_become_50 rfl ?_
  refine rr_getr (t := (t + 4)) dX5_become_51 fl_5_21 (tw_sh ht L) ⟨(tw_ge ht), by decide⟩ rfl rfl ?_
  refine rr_iconst dX5_become_54 (by decide) ?_
  refine rr_bipush dX5_become_55 (by decide) ?_
  refine rr_acp (naz := 8) (nbz := 8) dX5_become_57 ml_5_27 (tw_a4 ht_p1 L) (tw_a4 ht L) ⟨(Nat.le_trans (tw_ge ht_p1) (Nat.le_add_right _ _)), (Nat.le_trans (tw_ge ht) (Nat.le_add_right _ _))⟩ rfl rfl (by decide) (Nat.le_of_ble_eq_true rfl) ?_
  obtain ⟨σ11, e12, h⟩ := ab_1 h
  refine ab_m e12 ?_
  refine rr_aload_n dX5_become_60 rfl ?_
  refine rr_getr (t := (p1 + 5)) dX5_become_61 fl_5_24 (tw_sh ht_p1 L) ⟨(tw_ge ht_p1), by decide⟩ rfl rfl ?_
  refine rr_iconst dX5_become_64 (by decide) ?_
  refine rr_aload_n dX5_become_65 rfl ?_
  refine rr_getr (t := (t + 5)) dX5_become_66 fl_5_24 (tw_sh ht L) ⟨(tw_ge ht), by decide⟩ rfl rfl ?_
  refine rr_iconst dX5_become_69 (by decide) ?_
  refine rr_bipush dX5_become_70 (by decide) ?_
  refine rr_acp (naz := 8) (nbz := 8) dX5_become_72 ml_5_27 (tw_a5 ht_p1 L) (tw_a5 ht L) ⟨(Nat.le_trans (tw_ge ht_p1) (Nat.le_add_right _ _)), (Nat.le_trans (tw_ge ht) (Nat.le_add_right _ _))⟩ rfl rfl (by decide) (Nat.le_of_ble_eq_true rfl) ?_
  obtain ⟨σ14, e15, h⟩ := ab_1 h
  refine ab_m e15 ?_
  refine rr_aload_n dX5_become_75 rfl ?_
  refine rr_aload_n dX5_become_76 rfl ?_
  refine rr_geti (kz := 5) dX5_become_77 fl_5_33 (tw_sh ht_p1 L) ⟨(tw_ge ht_p1), by decide⟩ rfl rfl ?_
  obtain ⟨σ16, e17, h⟩ := ab_1 h
  refine rr_puti (kz := 5) dX5_become_80 fl_5_33 (tw_sh ht L) ⟨(tw_ge ht), by decide⟩ ⟨rfl, rfl⟩ rfl (ab_m e17 ?_)
  refine rr_aload_n dX5_become_83 rfl ?_
  refine rr_aload_n dX5_become_84 rfl ?_
  refine rr_geti (kz := 6) dX5_become_85 fl_5_37 (tw_sh ht_p1 L) ⟨(tw_ge ht_p1), by decide⟩ rfl rfl ?_
  obtain ⟨σ18, e19, h⟩ := ab_1 h
  refine rr_puti (kz := 6) dX5_become_88 fl_5_37 (tw_sh ht L) ⟨(tw_ge ht), by decide⟩ ⟨rfl, rfl⟩ rfl (ab_m e19 ?_)
  refine rr_aload_n dX5_become_91 rfl ?_
  refine rr_aload_n dX5_become_92 rfl ?_
  refine rr_geti (kz := 7) dX5_become_93 fl_5_40 (tw_sh ht_p1 L) ⟨(tw_ge ht_p1), by decide⟩ rfl rfl ?_
  obtain ⟨σ20, e21, h⟩ := ab_1 h
  refine rr_puti (kz := 7) dX5_become_96 fl_5_40 (tw_sh ht L) ⟨(tw_ge ht), by decide⟩ ⟨rfl, rfl⟩ rfl (ab_m e21 ?_)
  refine rr_aload_n dX5_become_99 rfl ?_
  refine rr_aload_n dX5_become_100 rfl ?_
  refine rr_geti (kz := 8) dX5_become_101 fl_5_43 (tw_sh ht_p1 L) ⟨(tw_ge ht_p1), by decide⟩ rfl rfl ?_
  obtain ⟨σ22, e23, h⟩ := ab_1 h
  refine rr_puti (kz := 8) dX5_become_104 fl_5_43 (tw_sh ht L) ⟨(tw_ge ht), by decide⟩ ⟨rfl, rfl⟩ rfl (ab_m e23 ?_)
  refine rr_aload_n dX5_become_107 rfl ?_
  refine rr_aload_n dX5_become_108 rfl ?_
  refine rr_geti (kz := 9) dX5_become_109 fl_5_46 (tw_sh ht_p1 L) ⟨(tw_ge ht_p1), by decide⟩ rfl rfl ?_
  obtain ⟨σ24, e25, h⟩ := ab_1 h
  refine rr_puti (kz := 9) dX5_become_112 fl_5_46 (tw_sh ht L) ⟨(tw_ge ht), by decide⟩ ⟨rfl, rfl⟩ rfl (ab_m e25 ?_)
  refine rr_aload_n dX5_become_115 rfl ?_
  refine rr_aload_n dX5_become_116 rfl ?_
  refine rr_geti (kz := 10) dX5_become_117 fl_5_49 (tw_sh ht_p1 L) ⟨(tw_ge ht_p1), by decide⟩ rfl rfl ?_
  obtain ⟨σ26, e27, h⟩ := ab_1 h
  refine rr_puti (kz := 10) dX5_become_120 fl_5_49 (tw_sh ht L) ⟨(tw_ge ht), by decide⟩ ⟨rfl, rfl⟩ rfl (ab_m e27 ?_)
  refine rr_aload_n dX5_become_123 rfl ?_
  refine rr_aload_n dX5_become_124 rfl ?_
  refine rr_geti (kz := 11) dX5_become_125 fl_5_52 (tw_sh ht_p1 L) ⟨(tw_ge ht_p1), by decide⟩ rfl rfl ?_
  obtain ⟨σ28, e29, h⟩ := ab_1 h
  refine rr_puti (kz := 11) dX5_become_128 fl_5_52 (tw_sh ht L) ⟨(tw_ge ht), by decide⟩ ⟨rfl, rfl⟩ rfl (ab_m e29 ?_)
  refine rr_aload_n dX5_become_131 rfl ?_
  refine rr_aload_n dX5_become_132 rfl ?_
  refine rr_geti (kz := 12) dX5_become_133 fl_5_55 (tw_sh ht_p1 L) ⟨(tw_ge ht_p1), by decide⟩ rfl rfl ?_
  obtain ⟨σ30, e31, h⟩ := ab_1 h
  refine rr_puti (kz := 12) dX5_become_136 fl_5_55 (tw_sh ht L) ⟨(tw_ge ht), by decide⟩ ⟨rfl, rfl⟩ rfl (ab_m e31 ?_)
  obtain rfl := ab_r1 h
  exact rr_vret dX5_become_139 rfl hQ
def nw_X5_become (t : Nat) (p1 : Nat) (a : Nat) : Prop := a ≠ t + 1 ∧ a ≠ t + 2 ∧ a ≠ t + 3 ∧ a ≠ t + 4 ∧ a ≠ t + 5 ∧ a ≠ t
theorem w_X5_become {n : Nat} {t : Nat} {p1 : Nat} {σ σr : am_Mem} (h : f_X5_become n t p1 σ = some σr) : ∀ a : Nat, nw_X5_become t p1 a → σr a = σ a := by
  unfold f_X5_become at h
  have fr : ∀ a : Nat, nw_X5_become t p1 a → σ a = σ a := fun _ _ => rfl
  obtain ⟨σ2, e3, h⟩ := ab_1 h
  have fr := fun (a : Nat) (ha : nw_X5_become t p1 a) => (ab_fc e3 (show a ≠ (t + 1) by unfold nw_X5_become at ha; omega)).trans (fr a ha)
  obtain ⟨σ5, e6, h⟩ := ab_1 h
  have fr := fun (a : Nat) (ha : nw_X5_become t p1 a) => (ab_fc e6 (show a ≠ (t + 2) by unfold nw_X5_become at ha; omega)).trans (fr a ha)
  obtain ⟨σ8, e9, h⟩ := ab_1 h
  have fr := fun (a : Nat) (ha : nw_X5_become t p1 a) => (ab_fc e9 (show a ≠ (t + 3) by unfold nw_X5_become at ha; omega)).trans (fr a ha)
  obtain ⟨σ11, e12, h⟩ := ab_1 h
  have fr := fun (a : Nat) (ha : nw_X5_become t p1 a) => (ab_fc e12 (show a ≠ (t + 4) by unfold nw_X5_become at ha; omega)).trans (fr a ha)
  obtain ⟨σ14, e15, h⟩ := ab_1 h
  have fr := fun (a : Nat) (ha : nw_X5_become t p1 a) => (ab_fc e15 (show a ≠ (t + 5) by unfold nw_X5_become at ha; omega)).trans (fr a ha)
  obtain ⟨σ16, e17, h⟩ := ab_1 h
  have fr := fun (a : Nat) (ha : nw_X5_become t p1 a) => (ab_fu e17 (show a ≠ t by unfold nw_X5_become at ha; omega)).trans (fr a ha)
  obtain ⟨σ18, e19, h⟩ := ab_1 h
  have fr := fun (a : Nat) (ha : nw_X5_become t p1 a) => (ab_fu e19 (show a ≠ t by unfold nw_X5_become at ha; omega)).trans (fr a ha)
  obtain ⟨σ20, e21, h⟩ := ab_1 h
  have fr := fun (a : Nat) (ha : nw_X5_become t p1 a) => (ab_fu e21 (show a ≠ t by unfold nw_X5_become at ha; omega)).trans (fr a ha)
  obtain ⟨σ22, e23, h⟩ := ab_1 h
  have fr := fun (a : Nat) (ha : nw_X5_become t p1 a) => (ab_fu e23 (show a ≠ t by unfold nw_X5_become at ha; omega)).trans (fr a ha)
  obtain ⟨σ24, e25, h⟩ := ab_1 h
  have fr := fun (a : Nat) (ha : nw_X5_become t p1 a) => (ab_fu e25 (show a ≠ t by unfold nw_X5_become at ha; omega)).trans (fr a ha)
  obtain ⟨σ26, e27, h⟩ := ab_1 h
  have fr := fun (a : Nat) (ha : nw_X5_become t p1 a) => (ab_fu e27 (show a ≠ t by unfold nw_X5_become at ha; omega)).trans (fr a ha)
  obtain ⟨σ28, e29, h⟩ := ab_1 h
  have fr := fun (a : Nat) (ha : nw_X5_become t p1 a) => (ab_fu e29 (show a ≠ t by unfold nw_X5_become at ha; omega)).trans (fr a ha)
  obtain ⟨σ30, e31, h⟩ := ab_1 h
  have fr := fun (a : Nat) (ha : nw_X5_become t p1 a) => (ab_fu e31 (show a ≠ t by unfold nw_X5_become at ha; omega)).trans (fr a ha)
  have q2 := ab_r1 h
  exact fun a ha => (congrFun q2.symm a).trans (fr a ha)
/-! MoodFare$Acts.keep -/
def fb_X0_keep_32 (n : Nat) (x1 : Int) (x2 : Int) (x3 : Int) (x4 : Int) (σ : am_Mem) : Option am_Mem :=
  if (0 : Int) ≤ Int.tmod (am_w ((σ 43 1) + (σ 43 2))) 24 ∧ Int.tmod (am_w ((σ 43 1) + (σ 43 2))) 24 < 24 then am_b1 (some (am_up σ (45 + (Int.tmod (am_w ((σ 43 1) + (σ 43 2))) 24).toNat) 0 x1)) fun σ7 => am_b1 (some (am_up σ7 (45 + (Int.tmod (am_w ((σ 43 1) + (σ 43 2))) 24).toNat) 1 x2)) fun σ9 => am_b1 (some (am_up σ9 (45 + (Int.tmod (am_w ((σ 43 1) + (σ 43 2))) 24).toNat) 2 x3)) fun σ11 => am_b1 (some (am_up σ11 (45 + (Int.tmod (am_w ((σ 43 1) + (σ 43 2))) 24).toNat) 3 x4)) fun σ13 => am_b1 (some (am_up σ13 43 2 (am_w ((σ13 43 2) + 1)))) fun σ15 => some σ15 else none
def f_X0_keep (n : Nat) (p1 : Int) (p2 : Int) (p3 : Int) (p4 : Int) (σ : am_Mem) : Option am_Mem :=
  if σ 43 2 = 24 then (am_b1 (some (am_up σ 43 1 (Int.tmod (am_w ((σ 43 1) + 1)) 24))) fun σ2 => am_b1 (some (am_up σ2 43 2 (am_w ((σ2 43 2) - 1)))) fun σ4 => fb_X0_keep_32 n p1 p2 p3 p4 σ4) else (fb_X0_keep_32 n p1 p2 p3 p4 σ)
theorem tb_X0_keep_32 {L n d : Nat} {Q : am_Post} {x1 : Int} {x2 : Int} {x3 : Int} {x4 : Int} {o5 : Option am_V} {σ σr : am_Mem} (hd : 0 ≤ d) (hQ : Q none (rm_h L σr)) (h : fb_X0_keep_32 n x1 x2 x3 x4 σ = some σr) : xs_AW (xs_aw d) me_X0_keep Q 32 [some (am_r 43), some (am_i x1), some (am_i x2), some (am_i x3), some (am_i x4), o5] [] (rm_h L σ) := by
  unfold fb_X0_keep_32 at h
  refine rr_aload_n dX0_keep_32 rfl ?_
  refine rr_getr (t := 44) dX0_keep_33 fl_0_11 (sh_43 L) ⟨(by decide), by decide⟩ rfl rfl ?_
  refine rr_aload_n dX0_keep_36 rfl ?_
  refine rr_geti (kz := 1) dX0_keep_37 fl_0_16 (sh_43 L) ⟨(by decide), by decide⟩ rfl rfl ?_
  refine rr_aload_n dX0_keep_40 rfl ?_
  refine rr_geti (kz := 2) dX0_keep_41 fl_0_20 (sh_43 L) ⟨(by decide), by decide⟩ rfl rfl ?_
  refine rr_iadd dX0_keep_44 ?_
  refine rr_bipush dX0_keep_45 (by decide) ?_
  refine rr_irem dX0_keep_47 (by decide) ?_
  obtain ⟨g6, h⟩ := ab_g h
  refine rr_aald (nz := 24) (t := (45 + (Int.tmod (am_w ((σ 43 1) + (σ 43 2))) 24).toNat)) dX0_keep_48 (sh_44 L) ⟨(by decide), Or.inr rfl⟩ rfl g6 (er_44 g6) ?_
  refine rr_astore (ls' := [some (am_r 43), some (am_i x1), some (am_i x2), some (am_i x3), some (am_i x4), some (am_r (45 + (Int.tmod (am_w ((σ 43 1) + (σ 43 2))) 24).toNat))]) dX0_keep_49 (Nat.le_of_ble_eq_true rfl) rfl ?_
  refine rr_aload dX0_keep_51 rfl ?_
  refine rr_iconst dX0_keep_53 (by decide) ?_
  refine rr_iload_n dX0_keep_54 rfl ?_
  refine rr_iast (nz := 4) dX0_keep_55 (el_44 g6 L) (Nat.le_trans (by decide) (Nat.le_add_right 45 _)) rfl ⟨by decide, by decide⟩ ?_
  obtain ⟨σ7, e8, h⟩ := ab_1 h
  refine ab_m e8 ?_
  refine rr_aload dX0_keep_56 rfl ?_
  refine rr_iconst dX0_keep_58 (by decide) ?_
  refine rr_iload_n dX0_keep_59 rfl ?_
  refine rr_iast (nz := 4) dX0_keep_60 (el_44 g6 L) (Nat.le_trans (by decide) (Nat.le_add_right 45 _)) rfl ⟨by decide, by decide⟩ ?_
  obtain ⟨σ9, e10, h⟩ := ab_1 h
  refine ab_m e10 ?_
  refine rr_aload dX0_keep_61 rfl ?_
  refine rr_iconst dX0_keep_63 (by decide) ?_
  refine rr_iload_n dX0_keep_64 rfl ?_
  refine rr_iast (nz := 4) dX0_keep_65 (el_44 g6 L) (Nat.le_trans (by decide) (Nat.le_add_right 45 _)) rfl ⟨by decide, by decide⟩ ?_
  obtain ⟨σ11, e12, h⟩ := ab_1 h
  refine ab_m e12 ?_
  refine rr_aload dX0_keep_66 rfl ?_
  refine rr_iconst dX0_keep_68 (by decide) ?_
  refine rr_iload dX0_keep_69 rfl ?_
  refine rr_iast (nz := 4) dX0_keep_71 (el_44 g6 L) (Nat.le_trans (by decide) (Nat.le_add_right 45 _)) rfl ⟨by decide, by decide⟩ ?_
  obtain ⟨σ13, e14, h⟩ := ab_1 h
  refine ab_m e14 ?_
  refine rr_aload_n dX0_keep_72 rfl ?_
  refine rr_dup dX0_keep_73 rfl ?_
  refine rr_geti (kz := 2) dX0_keep_74 fl_0_20 (sh_43 L) ⟨(by decide), by decide⟩ rfl rfl ?_
  refine rr_iconst dX0_keep_77 (by decide) ?_
  refine rr_iadd dX0_keep_78 ?_
  obtain ⟨σ15, e16, h⟩ := ab_1 h
  refine rr_puti (kz := 2) dX0_keep_79 fl_0_20 (sh_43 L) ⟨(by decide), by decide⟩ ⟨rfl, rfl⟩ rfl (ab_m e16 ?_)
  obtain rfl := ab_r1 h
  exact rr_vret dX0_keep_82 rfl hQ
theorem t_X0_keep {L n d : Nat} {Q : am_Post} {p1 : Int} {p2 : Int} {p3 : Int} {p4 : Int} {σ σr : am_Mem} (hd : 0 < d) (h : f_X0_keep n p1 p2 p3 p4 σ = some σr) (hQ : Q none (rm_h L σr)) : xs_aw d me_X0_keep [am_r 43, am_i p1, am_i p2, am_i p3, am_i p4] (rm_h L σ) Q := by
  obtain ⟨d, rfl⟩ : ∃ k, d = k + 1 := ⟨d - 1, by omega⟩
  have hd : 0 ≤ d := by omega
  unfold f_X0_keep at h
  show xs_AW (xs_aw d) me_X0_keep Q 0 [some (am_r 43), some (am_i p1), some (am_i p2), some (am_i p3), some (am_i p4), none] [] (rm_h L σ)
  refine rr_aload_n dX0_keep_0 rfl ?_
  refine rr_geti (kz := 2) dX0_keep_1 fl_0_20 (sh_43 L) ⟨(by decide), by decide⟩ rfl rfl ?_
  refine rr_bipush dX0_keep_4 (by decide) ?_
  rcases ab_i h with ⟨c1, h⟩ | ⟨c1, h⟩
  · refine rr_icmp_ne_p (t := 32) dX0_keep_6 (by decide) c1 ?_
    refine rr_aload_n dX0_keep_9 rfl ?_
    refine rr_aload_n dX0_keep_10 rfl ?_
    refine rr_geti (kz := 1) dX0_keep_11 fl_0_16 (sh_43 L) ⟨(by decide), by decide⟩ rfl rfl ?_
    refine rr_iconst dX0_keep_14 (by decide) ?_
    refine rr_iadd dX0_keep_15 ?_
    refine rr_bipush dX0_keep_16 (by decide) ?_
    refine rr_irem dX0_keep_18 (by decide) ?_
    obtain ⟨σ2, e3, h⟩ := ab_1 h
    refine rr_puti (kz := 1) dX0_keep_19 fl_0_16 (sh_43 L) ⟨(by decide), by decide⟩ ⟨rfl, rfl⟩ rfl (ab_m e3 ?_)
    refine rr_aload_n dX0_keep_22 rfl ?_
    refine rr_dup dX0_keep_23 rfl ?_
    refine rr_geti (kz := 2) dX0_keep_24 fl_0_20 (sh_43 L) ⟨(by decide), by decide⟩ rfl rfl ?_
    refine rr_iconst dX0_keep_27 (by decide) ?_
    refine rr_isub dX0_keep_28 ?_
    obtain ⟨σ4, e5, h⟩ := ab_1 h
    refine rr_puti (kz := 2) dX0_keep_29 fl_0_20 (sh_43 L) ⟨(by decide), by decide⟩ ⟨rfl, rfl⟩ rfl (ab_m e5 ?_)
    exact tb_X0_keep_32 hd hQ h
  · refine rr_icmp_ne_n (t := 32) dX0_keep_6 (by decide) c1 ?_
    exact tb_X0_keep_32 hd hQ h
def nw_X0_keep (a : Nat) : Prop := a ≠ 43 ∧ (a < 45 ∨ 69 ≤ a)
theorem wb_X0_keep_32 {n : Nat} {x1 : Int} {x2 : Int} {x3 : Int} {x4 : Int} {σ σr : am_Mem} (h : fb_X0_keep_32 n x1 x2 x3 x4 σ = some σr) : ∀ a : Nat, nw_X0_keep a → σr a = σ a := by
  unfold fb_X0_keep_32 at h
  have fr : ∀ a : Nat, nw_X0_keep a → σ a = σ a := fun _ _ => rfl
  obtain ⟨g6, h⟩ := ab_g h
  obtain ⟨σ7, e8, h⟩ := ab_1 h
  have fr := fun (a : Nat) (ha : nw_X0_keep a) => (ab_fu e8 (show a ≠ (45 + (Int.tmod (am_w ((σ 43 1) + (σ 43 2))) 24).toNat) by unfold nw_X0_keep at ha; omega)).trans (fr a ha)
  obtain ⟨σ9, e10, h⟩ := ab_1 h
  have fr := fun (a : Nat) (ha : nw_X0_keep a) => (ab_fu e10 (show a ≠ (45 + (Int.tmod (am_w ((σ 43 1) + (σ 43 2))) 24).toNat) by unfold nw_X0_keep at ha; omega)).trans (fr a ha)
  obtain ⟨σ11, e12, h⟩ := ab_1 h
  have fr := fun (a : Nat) (ha : nw_X0_keep a) => (ab_fu e12 (show a ≠ (45 + (Int.tmod (am_w ((σ 43 1) + (σ 43 2))) 24).toNat) by unfold nw_X0_keep at ha; omega)).trans (fr a ha)
  obtain ⟨σ13, e14, h⟩ := ab_1 h
  have fr := fun (a : Nat) (ha : nw_X0_keep a) => (ab_fu e14 (show a ≠ (45 + (Int.tmod (am_w ((σ 43 1) + (σ 43 2))) 24).toNat) by unfold nw_X0_keep at ha; omega)).trans (fr a ha)
  obtain ⟨σ15, e16, h⟩ := ab_1 h
  have fr := fun (a : Nat) (ha : nw_X0_keep a) => (ab_fu e16 (show a ≠ 43 by unfold nw_X0_keep at ha; omega)).trans (fr a ha)
  have q2 := ab_r1 h
  exact fun a ha => (congrFun q2.symm a).trans (fr a ha)
theorem w_X0_keep {n : Nat} {p1 : Int} {p2 : Int} {p3 : Int} {p4 : Int} {σ σr : am_Mem} (h : f_X0_keep n p1 p2 p3 p4 σ = some σr) : ∀ a : Nat, nw_X0_keep a → σr a = σ a := by
  unfold f_X0_keep at h
  have fr : ∀ a : Nat, nw_X0_keep a → σ a = σ a := fun _ _ => rfl
  rcases ab_i h with ⟨c1, h⟩ | ⟨c1, h⟩
  · obtain ⟨σ2, e3, h⟩ := ab_1 h
    have fr := fun (a : Nat) (ha : nw_X0_keep a) => (ab_fu e3 (show a ≠ 43 by unfold nw_X0_keep at ha; omega)).trans (fr a ha)
    obtain ⟨σ4, e5, h⟩ := ab_1 h
    have fr := fun (a : Nat) (ha : nw_X0_keep a) => (ab_fu e5 (show a ≠ 43 by unfold nw_X0_keep at ha; omega)).trans (fr a ha)
    exact fun a ha => (wb_X0_keep_32 h a ha).trans (fr a ha)
  · exact fun a ha => (wb_X0_keep_32 h a ha).trans (fr a ha)
/-! MoodFare$Town.costBetween -/
def f_X5_costBetween (n : Nat) (t : Nat) (p1 : Int) (p2 : Int) (p3 : Int) (σ : am_Mem) : Option (Int × am_Mem) :=
  if (0 : Int) ≤ p1 ∧ p1 < 6 then some (am_w ((am_w ((if 0 ≤ am_w (p3 - p2) then am_w (p3 - p2) else am_w (0 - (am_w (p3 - p2)))) * (σ t 7))) + (σ (t + 3) p1)), σ) else none
theorem t_X5_costBetween {L n d : Nat} {Q : am_Post} {t : Nat} {p1 : Int} {p2 : Int} {p3 : Int} {σ σr : am_Mem} {rr : Int} (hd : 0 < d) (ht : tw t) (h : f_X5_costBetween n t p1 p2 p3 σ = some (rr, σr)) (hQ : Q (some (am_i rr)) (rm_h L σr)) : xs_aw d me_X5_costBetween [am_r t, am_i p1, am_i p2, am_i p3] (rm_h L σ) Q := by
  obtain ⟨d, rfl⟩ : ∃ k, d = k + 1 := ⟨d - 1, by omega⟩
  have hd : 0 ≤ d := by omega
  unfold f_X5_costBetween at h
  show xs_AW (xs_aw d) me_X5_costBetween Q 0 [some (am_r t), some (am_i p1), some (am_i p2), some (am_i p3)] [] (rm_h L σ)
  refine rr_iload_n dX5_costBetween_0 rfl ?_
  refine rr_iload_n dX5_costBetween_1 rfl ?_
  refine rr_isub dX5_costBetween_2 ?_
  refine rr_abs dX5_costBetween_3 ml_5_78 (Nat.le_of_ble_eq_true rfl) ?_
  refine rr_aload_n dX5_costBetween_6 rfl ?_
  refine rr_geti (kz := 7) dX5_costBetween_7 fl_5_40 (tw_sh ht L) ⟨(tw_ge ht), by decide⟩ rfl rfl ?_
  refine rr_imul dX5_costBetween_10 ?_
  refine rr_aload_n dX5_costBetween_11 rfl ?_
  refine rr_getr (t := (t + 3)) dX5_costBetween_12 fl_5_18 (tw_sh ht L) ⟨(tw_ge ht), by decide⟩ rfl rfl ?_
  refine rr_iload_n dX5_costBetween_15 rfl ?_
  obtain ⟨g1, h⟩ := ab_g h
  refine rr_iald (nz := 6) dX5_costBetween_16 (tw_a3 ht L) rfl g1 ?_
  refine rr_iadd dX5_costBetween_17 ?_
  obtain ⟨rfl, rfl⟩ := ab_r2 h
  exact rr_iret dX5_costBetween_18 rfl hQ
theorem u_X5_costBetween {n : Nat} {t : Nat} {p1 : Int} {p2 : Int} {p3 : Int} {σ σr : am_Mem} {rr : Int} (h : f_X5_costBetween n t p1 p2 p3 σ = some (rr, σr)) : σr = σ := by
  unfold f_X5_costBetween at h
  have fr : σ = σ := rfl
  obtain ⟨g1, h⟩ := ab_g h
  obtain ⟨q1, q2⟩ := ab_r2 h
  exact q2.symm.trans fr
/-! MoodFare$Town.moodBehind -/
def f_X5_moodBehind (n : Nat) (t : Nat) (p1 : Int) (p2 : Int) (p3 : Int) (σ : am_Mem) : Option (Int × am_Mem) :=
  if (0 : Int) ≤ p1 ∧ p1 < 6 then if σ (t + 1) p1 = 1 then (some (if am_w (p2 + (σ (t + 2) p1)) < 9 then am_w (p2 + (σ (t + 2) p1)) else 9, σ)) else (if σ (t + 1) p1 = 2 then (if p2 ≤ 4 then (some (if am_w (p2 + (σ (t + 2) p1)) < 9 then am_w (p2 + (σ (t + 2) p1)) else 9, σ)) else (some (if am_w (p2 + (am_w (2 * (σ (t + 2) p1)))) < 9 then am_w (p2 + (am_w (2 * (σ (t + 2) p1)))) else 9, σ))) else (if σ (t + 1) p1 = 3 then (if Int.tmod p3 2 = 1 then (some (if am_w (p2 + (σ (t + 2) p1)) < 9 then am_w (p2 + (σ (t + 2) p1)) else 9, σ)) else (some (p2, σ))) else (if σ (t + 1) p1 = 4 then (some (if 0 < am_w (p2 - (σ (t + 2) p1)) then am_w (p2 - (σ (t + 2) p1)) else 0, σ)) else (some (am_w (Int.tdiv (if 0 < am_w (p2 - (σ (t + 2) p1)) then am_w (p2 - (σ (t + 2) p1)) else 0) 2), σ))))) else none
theorem t_X5_moodBehind {L n d : Nat} {Q : am_Post} {t : Nat} {p1 : Int} {p2 : Int} {p3 : Int} {σ σr : am_Mem} {rr : Int} (hd : 0 < d) (ht : tw t) (h : f_X5_moodBehind n t p1 p2 p3 σ = some (rr, σr)) (hQ : Q (some (am_i rr)) (rm_h L σr)) : xs_aw d me_X5_moodBehind [am_r t, am_i p1, am_i p2, am_i p3] (rm_h L σ) Q := by
  obtain ⟨d, rfl⟩ : ∃ k, d = k + 1 := ⟨d - 1, by omega⟩
  have hd : 0 ≤ d := by omega
  unfold f_X5_moodBehind at h
  show xs_AW (xs_aw d) me_X5_moodBehind Q 0 [some (am_r t), some (am_i p1), some (am_i p2), some (am_i p3), none] [] (rm_h L σ)
  refine rr_aload_n dX5_moodBehind_0 rfl ?_
  refine rr_getr (t := (t + 2)) dX5_moodBehind_1 fl_5_15 (tw_sh ht L) ⟨(tw_ge ht), by decide⟩ rfl rfl ?_
  refine rr_iload_n dX5_moodBehind_4 rfl ?_
  obtain ⟨g1, h⟩ := ab_g h
  refine rr_iald (nz := 6) dX5_moodBehind_5 (tw_a2 ht L) rfl g1 ?_
  refine rr_istore (ls' := [some (am_r t), some (am_i p1), some (am_i p2), some (am_i p3), some (am_i (σ (t + 2) p1))]) dX5_moodBehind_6 (Nat.le_of_ble_eq_true rfl) rfl ?_
  refine rr_aload_n dX5_moodBehind_8 rfl ?_
  refine rr_getr (t := (t + 1)) dX5_moodBehind_9 fl_5_9 (tw_sh ht L) ⟨(tw_ge ht), by decide⟩ rfl rfl ?_
  refine rr_iload_n dX5_moodBehind_12 rfl ?_
  refine rr_iald (nz := 6) dX5_moodBehind_13 (tw_a1 ht L) rfl g1 ?_
  rcases ab_i h with ⟨c2, h⟩ | ⟨c2, h⟩
  · refine rr_tsw_in (off := 30) (t := 44) dX5_moodBehind_14 (by omega) (by rw [c2]; rfl) (by decide) ?_
    refine rr_bipush dX5_moodBehind_44 (by decide) ?_
    refine rr_iload_n dX5_moodBehind_46 rfl ?_
    refine rr_iload dX5_moodBehind_47 rfl ?_
    refine rr_iadd dX5_moodBehind_49 ?_
    refine rr_min dX5_moodBehind_50 ml_5_69 (Nat.le_of_ble_eq_true rfl) ?_
    obtain ⟨rfl, rfl⟩ := ab_r2 h
    exact rr_iret dX5_moodBehind_53 rfl hQ
  rcases ab_i h with ⟨c3, h⟩ | ⟨c3, h⟩
  · refine rr_tsw_in (off := 40) (t := 54) dX5_moodBehind_14 (by omega) (by rw [c3]; rfl) (by decide) ?_
    refine rr_bipush dX5_moodBehind_54 (by decide) ?_
    refine rr_iload_n dX5_moodBehind_56 rfl ?_
    refine rr_iload_n dX5_moodBehind_57 rfl ?_
    refine rr_iconst dX5_moodBehind_58 (by decide) ?_
    rcases ab_i h with ⟨c4, h⟩ | ⟨c4, h⟩
    · refine rr_icmp_le_p (t := 69) dX5_moodBehind_59 (by decide) c4 ?_
      refine rr_iload dX5_moodBehind_69 rfl ?_
      refine rr_iadd dX5_moodBehind_71 ?_
      refine rr_min dX5_moodBehind_72 ml_5_69 (Nat.le_of_ble_eq_true rfl) ?_
      obtain ⟨rfl, rfl⟩ := ab_r2 h
      exact rr_iret dX5_moodBehind_75 rfl hQ
    · refine rr_icmp_le_n (t := 69) dX5_moodBehind_59 (by decide) c4 ?_
      refine rr_iconst dX5_moodBehind_62 (by decide) ?_
      refine rr_iload dX5_moodBehind_63 rfl ?_
      refine rr_imul dX5_moodBehind_65 ?_
      refine rr_goto (t := 71) dX5_moodBehind_66 (by decide) ?_
      refine rr_iadd dX5_moodBehind_71 ?_
      refine rr_min dX5_moodBehind_72 ml_5_69 (Nat.le_of_ble_eq_true rfl) ?_
      obtain ⟨rfl, rfl⟩ := ab_r2 h
      exact rr_iret dX5_moodBehind_75 rfl hQ
  rcases ab_i h with ⟨c5, h⟩ | ⟨c5, h⟩
  · refine rr_tsw_in (off := 62) (t := 76) dX5_moodBehind_14 (by omega) (by rw [c5]; rfl) (by decide) ?_
    refine rr_iload_n dX5_moodBehind_76 rfl ?_
    refine rr_iconst dX5_moodBehind_77 (by decide) ?_
    refine rr_irem dX5_moodBehind_78 (by decide) ?_
    refine rr_iconst dX5_moodBehind_79 (by decide) ?_
    rcases ab_i h with ⟨c6, h⟩ | ⟨c6, h⟩
    · refine rr_icmp_ne_p (t := 95) dX5_moodBehind_80 (by decide) c6 ?_
      refine rr_bipush dX5_moodBehind_83 (by decide) ?_
      refine rr_iload_n dX5_moodBehind_85 rfl ?_
      refine rr_iload dX5_moodBehind_86 rfl ?_
      refine rr_iadd dX5_moodBehind_88 ?_
      refine rr_min dX5_moodBehind_89 ml_5_69 (Nat.le_of_ble_eq_true rfl) ?_
      refine rr_goto (t := 96) dX5_moodBehind_92 (by decide) ?_
      obtain ⟨rfl, rfl⟩ := ab_r2 h
      exact rr_iret dX5_moodBehind_96 rfl hQ
    · refine rr_icmp_ne_n (t := 95) dX5_moodBehind_80 (by decide) c6 ?_
      refine rr_iload_n dX5_moodBehind_95 rfl ?_
      obtain ⟨rfl, rfl⟩ := ab_r2 h
      exact rr_iret dX5_moodBehind_96 rfl hQ
  rcases ab_i h with ⟨c7, h⟩ | ⟨c7, h⟩
  · refine rr_tsw_in (off := 83) (t := 97) dX5_moodBehind_14 (by omega) (by rw [c7]; rfl) (by decide) ?_
    refine rr_iconst dX5_moodBehind_97 (by decide) ?_
    refine rr_iload_n dX5_moodBehind_98 rfl ?_
    refine rr_iload dX5_moodBehind_99 rfl ?_
    refine rr_isub dX5_moodBehind_101 ?_
    refine rr_max dX5_moodBehind_102 ml_5_75 (Nat.le_of_ble_eq_true rfl) ?_
    obtain ⟨rfl, rfl⟩ := ab_r2 h
    exact rr_iret dX5_moodBehind_105 rfl hQ
  refine rr_tsw_out (t := 106) dX5_moodBehind_14 (by omega) (by decide) ?_
  refine rr_iconst dX5_moodBehind_106 (by decide) ?_
  refine rr_iload_n dX5_moodBehind_107 rfl ?_
  refine rr_iload dX5_moodBehind_108 rfl ?_
  refine rr_isub dX5_moodBehind_110 ?_
  refine rr_max dX5_moodBehind_111 ml_5_75 (Nat.le_of_ble_eq_true rfl) ?_
  refine rr_iconst dX5_moodBehind_114 (by decide) ?_
  refine rr_idiv dX5_moodBehind_115 (by decide) ?_
  obtain ⟨rfl, rfl⟩ := ab_r2 h
  exact rr_iret dX5_moodBehind_116 rfl hQ
theorem u_X5_moodBehind {n : Nat} {t : Nat} {p1 : Int} {p2 : Int} {p3 : Int} {σ σr : am_Mem} {rr : Int} (h : f_X5_moodBehind n t p1 p2 p3 σ = some (rr, σr)) : σr = σ := by
  unfold f_X5_moodBehind at h
  have fr : σ = σ := rfl
  obtain ⟨g1, h⟩ := ab_g h
  rcases ab_i h with ⟨c2, h⟩ | ⟨c2, h⟩
  · obtain ⟨q1, q2⟩ := ab_r2 h
    exact q2.symm.trans fr
  rcases ab_i h with ⟨c3, h⟩ | ⟨c3, h⟩
  · rcases ab_i h with ⟨c4, h⟩ | ⟨c4, h⟩
    · obtain ⟨q1, q2⟩ := ab_r2 h
      exact q2.symm.trans fr
    · obtain ⟨q1, q2⟩ := ab_r2 h
      exact q2.symm.trans fr
  rcases ab_i h with ⟨c5, h⟩ | ⟨c5, h⟩
  · rcases ab_i h with ⟨c6, h⟩ | ⟨c6, h⟩
    · obtain ⟨q1, q2⟩ := ab_r2 h
      exact q2.symm.trans fr
    · obtain ⟨q1, q2⟩ := ab_r2 h
      exact q2.symm.trans fr
  rcases ab_i h with ⟨c7, h⟩ | ⟨c7, h⟩
  · obtain ⟨q1, q2⟩ := ab_r2 h
    exact q2.symm.trans fr
  obtain ⟨q1, q2⟩ := ab_r2 h
  exact q2.symm.trans fr
/-! MoodFare$Town.moodBy -/
def f_X5_moodBy (n : Nat) (t : Nat) (p1 : Int) (σ : am_Mem) : Option (Int × am_Mem) :=
  if (0 : Int) ≤ p1 ∧ p1 < 8 then am_b2 (f_X5_moodBehind n t (σ (t + 5) p1) (σ t 10) (σ t 12) σ) fun r3 σ4 => some (r3, σ4) else none
theorem t_X5_moodBy {L n d : Nat} {Q : am_Post} {t : Nat} {p1 : Int} {σ σr : am_Mem} {rr : Int} (hd : 1 < d) (ht : tw t) (h : f_X5_moodBy n t p1 σ = some (rr, σr)) (hQ : Q (some (am_i rr)) (rm_h L σr)) : xs_aw d me_X5_moodBy [am_r t, am_i p1] (rm_h L σ) Q := by
  obtain ⟨d, rfl⟩ : ∃ k, d = k + 1 := ⟨d - 1, by omega⟩
  have hd : 1 ≤ d := by omega
  unfold f_X5_moodBy at h
  show xs_AW (xs_aw d) me_X5_moodBy Q 0 [some (am_r t), some (am_i p1)] [] (rm_h L σ)
  refine rr_aload_n dX5_moodBy_0 rfl ?_
  refine rr_aload_n dX5_moodBy_1 rfl ?_
  refine rr_getr (t := (t + 5)) dX5_moodBy_2 fl_5_24 (tw_sh ht L) ⟨(tw_ge ht), by decide⟩ rfl rfl ?_
  refine rr_iload_n dX5_moodBy_5 rfl ?_
  obtain ⟨g1, h⟩ := ab_g h
  refine rr_iald (nz := 8) dX5_moodBy_6 (tw_a5 ht L) rfl g1 ?_
  refine rr_aload_n dX5_moodBy_7 rfl ?_
  refine rr_geti (kz := 10) dX5_moodBy_8 fl_5_49 (tw_sh ht L) ⟨(tw_ge ht), by decide⟩ rfl rfl ?_
  refine rr_aload_n dX5_moodBy_11 rfl ?_
  refine rr_geti (kz := 12) dX5_moodBy_12 fl_5_55 (tw_sh ht L) ⟨(tw_ge ht), by decide⟩ rfl rfl ?_
  obtain ⟨r3, σ4, e2, h⟩ := ab_2 h
  refine rr_Vi (as := [am_i (σ (t + 5) p1), am_i (σ t 10), am_i (σ t 12)]) (rest := []) dX5_moodBy_15 ml_5_82 (tw_sh ht L) ⟨(tw_ge ht), by decide, by decide⟩ rfl rfl rfl (Nat.le_of_ble_eq_true rfl) ⟨rfl, rfl⟩ (Nat.le_of_ble_eq_true rfl) (fun _ k => t_X5_moodBehind (by omega) ht e2 k) ?_
  obtain ⟨rfl, rfl⟩ := ab_r2 h
  exact rr_iret dX5_moodBy_18 rfl hQ
theorem u_X5_moodBy {n : Nat} {t : Nat} {p1 : Int} {σ σr : am_Mem} {rr : Int} (h : f_X5_moodBy n t p1 σ = some (rr, σr)) : σr = σ := by
  unfold f_X5_moodBy at h
  have fr : σ = σ := rfl
  obtain ⟨g1, h⟩ := ab_g h
  obtain ⟨r3, σ4, e2, h⟩ := ab_2 h
  have fr := (u_X5_moodBehind e2).trans fr
  obtain ⟨q1, q2⟩ := ab_r2 h
  exact q2.symm.trans fr
/-! MoodFare$Town.costBy -/
def f_X5_costBy (n : Nat) (t : Nat) (p1 : Int) (σ : am_Mem) : Option (Int × am_Mem) :=
  if (0 : Int) ≤ p1 ∧ p1 < 8 then am_b2 (f_X5_moodBy n t p1 σ) fun r3 σ4 => am_b2 (f_X5_costBetween n t (σ (t + 5) p1) (σ t 10) r3 σ4) fun r6 σ7 => some (r6, σ7) else none
theorem t_X5_costBy {L n d : Nat} {Q : am_Post} {t : Nat} {p1 : Int} {σ σr : am_Mem} {rr : Int} (hd : 2 < d) (ht : tw t) (h : f_X5_costBy n t p1 σ = some (rr, σr)) (hQ : Q (some (am_i rr)) (rm_h L σr)) : xs_aw d me_X5_costBy [am_r t, am_i p1] (rm_h L σ) Q := by
  obtain ⟨d, rfl⟩ : ∃ k, d = k + 1 := ⟨d - 1, by omega⟩
  have hd : 2 ≤ d := by omega
  unfold f_X5_costBy at h
  show xs_AW (xs_aw d) me_X5_costBy Q 0 [some (am_r t), some (am_i p1)] [] (rm_h L σ)
  refine rr_aload_n dX5_costBy_0 rfl ?_
  refine rr_aload_n dX5_costBy_1 rfl ?_
  refine rr_getr (t := (t + 5)) dX5_costBy_2 fl_5_24 (tw_sh ht L) ⟨(tw_ge ht), by decide⟩ rfl rfl ?_
  refine rr_iload_n dX5_costBy_5 rfl ?_
  obtain ⟨g1, h⟩ := ab_g h
  refine rr_iald (nz := 8) dX5_costBy_6 (tw_a5 ht L) rfl g1 ?_
  refine rr_aload_n dX5_costBy_7 rfl ?_
  refine rr_geti (kz := 10) dX5_costBy_8 fl_5_49 (tw_sh ht L) ⟨(tw_ge ht), by decide⟩ rfl rfl ?_
  refine rr_aload_n dX5_costBy_11 rfl ?_
  refine rr_iload_n dX5_costBy_12 rfl ?_
  obtain ⟨r3, σ4, e2, h⟩ := ab_2 h
  refine rr_Vi (as := [am_i p1]) (rest := [am_i (σ t 10), am_i (σ (t + 5) p1), am_r t]) dX5_costBy_13 ml_5_86 (tw_sh ht L) ⟨(tw_ge ht), by decide, by decide⟩ rfl rfl rfl (Nat.le_of_ble_eq_true rfl) ⟨rfl, rfl⟩ (Nat.le_of_ble_eq_true rfl) (fun _ k => t_X5_moodBy (by omega) ht e2 k) ?_
  obtain ⟨r6, σ7, e5, h⟩ := ab_2 h
  refine rr_Vi (as := [am_i (σ (t + 5) p1), am_i (σ t 10), am_i r3]) (rest := []) dX5_costBy_16 ml_5_89 (tw_sh ht L) ⟨(tw_ge ht), by decide, by decide⟩ rfl rfl rfl (Nat.le_of_ble_eq_true rfl) ⟨rfl, rfl⟩ (Nat.le_of_ble_eq_true rfl) (fun _ k => t_X5_costBetween (by omega) ht e5 k) ?_
  obtain ⟨rfl, rfl⟩ := ab_r2 h
  exact rr_iret dX5_costBy_19 rfl hQ
theorem u_X5_costBy {n : Nat} {t : Nat} {p1 : Int} {σ σr : am_Mem} {rr : Int} (h : f_X5_costBy n t p1 σ = some (rr, σr)) : σr = σ := by
  unfold f_X5_costBy at h
  have fr : σ = σ := rfl
  obtain ⟨g1, h⟩ := ab_g h
  obtain ⟨r3, σ4, e2, h⟩ := ab_2 h
  have fr := (u_X5_moodBy e2).trans fr
  obtain ⟨r6, σ7, e5, h⟩ := ab_2 h
  have fr := (u_X5_costBetween e5).trans fr
  obtain ⟨q1, q2⟩ := ab_r2 h
  exact q2.symm.trans fr
/-! MoodFare$Town.goBy -/
def f_X5_goBy (n : Nat) (t : Nat) (p1 : Int) (σ : am_Mem) : Option am_Mem :=
  am_b2 (f_X5_costBy n t p1 σ) fun r2 σ3 => am_b1 (some (am_up σ3 t 11 (if am_w ((σ t 11) + r2) < 9999 then am_w ((σ t 11) + r2) else 9999))) fun σ4 => am_b2 (f_X5_moodBy n t p1 σ4) fun r7 σ8 => am_b1 (some (am_up σ8 t 10 r7)) fun σ9 => if (0 : Int) ≤ p1 ∧ p1 < 8 then am_b1 (some (am_up σ9 t 9 (σ9 (t + 5) p1))) fun σ12 => am_b1 (some (am_up σ12 t 12 (am_w ((σ12 t 12) + 1)))) fun σ14 => some σ14 else none
theorem t_X5_goBy {L n d : Nat} {Q : am_Post} {t : Nat} {p1 : Int} {σ σr : am_Mem} (hd : 3 < d) (ht : tw t) (h : f_X5_goBy n t p1 σ = some σr) (hQ : Q none (rm_h L σr)) : xs_aw d me_X5_goBy [am_r t, am_i p1] (rm_h L σ) Q := by
  obtain ⟨d, rfl⟩ : ∃ k, d = k + 1 := ⟨d - 1, by omega⟩
  have hd : 3 ≤ d := by omega
  unfold f_X5_goBy at h
  show xs_AW (xs_aw d) me_X5_goBy Q 0 [some (am_r t), some (am_i p1)] [] (rm_h L σ)
  refine rr_aload_n dX5_goBy_0 rfl ?_
  refine rr_sipush dX5_goBy_1 (by decide) ?_
  refine rr_aload_n dX5_goBy_4 rfl ?_
  refine rr_geti (kz := 11) dX5_goBy_5 fl_5_52 (tw_sh ht L) ⟨(tw_ge ht), by decide⟩ rfl rfl ?_
  refine rr_aload_n dX5_goBy_8 rfl ?_
  refine rr_iload_n dX5_goBy_9 rfl ?_
  obtain ⟨r2, σ3, e1, h⟩ := ab_2 h
  refine rr_Vi (as := [am_i p1]) (rest := [am_i (σ t 11), am_i 9999, am_r t]) dX5_goBy_10 ml_5_92 (tw_sh ht L) ⟨(tw_ge ht), by decide, by decide⟩ rfl rfl rfl (Nat.le_of_ble_eq_true rfl) ⟨rfl, rfl⟩ (Nat.le_of_ble_eq_true rfl) (fun _ k => t_X5_costBy (by omega) ht e1 k) ?_
  refine rr_iadd dX5_goBy_13 ?_
  refine rr_min dX5_goBy_14 ml_5_69 (Nat.le_of_ble_eq_true rfl) ?_
  obtain ⟨σ4, e5, h⟩ := ab_1 h
  refine rr_puti (kz := 11) dX5_goBy_17 fl_5_52 (tw_sh ht L) ⟨(tw_ge ht), by decide⟩ ⟨rfl, rfl⟩ rfl (ab_m e5 ?_)
  refine rr_aload_n dX5_goBy_20 rfl ?_
  refine rr_aload_n dX5_goBy_21 rfl ?_
  refine rr_iload_n dX5_goBy_22 rfl ?_
  obtain ⟨r7, σ8, e6, h⟩ := ab_2 h
  refine rr_Vi (as := [am_i p1]) (rest := [am_r t]) dX5_goBy_23 ml_5_86 (tw_sh ht L) ⟨(tw_ge ht), by decide, by decide⟩ rfl rfl rfl (Nat.le_of_ble_eq_true rfl) ⟨rfl, rfl⟩ (Nat.le_of_ble_eq_true rfl) (fun _ k => t_X5_moodBy (by omega) ht e6 k) ?_
  obtain ⟨σ9, e10, h⟩ := ab_1 h
  refine rr_puti (kz := 10) dX5_goBy_26 fl_5_49 (tw_sh ht L) ⟨(tw_ge ht), by decide⟩ ⟨rfl, rfl⟩ rfl (ab_m e10 ?_)
  refine rr_aload_n dX5_goBy_29 rfl ?_
  refine rr_aload_n dX5_goBy_30 rfl ?_
  refine rr_getr (t := (t + 5)) dX5_goBy_31 fl_5_24 (tw_sh ht L) ⟨(tw_ge ht), by decide⟩ rfl rfl ?_
  refine rr_iload_n dX5_goBy_34 rfl ?_
  obtain ⟨g11, h⟩ := ab_g h
  refine rr_iald (nz := 8) dX5_goBy_35 (tw_a5 ht L) rfl g11 ?_
  obtain ⟨σ12, e13, h⟩ := ab_1 h
  refine rr_puti (kz := 9) dX5_goBy_36 fl_5_46 (tw_sh ht L) ⟨(tw_ge ht), by decide⟩ ⟨rfl, rfl⟩ rfl (ab_m e13 ?_)
  refine rr_aload_n dX5_goBy_39 rfl ?_
  refine rr_dup dX5_goBy_40 rfl ?_
  refine rr_geti (kz := 12) dX5_goBy_41 fl_5_55 (tw_sh ht L) ⟨(tw_ge ht), by decide⟩ rfl rfl ?_
  refine rr_iconst dX5_goBy_44 (by decide) ?_
  refine rr_iadd dX5_goBy_45 ?_
  obtain ⟨σ14, e15, h⟩ := ab_1 h
  refine rr_puti (kz := 12) dX5_goBy_46 fl_5_55 (tw_sh ht L) ⟨(tw_ge ht), by decide⟩ ⟨rfl, rfl⟩ rfl (ab_m e15 ?_)
  obtain rfl := ab_r1 h
  exact rr_vret dX5_goBy_49 rfl hQ
def nw_X5_goBy (t : Nat) (a : Nat) : Prop := a ≠ t
theorem w_X5_goBy {n : Nat} {t : Nat} {p1 : Int} {σ σr : am_Mem} (h : f_X5_goBy n t p1 σ = some σr) : ∀ a : Nat, nw_X5_goBy t a → σr a = σ a := by
  unfold f_X5_goBy at h
  have fr : ∀ a : Nat, nw_X5_goBy t a → σ a = σ a := fun _ _ => rfl
  obtain ⟨r2, σ3, e1, h⟩ := ab_2 h
  have fr := fun (a : Nat) (ha : nw_X5_goBy t a) => (congrFun (u_X5_costBy e1) a).trans (fr a ha)
  obtain ⟨σ4, e5, h⟩ := ab_1 h
  have fr := fun (a : Nat) (ha : nw_X5_goBy t a) => (ab_fu e5 (show a ≠ t by unfold nw_X5_goBy at ha; omega)).trans (fr a ha)
  obtain ⟨r7, σ8, e6, h⟩ := ab_2 h
  have fr := fun (a : Nat) (ha : nw_X5_goBy t a) => (congrFun (u_X5_moodBy e6) a).trans (fr a ha)
  obtain ⟨σ9, e10, h⟩ := ab_1 h
  have fr := fun (a : Nat) (ha : nw_X5_goBy t a) => (ab_fu e10 (show a ≠ t by unfold nw_X5_goBy at ha; omega)).trans (fr a ha)
  obtain ⟨g11, h⟩ := ab_g h
  obtain ⟨σ12, e13, h⟩ := ab_1 h
  have fr := fun (a : Nat) (ha : nw_X5_goBy t a) => (ab_fu e13 (show a ≠ t by unfold nw_X5_goBy at ha; omega)).trans (fr a ha)
  obtain ⟨σ14, e15, h⟩ := ab_1 h
  have fr := fun (a : Nat) (ha : nw_X5_goBy t a) => (ab_fu e15 (show a ≠ t by unfold nw_X5_goBy at ha; omega)).trans (fr a ha)
  have q2 := ab_r1 h
  exact fun a ha => (congrFun q2.symm a).trans (fr a ha)
/-! MoodFare$Town.hasStreet -/
def f_X5_hasStreet (n : Nat) (t : Nat) (p1 : Int) (σ : am_Mem) : Option (Int × am_Mem) :=
  if p1 < 0 then (some (0, σ)) else (if p1 < σ t 6 then (some (1, σ)) else (some (0, σ)))
theorem t_X5_hasStreet {L n d : Nat} {Q : am_Post} {t : Nat} {p1 : Int} {σ σr : am_Mem} {rr : Int} (hd : 0 < d) (ht : tw t) (h : f_X5_hasStreet n t p1 σ = some (rr, σr)) (hQ : Q (some (am_i rr)) (rm_h L σr)) : xs_aw d me_X5_hasStreet [am_r t, am_i p1] (rm_h L σ) Q := by
  obtain ⟨d, rfl⟩ : ∃ k, d = k + 1 := ⟨d - 1, by omega⟩
  have hd : 0 ≤ d := by omega
  unfold f_X5_hasStreet at h
  show xs_AW (xs_aw d) me_X5_hasStreet Q 0 [some (am_r t), some (am_i p1)] [] (rm_h L σ)
  refine rr_iload_n dX5_hasStreet_0 rfl ?_
  rcases ab_i h with ⟨c1, h⟩ | ⟨c1, h⟩
  · refine rr_if_lt_p (t := 16) dX5_hasStreet_1 (by decide) c1 ?_
    refine rr_iconst dX5_hasStreet_16 (by decide) ?_
    obtain ⟨rfl, rfl⟩ := ab_r2 h
    exact rr_zret dX5_hasStreet_17 rfl (Or.inl rfl) hQ
  · refine rr_if_lt_n (t := 16) dX5_hasStreet_1 (by decide) c1 ?_
    refine rr_iload_n dX5_hasStreet_4 rfl ?_
    refine rr_aload_n dX5_hasStreet_5 rfl ?_
    refine rr_geti (kz := 6) dX5_hasStreet_6 fl_5_37 (tw_sh ht L) ⟨(tw_ge ht), by decide⟩ rfl rfl ?_
    rcases ab_i h with ⟨c2, h⟩ | ⟨c2, h⟩
    · refine rr_icmp_ge_p (t := 16) dX5_hasStreet_9 (by decide) c2 ?_
      refine rr_iconst dX5_hasStreet_12 (by decide) ?_
      refine rr_goto (t := 17) dX5_hasStreet_13 (by decide) ?_
      obtain ⟨rfl, rfl⟩ := ab_r2 h
      exact rr_zret dX5_hasStreet_17 rfl (Or.inr rfl) hQ
    · refine rr_icmp_ge_n (t := 16) dX5_hasStreet_9 (by decide) c2 ?_
      refine rr_iconst dX5_hasStreet_16 (by decide) ?_
      obtain ⟨rfl, rfl⟩ := ab_r2 h
      exact rr_zret dX5_hasStreet_17 rfl (Or.inl rfl) hQ
theorem u_X5_hasStreet {n : Nat} {t : Nat} {p1 : Int} {σ σr : am_Mem} {rr : Int} (h : f_X5_hasStreet n t p1 σ = some (rr, σr)) : σr = σ := by
  unfold f_X5_hasStreet at h
  have fr : σ = σ := rfl
  rcases ab_i h with ⟨c1, h⟩ | ⟨c1, h⟩
  · obtain ⟨q1, q2⟩ := ab_r2 h
    exact q2.symm.trans fr
  · rcases ab_i h with ⟨c2, h⟩ | ⟨c2, h⟩
    · obtain ⟨q1, q2⟩ := ab_r2 h
      exact q2.symm.trans fr
    · obtain ⟨q1, q2⟩ := ab_r2 h
      exact q2.symm.trans fr
/-! MoodFare$Town.isOpen -/
def f_X5_isOpen (n : Nat) (t : Nat) (p1 : Int) (σ : am_Mem) : Option (Int × am_Mem) :=
  if am_and (am_shr (σ t 8) p1) 1 = 1 then (some (1, σ)) else (some (0, σ))
theorem t_X5_isOpen {L n d : Nat} {Q : am_Post} {t : Nat} {p1 : Int} {σ σr : am_Mem} {rr : Int} (hd : 0 < d) (ht : tw t) (h : f_X5_isOpen n t p1 σ = some (rr, σr)) (hQ : Q (some (am_i rr)) (rm_h L σr)) : xs_aw d me_X5_isOpen [am_r t, am_i p1] (rm_h L σ) Q := by
  obtain ⟨d, rfl⟩ : ∃ k, d = k + 1 := ⟨d - 1, by omega⟩
  have hd : 0 ≤ d := by omega
  unfold f_X5_isOpen at h
  show xs_AW (xs_aw d) me_X5_isOpen Q 0 [some (am_r t), some (am_i p1)] [] (rm_h L σ)
  refine rr_aload_n dX5_isOpen_0 rfl ?_
  refine rr_geti (kz := 8) dX5_isOpen_1 fl_5_43 (tw_sh ht L) ⟨(tw_ge ht), by decide⟩ rfl rfl ?_
  refine rr_iload_n dX5_isOpen_4 rfl ?_
  refine rr_ishr dX5_isOpen_5 ?_
  refine rr_iconst dX5_isOpen_6 (by decide) ?_
  refine rr_iand dX5_isOpen_7 ?_
  refine rr_iconst dX5_isOpen_8 (by decide) ?_
  rcases ab_i h with ⟨c1, h⟩ | ⟨c1, h⟩
  · refine rr_icmp_ne_p (t := 16) dX5_isOpen_9 (by decide) c1 ?_
    refine rr_iconst dX5_isOpen_12 (by decide) ?_
    refine rr_goto (t := 17) dX5_isOpen_13 (by decide) ?_
    obtain ⟨rfl, rfl⟩ := ab_r2 h
    exact rr_zret dX5_isOpen_17 rfl (Or.inr rfl) hQ
  · refine rr_icmp_ne_n (t := 16) dX5_isOpen_9 (by decide) c1 ?_
    refine rr_iconst dX5_isOpen_16 (by decide) ?_
    obtain ⟨rfl, rfl⟩ := ab_r2 h
    exact rr_zret dX5_isOpen_17 rfl (Or.inl rfl) hQ
theorem u_X5_isOpen {n : Nat} {t : Nat} {p1 : Int} {σ σr : am_Mem} {rr : Int} (h : f_X5_isOpen n t p1 σ = some (rr, σr)) : σr = σ := by
  unfold f_X5_isOpen at h
  have fr : σ = σ := rfl
  rcases ab_i h with ⟨c1, h⟩ | ⟨c1, h⟩
  · obtain ⟨q1, q2⟩ := ab_r2 h
    exact q2.symm.trans fr
  · obtain ⟨q1, q2⟩ := ab_r2 h
    exact q2.symm.trans fr
/-! MoodFare$Town.leadsFrom -/
def f_X5_leadsFrom (n : Nat) (t : Nat) (p1 : Int) (p2 : Int) (σ : am_Mem) : Option (Int × am_Mem) :=
  am_b2 (f_X5_hasStreet n t p2 σ) fun r2 σ3 => if r2 = 0 then (some (0, σ3)) else (am_b2 (f_X5_isOpen n t p2 σ3) fun r6 σ7 => if r6 = 0 then (some (0, σ7)) else (if (0 : Int) ≤ p2 ∧ p2 < 8 then if σ7 (t + 4) p2 = p1 then (some (1, σ7)) else (some (0, σ7)) else none))
theorem t_X5_leadsFrom {L n d : Nat} {Q : am_Post} {t : Nat} {p1 : Int} {p2 : Int} {σ σr : am_Mem} {rr : Int} (hd : 1 < d) (ht : tw t) (h : f_X5_leadsFrom n t p1 p2 σ = some (rr, σr)) (hQ : Q (some (am_i rr)) (rm_h L σr)) : xs_aw d me_X5_leadsFrom [am_r t, am_i p1, am_i p2] (rm_h L σ) Q := by
  obtain ⟨d, rfl⟩ : ∃ k, d = k + 1 := ⟨d - 1, by omega⟩
  have hd : 1 ≤ d := by omega
  unfold f_X5_leadsFrom at h
  show xs_AW (xs_aw d) me_X5_leadsFrom Q 0 [some (am_r t), some (am_i p1), some (am_i p2)] [] (rm_h L σ)
  refine rr_aload_n dX5_leadsFrom_0 rfl ?_
  refine rr_iload_n dX5_leadsFrom_1 rfl ?_
  obtain ⟨r2, σ3, e1, h⟩ := ab_2 h
  refine rr_Vi (as := [am_i p2]) (rest := []) dX5_leadsFrom_2 ml_5_62 (tw_sh ht L) ⟨(tw_ge ht), by decide, by decide⟩ rfl rfl rfl (Nat.le_of_ble_eq_true rfl) ⟨rfl, rfl⟩ (Nat.le_of_ble_eq_true rfl) (fun _ k => t_X5_hasStreet (by omega) ht e1 k) ?_
  rcases ab_i h with ⟨c4, h⟩ | ⟨c4, h⟩
  · refine rr_if_eq_p (t := 30) dX5_leadsFrom_5 (by decide) c4 ?_
    refine rr_iconst dX5_leadsFrom_30 (by decide) ?_
    obtain ⟨rfl, rfl⟩ := ab_r2 h
    exact rr_zret dX5_leadsFrom_31 rfl (Or.inl rfl) hQ
  · refine rr_if_eq_n (t := 30) dX5_leadsFrom_5 (by decide) c4 ?_
    refine rr_aload_n dX5_leadsFrom_8 rfl ?_
    refine rr_iload_n dX5_leadsFrom_9 rfl ?_
    obtain ⟨r6, σ7, e5, h⟩ := ab_2 h
    refine rr_Vi (as := [am_i p2]) (rest := []) dX5_leadsFrom_10 ml_5_66 (tw_sh ht L) ⟨(tw_ge ht), by decide, by decide⟩ rfl rfl rfl (Nat.le_of_ble_eq_true rfl) ⟨rfl, rfl⟩ (Nat.le_of_ble_eq_true rfl) (fun _ k => t_X5_isOpen (by omega) ht e5 k) ?_
    rcases ab_i h with ⟨c8, h⟩ | ⟨c8, h⟩
    · refine rr_if_eq_p (t := 30) dX5_leadsFrom_13 (by decide) c8 ?_
      refine rr_iconst dX5_leadsFrom_30 (by decide) ?_
      obtain ⟨rfl, rfl⟩ := ab_r2 h
      exact rr_zret dX5_leadsFrom_31 rfl (Or.inl rfl) hQ
    · refine rr_if_eq_n (t := 30) dX5_leadsFrom_13 (by decide) c8 ?_
      refine rr_aload_n dX5_leadsFrom_16 rfl ?_
      refine rr_getr (t := (t + 4)) dX5_leadsFrom_17 fl_5_21 (tw_sh ht L) ⟨(tw_ge ht), by decide⟩ rfl rfl ?_
      refine rr_iload_n dX5_leadsFrom_20 rfl ?_
      obtain ⟨g9, h⟩ := ab_g h
      refine rr_iald (nz := 8) dX5_leadsFrom_21 (tw_a4 ht L) rfl g9 ?_
      refine rr_iload_n dX5_leadsFrom_22 rfl ?_
      rcases ab_i h with ⟨c10, h⟩ | ⟨c10, h⟩
      · refine rr_icmp_ne_p (t := 30) dX5_leadsFrom_23 (by decide) c10 ?_
        refine rr_iconst dX5_leadsFrom_26 (by decide) ?_
        refine rr_goto (t := 31) dX5_leadsFrom_27 (by decide) ?_
        obtain ⟨rfl, rfl⟩ := ab_r2 h
        exact rr_zret dX5_leadsFrom_31 rfl (Or.inr rfl) hQ
      · refine rr_icmp_ne_n (t := 30) dX5_leadsFrom_23 (by decide) c10 ?_
        refine rr_iconst dX5_leadsFrom_30 (by decide) ?_
        obtain ⟨rfl, rfl⟩ := ab_r2 h
        exact rr_zret dX5_leadsFrom_31 rfl (Or.inl rfl) hQ
theorem u_X5_leadsFrom {n : Nat} {t : Nat} {p1 : Int} {p2 : Int} {σ σr : am_Mem} {rr : Int} (h : f_X5_leadsFrom n t p1 p2 σ = some (rr, σr)) : σr = σ := by
  unfold f_X5_leadsFrom at h
  have fr : σ = σ := rfl
  obtain ⟨r2, σ3, e1, h⟩ := ab_2 h
  have fr := (u_X5_hasStreet e1).trans fr
  rcases ab_i h with ⟨c4, h⟩ | ⟨c4, h⟩
  · obtain ⟨q1, q2⟩ := ab_r2 h
    exact q2.symm.trans fr
  · obtain ⟨r6, σ7, e5, h⟩ := ab_2 h
    have fr := (u_X5_isOpen e5).trans fr
    rcases ab_i h with ⟨c8, h⟩ | ⟨c8, h⟩
    · obtain ⟨q1, q2⟩ := ab_r2 h
      exact q2.symm.trans fr
    · obtain ⟨g9, h⟩ := ab_g h
      rcases ab_i h with ⟨c10, h⟩ | ⟨c10, h⟩
      · obtain ⟨q1, q2⟩ := ab_r2 h
        exact q2.symm.trans fr
      · obtain ⟨q1, q2⟩ := ab_r2 h
        exact q2.symm.trans fr
/-! MoodFare$Town.leads -/
def f_X5_leads (n : Nat) (t : Nat) (p1 : Int) (σ : am_Mem) : Option (Int × am_Mem) :=
  am_b2 (f_X5_leadsFrom n t (σ t 9) p1 σ) fun r2 σ3 => if r2 = 0 ∨ r2 = 1 then some (r2, σ3) else none
theorem t_X5_leads {L n d : Nat} {Q : am_Post} {t : Nat} {p1 : Int} {σ σr : am_Mem} {rr : Int} (hd : 2 < d) (ht : tw t) (h : f_X5_leads n t p1 σ = some (rr, σr)) (hQ : Q (some (am_i rr)) (rm_h L σr)) : xs_aw d me_X5_leads [am_r t, am_i p1] (rm_h L σ) Q := by
  obtain ⟨d, rfl⟩ : ∃ k, d = k + 1 := ⟨d - 1, by omega⟩
  have hd : 2 ≤ d := by omega
  unfold f_X5_leads at h
  show xs_AW (xs_aw d) me_X5_leads Q 0 [some (am_r t), some (am_i p1)] [] (rm_h L σ)
  refine rr_aload_n dX5_leads_0 rfl ?_
  refine rr_aload_n dX5_leads_1 rfl ?_
  refine rr_geti (kz := 9) dX5_leads_2 fl_5_46 (tw_sh ht L) ⟨(tw_ge ht), by decide⟩ rfl rfl ?_
  refine rr_iload_n dX5_leads_5 rfl ?_
  obtain ⟨r2, σ3, e1, h⟩ := ab_2 h
  refine rr_Vi (as := [am_i (σ t 9), am_i p1]) (rest := []) dX5_leads_6 ml_5_58 (tw_sh ht L) ⟨(tw_ge ht), by decide, by decide⟩ rfl rfl rfl (Nat.le_of_ble_eq_true rfl) ⟨rfl, rfl⟩ (Nat.le_of_ble_eq_true rfl) (fun _ k => t_X5_leadsFrom (by omega) ht e1 k) ?_
  obtain ⟨g4, h⟩ := ab_g h
  obtain ⟨rfl, rfl⟩ := ab_r2 h
  exact rr_zret dX5_leads_9 rfl g4 hQ
theorem u_X5_leads {n : Nat} {t : Nat} {p1 : Int} {σ σr : am_Mem} {rr : Int} (h : f_X5_leads n t p1 σ = some (rr, σr)) : σr = σ := by
  unfold f_X5_leads at h
  have fr : σ = σ := rfl
  obtain ⟨r2, σ3, e1, h⟩ := ab_2 h
  have fr := (u_X5_leadsFrom e1).trans fr
  obtain ⟨g4, h⟩ := ab_g h
  obtain ⟨q1, q2⟩ := ab_r2 h
  exact q2.symm.trans fr
/-! MoodFare$Town.hasCorner -/
def f_X5_hasCorner (n : Nat) (t : Nat) (p1 : Int) (σ : am_Mem) : Option (Int × am_Mem) :=
  if p1 < 0 then (some (0, σ)) else (if p1 < σ t 5 then (some (1, σ)) else (some (0, σ)))
theorem t_X5_hasCorner {L n d : Nat} {Q : am_Post} {t : Nat} {p1 : Int} {σ σr : am_Mem} {rr : Int} (hd : 0 < d) (ht : tw t) (h : f_X5_hasCorner n t p1 σ = some (rr, σr)) (hQ : Q (some (am_i rr)) (rm_h L σr)) : xs_aw d me_X5_hasCorner [am_r t, am_i p1] (rm_h L σ) Q := by
  obtain ⟨d, rfl⟩ : ∃ k, d = k + 1 := ⟨d - 1, by omega⟩
  have hd : 0 ≤ d := by omega
  unfold f_X5_hasCorner at h
  show xs_AW (xs_aw d) me_X5_hasCorner Q 0 [some (am_r t), some (am_i p1)] [] (rm_h L σ)
  refine rr_iload_n dX5_hasCorner_0 rfl ?_
  rcases ab_i h with ⟨c1, h⟩ | ⟨c1, h⟩
  · refine rr_if_lt_p (t := 16) dX5_hasCorner_1 (by decide) c1 ?_
    refine rr_iconst dX5_hasCorner_16 (by decide) ?_
    obtain ⟨rfl, rfl⟩ := ab_r2 h
    exact rr_zret dX5_hasCorner_17 rfl (Or.inl rfl) hQ
  · refine rr_if_lt_n (t := 16) dX5_hasCorner_1 (by decide) c1 ?_
    refine rr_iload_n dX5_hasCorner_4 rfl ?_
    refine rr_aload_n dX5_hasCorner_5 rfl ?_
    refine rr_geti (kz := 5) dX5_hasCorner_6 fl_5_33 (tw_sh ht L) ⟨(tw_ge ht), by decide⟩ rfl rfl ?_
    rcases ab_i h with ⟨c2, h⟩ | ⟨c2, h⟩
    · refine rr_icmp_ge_p (t := 16) dX5_hasCorner_9 (by decide) c2 ?_
      refine rr_iconst dX5_hasCorner_12 (by decide) ?_
      refine rr_goto (t := 17) dX5_hasCorner_13 (by decide) ?_
      obtain ⟨rfl, rfl⟩ := ab_r2 h
      exact rr_zret dX5_hasCorner_17 rfl (Or.inr rfl) hQ
    · refine rr_icmp_ge_n (t := 16) dX5_hasCorner_9 (by decide) c2 ?_
      refine rr_iconst dX5_hasCorner_16 (by decide) ?_
      obtain ⟨rfl, rfl⟩ := ab_r2 h
      exact rr_zret dX5_hasCorner_17 rfl (Or.inl rfl) hQ
theorem u_X5_hasCorner {n : Nat} {t : Nat} {p1 : Int} {σ σr : am_Mem} {rr : Int} (h : f_X5_hasCorner n t p1 σ = some (rr, σr)) : σr = σ := by
  unfold f_X5_hasCorner at h
  have fr : σ = σ := rfl
  rcases ab_i h with ⟨c1, h⟩ | ⟨c1, h⟩
  · obtain ⟨q1, q2⟩ := ab_r2 h
    exact q2.symm.trans fr
  · rcases ab_i h with ⟨c2, h⟩ | ⟨c2, h⟩
    · obtain ⟨q1, q2⟩ := ab_r2 h
      exact q2.symm.trans fr
    · obtain ⟨q1, q2⟩ := ab_r2 h
      exact q2.symm.trans fr
/-! MoodFare$Town.stands -/
def f_X5_stands (n : Nat) (t : Nat) (σ : am_Mem) : Option (Int × am_Mem) :=
  if σ t 5 ≤ 0 then (some (0, σ)) else (some (1, σ))
theorem t_X5_stands {L n d : Nat} {Q : am_Post} {t : Nat} {σ σr : am_Mem} {rr : Int} (hd : 0 < d) (ht : tw t) (h : f_X5_stands n t σ = some (rr, σr)) (hQ : Q (some (am_i rr)) (rm_h L σr)) : xs_aw d me_X5_stands [am_r t] (rm_h L σ) Q := by
  obtain ⟨d, rfl⟩ : ∃ k, d = k + 1 := ⟨d - 1, by omega⟩
  have hd : 0 ≤ d := by omega
  unfold f_X5_stands at h
  show xs_AW (xs_aw d) me_X5_stands Q 0 [some (am_r t)] [] (rm_h L σ)
  refine rr_aload_n dX5_stands_0 rfl ?_
  refine rr_geti (kz := 5) dX5_stands_1 fl_5_33 (tw_sh ht L) ⟨(tw_ge ht), by decide⟩ rfl rfl ?_
  rcases ab_i h with ⟨c1, h⟩ | ⟨c1, h⟩
  · refine rr_if_le_p (t := 11) dX5_stands_4 (by decide) c1 ?_
    refine rr_iconst dX5_stands_11 (by decide) ?_
    obtain ⟨rfl, rfl⟩ := ab_r2 h
    exact rr_zret dX5_stands_12 rfl (Or.inl rfl) hQ
  · refine rr_if_le_n (t := 11) dX5_stands_4 (by decide) c1 ?_
    refine rr_iconst dX5_stands_7 (by decide) ?_
    refine rr_goto (t := 12) dX5_stands_8 (by decide) ?_
    obtain ⟨rfl, rfl⟩ := ab_r2 h
    exact rr_zret dX5_stands_12 rfl (Or.inr rfl) hQ
theorem u_X5_stands {n : Nat} {t : Nat} {σ σr : am_Mem} {rr : Int} (h : f_X5_stands n t σ = some (rr, σr)) : σr = σ := by
  unfold f_X5_stands at h
  have fr : σ = σ := rfl
  rcases ab_i h with ⟨c1, h⟩ | ⟨c1, h⟩
  · obtain ⟨q1, q2⟩ := ab_r2 h
    exact q2.symm.trans fr
  · obtain ⟨q1, q2⟩ := ab_r2 h
    exact q2.symm.trans fr
/-! MoodFare$Town.turn -/
def f_X5_turn (n : Nat) (t : Nat) (p1 : Int) (σ : am_Mem) : Option am_Mem :=
  am_b1 (some (am_up σ t 8 (am_xor (σ t 8) (am_shl 1 p1)))) fun σ1 => some σ1
theorem t_X5_turn {L n d : Nat} {Q : am_Post} {t : Nat} {p1 : Int} {σ σr : am_Mem} (hd : 0 < d) (ht : tw t) (h : f_X5_turn n t p1 σ = some σr) (hQ : Q none (rm_h L σr)) : xs_aw d me_X5_turn [am_r t, am_i p1] (rm_h L σ) Q := by
  obtain ⟨d, rfl⟩ : ∃ k, d = k + 1 := ⟨d - 1, by omega⟩
  have hd : 0 ≤ d := by omega
  unfold f_X5_turn at h
  show xs_AW (xs_aw d) me_X5_turn Q 0 [some (am_r t), some (am_i p1)] [] (rm_h L σ)
  refine rr_aload_n dX5_turn_0 rfl ?_
  refine rr_dup dX5_turn_1 rfl ?_
  refine rr_geti (kz := 8) dX5_turn_2 fl_5_43 (tw_sh ht L) ⟨(tw_ge ht), by decide⟩ rfl rfl ?_
  refine rr_iconst dX5_turn_5 (by decide) ?_
  refine rr_iload_n dX5_turn_6 rfl ?_
  refine rr_ishl dX5_turn_7 ?_
  refine rr_ixor dX5_turn_8 ?_
  obtain ⟨σ1, e2, h⟩ := ab_1 h
  refine rr_puti (kz := 8) dX5_turn_9 fl_5_43 (tw_sh ht L) ⟨(tw_ge ht), by decide⟩ ⟨rfl, rfl⟩ rfl (ab_m e2 ?_)
  obtain rfl := ab_r1 h
  exact rr_vret dX5_turn_12 rfl hQ
def nw_X5_turn (t : Nat) (a : Nat) : Prop := a ≠ t
theorem w_X5_turn {n : Nat} {t : Nat} {p1 : Int} {σ σr : am_Mem} (h : f_X5_turn n t p1 σ = some σr) : ∀ a : Nat, nw_X5_turn t a → σr a = σ a := by
  unfold f_X5_turn at h
  have fr : ∀ a : Nat, nw_X5_turn t a → σ a = σ a := fun _ _ => rfl
  obtain ⟨σ1, e2, h⟩ := ab_1 h
  have fr := fun (a : Nat) (ha : nw_X5_turn t a) => (ab_fu e2 (show a ≠ t by unfold nw_X5_turn at ha; omega)).trans (fr a ha)
  have q2 := ab_r1 h
  exact fun a ha => (congrFun q2.symm a).trans (fr a ha)
/-! MoodFare$Acts.takeBack -/
def f_X0_takeBack (n : Nat) (p1 : Nat) (σ : am_Mem) : Option am_Mem :=
  if σ 43 2 = 0 then (some σ) else (am_b1 (some (am_up σ 43 2 (am_w ((σ 43 2) - 1)))) fun σ2 => if (0 : Int) ≤ Int.tmod (am_w ((σ2 43 1) + (σ2 43 2))) 24 ∧ Int.tmod (am_w ((σ2 43 1) + (σ2 43 2))) 24 < 24 then if σ2 (45 + (Int.tmod (am_w ((σ2 43 1) + (σ2 43 2))) 24).toNat) 0 = 0 then (am_b1 (some (am_up σ2 p1 9 (σ2 (45 + (Int.tmod (am_w ((σ2 43 1) + (σ2 43 2))) 24).toNat) 1))) fun σ6 => am_b1 (some (am_up σ6 p1 10 (σ6 (45 + (Int.tmod (am_w ((σ2 43 1) + (σ2 43 2))) 24).toNat) 2))) fun σ8 => am_b1 (some (am_up σ8 p1 11 (σ8 (45 + (Int.tmod (am_w ((σ2 43 1) + (σ2 43 2))) 24).toNat) 3))) fun σ10 => am_b1 (some (am_up σ10 p1 12 (am_w ((σ10 p1 12) - 1)))) fun σ12 => some σ12) else (if σ2 (45 + (Int.tmod (am_w ((σ2 43 1) + (σ2 43 2))) 24).toNat) 0 = 1 then (if (0 : Int) ≤ σ2 (45 + (Int.tmod (am_w ((σ2 43 1) + (σ2 43 2))) 24).toNat) 1 ∧ σ2 (45 + (Int.tmod (am_w ((σ2 43 1) + (σ2 43 2))) 24).toNat) 1 < 6 then am_b1 (some (am_up σ2 (p1 + 2) (σ2 (45 + (Int.tmod (am_w ((σ2 43 1) + (σ2 43 2))) 24).toNat) 1) (σ2 (45 + (Int.tmod (am_w ((σ2 43 1) + (σ2 43 2))) 24).toNat) 2))) fun σ16 => some σ16 else none) else (if σ2 (45 + (Int.tmod (am_w ((σ2 43 1) + (σ2 43 2))) 24).toNat) 0 = 2 then (am_b1 (some (am_up σ2 p1 11 (σ2 (45 + (Int.tmod (am_w ((σ2 43 1) + (σ2 43 2))) 24).toNat) 1))) fun σ19 => some σ19) else (am_b1 (f_X5_turn n p1 (σ2 (45 + (Int.tmod (am_w ((σ2 43 1) + (σ2 43 2))) 24).toNat) 1) σ2) fun σ23 => some σ23))) else none)
theorem t_X0_takeBack {L n d : Nat} {Q : am_Post} {p1 : Nat} {σ σr : am_Mem} (hd : 1 < d) (ht_p1 : tw p1) (h : f_X0_takeBack n p1 σ = some σr) (hQ : Q none (rm_h L σr)) : xs_aw d me_X0_takeBack [am_r 43, am_r p1] (rm_h L σ) Q := by
  obtain ⟨d, rfl⟩ : ∃ k, d = k + 1 := ⟨d - 1, by omega⟩
  have hd : 1 ≤ d := by omega
  unfold f_X0_takeBack at h
  show xs_AW (xs_aw d) me_X0_takeBack Q 0 [some (am_r 43), some (am_r p1), none] [] (rm_h L σ)
  refine rr_aload_n dX0_takeBack_0 rfl ?_
  refine rr_geti (kz := 2) dX0_takeBack_1 fl_0_20 (sh_43 L) ⟨(by decide), by decide⟩ rfl rfl ?_
  rcases ab_i h with ⟨c1, h⟩ | ⟨c1, h⟩
  · refine rr_if_ne_p (t := 8) dX0_takeBack_4 (by decide) c1 ?_
    obtain rfl := ab_r1 h
    exact rr_vret dX0_takeBack_7 rfl hQ
  · refine rr_if_ne_n (t := 8) dX0_takeBack_4 (by decide) c1 ?_
    refine rr_aload_n dX0_takeBack_8 rfl ?_
    refine rr_dup dX0_takeBack_9 rfl ?_
    refine rr_geti (kz := 2) dX0_takeBack_10 fl_0_20 (sh_43 L) ⟨(by decide), by decide⟩ rfl rfl ?_
    refine rr_iconst dX0_takeBack_13 (by decide) ?_
    refine rr_isub dX0_takeBack_14 ?_
    obtain ⟨σ2, e3, h⟩ := ab_1 h
    refine rr_puti (kz := 2) dX0_takeBack_15 fl_0_20 (sh_43 L) ⟨(by decide), by decide⟩ ⟨rfl, rfl⟩ rfl (ab_m e3 ?_)
    refine rr_aload_n dX0_takeBack_18 rfl ?_
    refine rr_getr (t := 44) dX0_takeBack_19 fl_0_11 (sh_43 L) ⟨(by decide), by decide⟩ rfl rfl ?_
    refine rr_aload_n dX0_takeBack_22 rfl ?_
    refine rr_geti (kz := 1) dX0_takeBack_23 fl_0_16 (sh_43 L) ⟨(by decide), by decide⟩ rfl rfl ?_
    refine rr_aload_n dX0_takeBack_26 rfl ?_
    refine rr_geti (kz := 2) dX0_takeBack_27 fl_0_20 (sh_43 L) ⟨(by decide), by decide⟩ rfl rfl ?_
    refine rr_iadd dX0_takeBack_30 ?_
    refine rr_bipush dX0_takeBack_31 (by decide) ?_
    refine rr_irem dX0_takeBack_33 (by decide) ?_
    obtain ⟨g4, h⟩ := ab_g h
    refine rr_aald (nz := 24) (t := (45 + (Int.tmod (am_w ((σ2 43 1) + (σ2 43 2))) 24).toNat)) dX0_takeBack_34 (sh_44 L) ⟨(by decide), Or.inr rfl⟩ rfl g4 (er_44 g4) ?_
    refine rr_astore_n (ls' := [some (am_r 43), some (am_r p1), some (am_r (45 + (Int.tmod (am_w ((σ2 43 1) + (σ2 43 2))) 24).toNat))]) dX0_takeBack_35 (Nat.le_of_ble_eq_true rfl) rfl ?_
    refine rr_aload_n dX0_takeBack_36 rfl ?_
    refine rr_iconst dX0_takeBack_37 (by decide) ?_
    refine rr_iald (nz := 4) dX0_takeBack_38 (el_44 g4 L) rfl ⟨by decide, by decide⟩ ?_
    rcases ab_i h with ⟨c5, h⟩ | ⟨c5, h⟩
    · refine rr_tsw_in (off := 25) (t := 64) dX0_takeBack_39 (by omega) (by rw [c5]; rfl) (by decide) ?_
      refine rr_aload_n dX0_takeBack_64 rfl ?_
      refine rr_aload_n dX0_takeBack_65 rfl ?_
      refine rr_iconst dX0_takeBack_66 (by decide) ?_
      refine rr_iald (nz := 4) dX0_takeBack_67 (el_44 g4 L) rfl ⟨by decide, by decide⟩ ?_
      obtain ⟨σ6, e7, h⟩ := ab_1 h
      refine rr_puti (kz := 9) dX0_takeBack_68 fl_0_23 (tw_sh ht_p1 L) ⟨(tw_ge ht_p1), by decide⟩ ⟨rfl, rfl⟩ rfl (ab_m e7 ?_)
      refine rr_aload_n dX0_takeBack_71 rfl ?_
      refine rr_aload_n dX0_takeBack_72 rfl ?_
      refine rr_iconst dX0_takeBack_73 (by decide) ?_
      refine rr_iald (nz := 4) dX0_takeBack_74 (el_44 g4 L) rfl ⟨by decide, by decide⟩ ?_
      obtain ⟨σ8, e9, h⟩ := ab_1 h
      refine rr_puti (kz := 10) dX0_takeBack_75 fl_0_28 (tw_sh ht_p1 L) ⟨(tw_ge ht_p1), by decide⟩ ⟨rfl, rfl⟩ rfl (ab_m e9 ?_)
      refine rr_aload_n dX0_takeBack_78 rfl ?_
      refine rr_aload_n dX0_takeBack_79 rfl ?_
      refine rr_iconst dX0_takeBack_80 (by decide) ?_
      refine rr_iald (nz := 4) dX0_takeBack_81 (el_44 g4 L) rfl ⟨by decide, by decide⟩ ?_
      obtain ⟨σ10, e11, h⟩ := ab_1 h
      refine rr_puti (kz := 11) dX0_takeBack_82 fl_0_31 (tw_sh ht_p1 L) ⟨(tw_ge ht_p1), by decide⟩ ⟨rfl, rfl⟩ rfl (ab_m e11 ?_)
      refine rr_aload_n dX0_takeBack_85 rfl ?_
      refine rr_dup dX0_takeBack_86 rfl ?_
      refine rr_geti (kz := 12) dX0_takeBack_87 fl_0_34 (tw_sh ht_p1 L) ⟨(tw_ge ht_p1), by decide⟩ rfl rfl ?_
      refine rr_iconst dX0_takeBack_90 (by decide) ?_
      refine rr_isub dX0_takeBack_91 ?_
      obtain ⟨σ12, e13, h⟩ := ab_1 h
      refine rr_puti (kz := 12) dX0_takeBack_92 fl_0_34 (tw_sh ht_p1 L) ⟨(tw_ge ht_p1), by decide⟩ ⟨rfl, rfl⟩ rfl (ab_m e13 ?_)
      refine rr_goto (t := 129) dX0_takeBack_95 (by decide) ?_
      obtain rfl := ab_r1 h
      exact rr_vret dX0_takeBack_129 rfl hQ
    rcases ab_i h with ⟨c14, h⟩ | ⟨c14, h⟩
    · refine rr_tsw_in (off := 59) (t := 98) dX0_takeBack_39 (by omega) (by rw [c14]; rfl) (by decide) ?_
      refine rr_aload_n dX0_takeBack_98 rfl ?_
      refine rr_getr (t := (p1 + 2)) dX0_takeBack_99 fl_0_37 (tw_sh ht_p1 L) ⟨(tw_ge ht_p1), by decide⟩ rfl rfl ?_
      refine rr_aload_n dX0_takeBack_102 rfl ?_
      refine rr_iconst dX0_takeBack_103 (by decide) ?_
      refine rr_iald (nz := 4) dX0_takeBack_104 (el_44 g4 L) rfl ⟨by decide, by decide⟩ ?_
      refine rr_aload_n dX0_takeBack_105 rfl ?_
      refine rr_iconst dX0_takeBack_106 (by decide) ?_
      refine rr_iald (nz := 4) dX0_takeBack_107 (el_44 g4 L) rfl ⟨by decide, by decide⟩ ?_
      obtain ⟨g15, h⟩ := ab_g h
      refine rr_iast (nz := 6) dX0_takeBack_108 (tw_a2 ht_p1 L) (Nat.le_trans (tw_ge ht_p1) (Nat.le_add_right _ _)) rfl g15 ?_
      obtain ⟨σ16, e17, h⟩ := ab_1 h
      refine ab_m e17 ?_
      refine rr_goto (t := 129) dX0_takeBack_109 (by decide) ?_
      obtain rfl := ab_r1 h
      exact rr_vret dX0_takeBack_129 rfl hQ
    rcases ab_i h with ⟨c18, h⟩ | ⟨c18, h⟩
    · refine rr_tsw_in (off := 73) (t := 112) dX0_takeBack_39 (by omega) (by rw [c18]; rfl) (by decide) ?_
      refine rr_aload_n dX0_takeBack_112 rfl ?_
      refine rr_aload_n dX0_takeBack_113 rfl ?_
      refine rr_iconst dX0_takeBack_114 (by decide) ?_
      refine rr_iald (nz := 4) dX0_takeBack_115 (el_44 g4 L) rfl ⟨by decide, by decide⟩ ?_
      obtain ⟨σ19, e20, h⟩ := ab_1 h
      refine rr_puti (kz := 11) dX0_takeBack_116 fl_0_31 (tw_sh ht_p1 L) ⟨(tw_ge ht_p1), by decide⟩ ⟨rfl, rfl⟩ rfl (ab_m e20 ?_)
      refine rr_goto (t := 129) dX0_takeBack_119 (by decide) ?_
      obtain rfl := ab_r1 h
      exact rr_vret dX0_takeBack_129 rfl hQ
    refine rr_tsw_out (t := 122) dX0_takeBack_39 (by omega) (by decide) ?_
    refine rr_aload_n dX0_takeBack_122 rfl ?_
    refine rr_aload_n dX0_takeBack_123 rfl ?_
    refine rr_iconst dX0_takeBack_124 (by decide) ?_
    refine rr_iald (nz := 4) dX0_takeBack_125 (el_44 g4 L) rfl ⟨by decide, by decide⟩ ?_
    obtain ⟨σ23, e21, h⟩ := ab_1 h
    refine rr_Vv (as := [am_i (σ2 (45 + (Int.tmod (am_w ((σ2 43 1) + (σ2 43 2))) 24).toNat) 1)]) (rest := []) dX0_takeBack_126 ml_0_41 (tw_sh ht_p1 L) ⟨(tw_ge ht_p1), by decide, by decide⟩ rfl rfl rfl (Nat.le_of_ble_eq_true rfl) ⟨rfl, rfl⟩ (Nat.le_of_ble_eq_true rfl) (fun _ k => t_X5_turn (by omega) ht_p1 e21 k) ?_
    obtain rfl := ab_r1 h
    exact rr_vret dX0_takeBack_129 rfl hQ
def nw_X0_takeBack (p1 : Nat) (a : Nat) : Prop := a ≠ 43 ∧ a ≠ p1 + 2 ∧ a ≠ p1
theorem w_X0_takeBack {n : Nat} {p1 : Nat} {σ σr : am_Mem} (h : f_X0_takeBack n p1 σ = some σr) : ∀ a : Nat, nw_X0_takeBack p1 a → σr a = σ a := by
  unfold f_X0_takeBack at h
  have fr : ∀ a : Nat, nw_X0_takeBack p1 a → σ a = σ a := fun _ _ => rfl
  rcases ab_i h with ⟨c1, h⟩ | ⟨c1, h⟩
  · have q2 := ab_r1 h
    exact fun a ha => (congrFun q2.symm a).trans (fr a ha)
  · obtain ⟨σ2, e3, h⟩ := ab_1 h
    have fr := fun (a : Nat) (ha : nw_X0_takeBack p1 a) => (ab_fu e3 (show a ≠ 43 by unfold nw_X0_takeBack at ha; omega)).trans (fr a ha)
    obtain ⟨g4, h⟩ := ab_g h
    rcases ab_i h with ⟨c5, h⟩ | ⟨c5, h⟩
    · obtain ⟨σ6, e7, h⟩ := ab_1 h
      have fr := fun (a : Nat) (ha : nw_X0_takeBack p1 a) => (ab_fu e7 (show a ≠ p1 by unfold nw_X0_takeBack at ha; omega)).trans (fr a ha)
      obtain ⟨σ8, e9, h⟩ := ab_1 h
      have fr := fun (a : Nat) (ha : nw_X0_takeBack p1 a) => (ab_fu e9 (show a ≠ p1 by unfold nw_X0_takeBack at ha; omega)).trans (fr a ha)
      obtain ⟨σ10, e11, h⟩ := ab_1 h
      have fr := fun (a : Nat) (ha : nw_X0_takeBack p1 a) => (ab_fu e11 (show a ≠ p1 by unfold nw_X0_takeBack at ha; omega)).trans (fr a ha)
      obtain ⟨σ12, e13, h⟩ := ab_1 h
      have fr := fun (a : Nat) (ha : nw_X0_takeBack p1 a) => (ab_fu e13 (show a ≠ p1 by unfold nw_X0_takeBack at ha; omega)).trans (fr a ha)
      have q2 := ab_r1 h
      exact fun a ha => (congrFun q2.symm a).trans (fr a ha)
    rcases ab_i h with ⟨c14, h⟩ | ⟨c14, h⟩
    · obtain ⟨g15, h⟩ := ab_g h
      obtain ⟨σ16, e17, h⟩ := ab_1 h
      have fr := fun (a : Nat) (ha : nw_X0_takeBack p1 a) => (ab_fu e17 (show a ≠ (p1 + 2) by unfold nw_X0_takeBack at ha; omega)).trans (fr a ha)
      have q2 := ab_r1 h
      exact fun a ha => (congrFun q2.symm a).trans (fr a ha)
    rcases ab_i h with ⟨c18, h⟩ | ⟨c18, h⟩
    · obtain ⟨σ19, e20, h⟩ := ab_1 h
      have fr := fun (a : Nat) (ha : nw_X0_takeBack p1 a) => (ab_fu e20 (show a ≠ p1 by unfold nw_X0_takeBack at ha; omega)).trans (fr a ha)
      have q2 := ab_r1 h
      exact fun a ha => (congrFun q2.symm a).trans (fr a ha)
    obtain ⟨σ23, e21, h⟩ := ab_1 h
    have fr := fun (a : Nat) (ha : nw_X0_takeBack p1 a) => (w_X5_turn e21 a (by unfold nw_X0_takeBack at ha; unfold nw_X5_turn; omega)).trans (fr a ha)
    have q2 := ab_r1 h
    exact fun a ha => (congrFun q2.symm a).trans (fr a ha)
/-! MoodFare$Town.openWays -/
def fb_X5_openWays_19 (n : Nat) (t : Nat) (kh9 : Int → Int → am_Mem → Option (Int × am_Mem)) (kh19 : Int → Int → Int → am_Mem → Option (Int × am_Mem)) (x1 : Int) (x2 : Int) (x3 : Int) (σ : am_Mem) : Option (Int × am_Mem) :=
  if x3 < σ t 6 then (am_b2 (f_X5_isOpen n t x3 σ) fun r4 σ5 => if r4 = 0 then (kh19 x1 x2 (am_w (x3 + 1)) σ5) else (if (0 : Int) ≤ x3 ∧ x3 < 8 then if am_and (am_shr x1 (σ5 (t + 4) x3)) 1 = 1 then (kh19 (am_or x1 (am_shl 1 (σ5 (t + 5) x3))) x2 (am_w (x3 + 1)) σ5) else (kh19 x1 x2 (am_w (x3 + 1)) σ5) else none)) else (kh9 x1 (am_w (x2 + 1)) σ)
def fl_X5_openWays_19 (n : Nat) (t : Nat) (kh9 : Int → Int → am_Mem → Option (Int × am_Mem)) : Nat → Int → Int → Int → am_Mem → Option (Int × am_Mem)
  | 0, _, _, _, _ => none
  | m + 1, x1, x2, x3, σ => fb_X5_openWays_19 n t kh9 (fun yx1 yx2 yx3 σ => fl_X5_openWays_19 n t kh9 m yx1 yx2 yx3 σ) x1 x2 x3 σ
def fb_X5_openWays_9 (n : Nat) (t : Nat) (kh9 : Int → Int → am_Mem → Option (Int × am_Mem)) (x1 : Int) (x2 : Int) (σ : am_Mem) : Option (Int × am_Mem) :=
  if x2 < σ t 5 then (fl_X5_openWays_19 n t kh9 n x1 x2 0 σ) else (some (x1, σ))
def fl_X5_openWays_9 (n : Nat) (t : Nat) : Nat → Int → Int → am_Mem → Option (Int × am_Mem)
  | 0, _, _, _ => none
  | m + 1, x1, x2, σ => fb_X5_openWays_9 n t (fun yx1 yx2 σ => fl_X5_openWays_9 n t m yx1 yx2 σ) x1 x2 σ
def f_X5_openWays (n : Nat) (t : Nat) (σ : am_Mem) : Option (Int × am_Mem) :=
  fl_X5_openWays_9 n t n (am_shl 1 (σ t 9)) 0 σ
theorem tb_X5_openWays_19 {L n d : Nat} {Q : am_Post} {t : Nat} {kh9 : Int → Int → am_Mem → Option (Int × am_Mem)} {kh19 : Int → Int → Int → am_Mem → Option (Int × am_Mem)} {x1 : Int} {x2 : Int} {x3 : Int} {σ σr : am_Mem} {rr : Int} (hd : 1 ≤ d) (ht : tw t) (hk9 : ∀ (y1 : Int) (y2 : Int) (σ : am_Mem), kh9 y1 y2 σ = some (rr, σr) → ∀ (o3 : Option am_V), xs_AW (xs_aw d) me_X5_openWays Q 9 [some (am_r t), some (am_i y1), some (am_i y2), o3] [] (rm_h L σ)) (hk19 : ∀ (y1 : Int) (y2 : Int) (y3 : Int) (σ : am_Mem), kh19 y1 y2 y3 σ = some (rr, σr) → xs_AW (xs_aw d) me_X5_openWays Q 19 [some (am_r t), some (am_i y1), some (am_i y2), some (am_i y3)] [] (rm_h L σ)) (hQ : Q (some (am_i rr)) (rm_h L σr)) (h : fb_X5_openWays_19 n t kh9 kh19 x1 x2 x3 σ = some (rr, σr)) : xs_AW (xs_aw d) me_X5_openWays Q 19 [some (am_r t), some (am_i x1), some (am_i x2), some (am_i x3)] [] (rm_h L σ) := by
  unfold fb_X5_openWays_19 at h
  refine rr_iload_n dX5_openWays_19 rfl ?_
  refine rr_aload_n dX5_openWays_20 rfl ?_
  refine rr_geti (kz := 6) dX5_openWays_21 fl_5_37 (tw_sh ht L) ⟨(tw_ge ht), by decide⟩ rfl rfl ?_
  rcases ab_i h with ⟨c2, h⟩ | ⟨c2, h⟩
  · refine rr_icmp_ge_p (t := 66) dX5_openWays_24 (by decide) c2 ?_
    refine rr_aload_n dX5_openWays_27 rfl ?_
    refine rr_iload_n dX5_openWays_28 rfl ?_
    obtain ⟨r4, σ5, e3, h⟩ := ab_2 h
    refine rr_Vi (as := [am_i x3]) (rest := []) dX5_openWays_29 ml_5_66 (tw_sh ht L) ⟨(tw_ge ht), by decide, by decide⟩ rfl rfl rfl (Nat.le_of_ble_eq_true rfl) ⟨rfl, rfl⟩ (Nat.le_of_ble_eq_true rfl) (fun _ k => t_X5_isOpen (by omega) ht e3 k) ?_
    rcases ab_i h with ⟨c6, h⟩ | ⟨c6, h⟩
    · refine rr_if_eq_p (t := 60) dX5_openWays_32 (by decide) c6 ?_
      refine rr_iinc (ls' := [some (am_r t), some (am_i x1), some (am_i x2), some (am_i (am_w (x3 + 1)))]) dX5_openWays_60 rfl (Nat.le_of_ble_eq_true rfl) rfl ?_
      refine rr_goto (t := 19) dX5_openWays_63 (by decide) ?_
      exact hk19 _ _ _ _ h
    · refine rr_if_eq_n (t := 60) dX5_openWays_32 (by decide) c6 ?_
      refine rr_iload_n dX5_openWays_35 rfl ?_
      refine rr_aload_n dX5_openWays_36 rfl ?_
      refine rr_getr (t := (t + 4)) dX5_openWays_37 fl_5_21 (tw_sh ht L) ⟨(tw_ge ht), by decide⟩ rfl rfl ?_
      refine rr_iload_n dX5_openWays_40 rfl ?_
      obtain ⟨g7, h⟩ := ab_g h
      refine rr_iald (nz := 8) dX5_openWays_41 (tw_a4 ht L) rfl g7 ?_
      refine rr_ishr dX5_openWays_42 ?_
      refine rr_iconst dX5_openWays_43 (by decide) ?_
      refine rr_iand dX5_openWays_44 ?_
      refine rr_iconst dX5_openWays_45 (by decide) ?_
      rcases ab_i h with ⟨c8, h⟩ | ⟨c8, h⟩
      · refine rr_icmp_ne_p (t := 60) dX5_openWays_46 (by decide) c8 ?_
        refine rr_iload_n dX5_openWays_49 rfl ?_
        refine rr_iconst dX5_openWays_50 (by decide) ?_
        refine rr_aload_n dX5_openWays_51 rfl ?_
        refine rr_getr (t := (t + 5)) dX5_openWays_52 fl_5_24 (tw_sh ht L) ⟨(tw_ge ht), by decide⟩ rfl rfl ?_
        refine rr_iload_n dX5_openWays_55 rfl ?_
        refine rr_iald (nz := 8) dX5_openWays_56 (tw_a5 ht L) rfl g7 ?_
        refine rr_ishl dX5_openWays_57 ?_
        refine rr_ior dX5_openWays_58 ?_
        refine rr_istore_n (ls' := [some (am_r t), some (am_i (am_or x1 (am_shl 1 (σ5 (t + 5) x3)))), some (am_i x2), some (am_i x3)]) dX5_openWays_59 (Nat.le_of_ble_eq_true rfl) rfl ?_
        refine rr_iinc (ls' := [some (am_r t), some (am_i (am_or x1 (am_shl 1 (σ5 (t + 5) x3)))), some (am_i x2), some (am_i (am_w (x3 + 1)))]) dX5_openWays_60 rfl (Nat.le_of_ble_eq_true rfl) rfl ?_
        refine rr_goto (t := 19) dX5_openWays_63 (by decide) ?_
        exact hk19 _ _ _ _ h
      · refine rr_icmp_ne_n (t := 60) dX5_openWays_46 (by decide) c8 ?_
        refine rr_iinc (ls' := [some (am_r t), some (am_i x1), some (am_i x2), some (am_i (am_w (x3 + 1)))]) dX5_openWays_60 rfl (Nat.le_of_ble_eq_true rfl) rfl ?_
        refine rr_goto (t := 19) dX5_openWays_63 (by decide) ?_
        exact hk19 _ _ _ _ h
  · refine rr_icmp_ge_n (t := 66) dX5_openWays_24 (by decide) c2 ?_
    refine rr_iinc (ls' := [some (am_r t), some (am_i x1), some (am_i (am_w (x2 + 1))), some (am_i x3)]) dX5_openWays_66 rfl (Nat.le_of_ble_eq_true rfl) rfl ?_
    refine rr_goto (t := 9) dX5_openWays_69 (by decide) ?_
    exact hk9 _ _ _ h _
theorem tl_X5_openWays_19 {L n d : Nat} {Q : am_Post} {t : Nat} {kh9 : Int → Int → am_Mem → Option (Int × am_Mem)} {σr : am_Mem} {rr : Int} (hd : 1 ≤ d) (ht : tw t) (hk9 : ∀ (y1 : Int) (y2 : Int) (σ : am_Mem), kh9 y1 y2 σ = some (rr, σr) → ∀ (o3 : Option am_V), xs_AW (xs_aw d) me_X5_openWays Q 9 [some (am_r t), some (am_i y1), some (am_i y2), o3] [] (rm_h L σ)) (hQ : Q (some (am_i rr)) (rm_h L σr)) : ∀ (m : Nat) (x1 : Int) (x2 : Int) (x3 : Int) (σ : am_Mem), fl_X5_openWays_19 n t kh9 m x1 x2 x3 σ = some (rr, σr) → xs_AW (xs_aw d) me_X5_openWays Q 19 [some (am_r t), some (am_i x1), some (am_i x2), some (am_i x3)] [] (rm_h L σ) := by
  intro m
  induction m with
  | zero => intro x1 x2 x3 σ h; cases h
  | succ m ih =>
    intro x1 x2 x3 σ h
    exact tb_X5_openWays_19 hd ht hk9 (fun x1 x2 x3 σ h => ih x1 x2 x3 σ h) hQ h
theorem tb_X5_openWays_9 {L n d : Nat} {Q : am_Post} {t : Nat} {kh9 : Int → Int → am_Mem → Option (Int × am_Mem)} {x1 : Int} {x2 : Int} {o3 : Option am_V} {σ σr : am_Mem} {rr : Int} (hd : 1 ≤ d) (ht : tw t) (hk9 : ∀ (y1 : Int) (y2 : Int) (σ : am_Mem), kh9 y1 y2 σ = some (rr, σr) → ∀ (o3 : Option am_V), xs_AW (xs_aw d) me_X5_openWays Q 9 [some (am_r t), some (am_i y1), some (am_i y2), o3] [] (rm_h L σ)) (hQ : Q (some (am_i rr)) (rm_h L σr)) (h : fb_X5_openWays_9 n t kh9 x1 x2 σ = some (rr, σr)) : xs_AW (xs_aw d) me_X5_openWays Q 9 [some (am_r t), some (am_i x1), some (am_i x2), o3] [] (rm_h L σ) := by
  unfold fb_X5_openWays_9 at h
  refine rr_iload_n dX5_openWays_9 rfl ?_
  refine rr_aload_n dX5_openWays_10 rfl ?_
  refine rr_geti (kz := 5) dX5_openWays_11 fl_5_33 (tw_sh ht L) ⟨(tw_ge ht), by decide⟩ rfl rfl ?_
  rcases ab_i h with ⟨c1, h⟩ | ⟨c1, h⟩
  · refine rr_icmp_ge_p (t := 72) dX5_openWays_14 (by decide) c1 ?_
    refine rr_iconst dX5_openWays_17 (by decide) ?_
    refine rr_istore_n (ls' := [some (am_r t), some (am_i x1), some (am_i x2), some (am_i 0)]) dX5_openWays_18 (Nat.le_of_ble_eq_true rfl) rfl ?_
    exact tl_X5_openWays_19 hd ht hk9 hQ n _ _ _ _ h
  · refine rr_icmp_ge_n (t := 72) dX5_openWays_14 (by decide) c1 ?_
    refine rr_iload_n dX5_openWays_72 rfl ?_
    obtain ⟨rfl, rfl⟩ := ab_r2 h
    exact rr_iret dX5_openWays_73 rfl hQ
theorem tl_X5_openWays_9 {L n d : Nat} {Q : am_Post} {t : Nat} {σr : am_Mem} {rr : Int} (hd : 1 ≤ d) (ht : tw t) (hQ : Q (some (am_i rr)) (rm_h L σr)) : ∀ (m : Nat) (x1 : Int) (x2 : Int) (σ : am_Mem) (o3 : Option am_V), fl_X5_openWays_9 n t m x1 x2 σ = some (rr, σr) → xs_AW (xs_aw d) me_X5_openWays Q 9 [some (am_r t), some (am_i x1), some (am_i x2), o3] [] (rm_h L σ) := by
  intro m
  induction m with
  | zero => intro x1 x2 σ o3 h; cases h
  | succ m ih =>
    intro x1 x2 σ o3 h
    exact tb_X5_openWays_9 hd ht (fun x1 x2 σ h o3 => ih x1 x2 σ o3 h) hQ h
theorem t_X5_openWays {L n d : Nat} {Q : am_Post} {t : Nat} {σ σr : am_Mem} {rr : Int} (hd : 1 < d) (ht : tw t) (h : f_X5_openWays n t σ = some (rr, σr)) (hQ : Q (some (am_i rr)) (rm_h L σr)) : xs_aw d me_X5_openWays [am_r t] (rm_h L σ) Q := by
  obtain ⟨d, rfl⟩ : ∃ k, d = k + 1 := ⟨d - 1, by omega⟩
  have hd : 1 ≤ d := by omega
  unfold f_X5_openWays at h
  show xs_AW (xs_aw d) me_X5_openWays Q 0 [some (am_r t), none, none, none] [] (rm_h L σ)
  refine rr_iconst dX5_openWays_0 (by decide) ?_
  refine rr_aload_n dX5_openWays_1 rfl ?_
  refine rr_geti (kz := 9) dX5_openWays_2 fl_5_46 (tw_sh ht L) ⟨(tw_ge ht), by decide⟩ rfl rfl ?_
  refine rr_ishl dX5_openWays_5 ?_
  refine rr_istore_n (ls' := [some (am_r t), some (am_i (am_shl 1 (σ t 9))), none, none]) dX5_openWays_6 (Nat.le_of_ble_eq_true rfl) rfl ?_
  refine rr_iconst dX5_openWays_7 (by decide) ?_
  refine rr_istore_n (ls' := [some (am_r t), some (am_i (am_shl 1 (σ t 9))), some (am_i 0), none]) dX5_openWays_8 (Nat.le_of_ble_eq_true rfl) rfl ?_
  exact tl_X5_openWays_9 hd ht hQ n _ _ _ _ h
theorem ub_X5_openWays_19 {n : Nat} {t : Nat} {kh9 : Int → Int → am_Mem → Option (Int × am_Mem)} {kh19 : Int → Int → Int → am_Mem → Option (Int × am_Mem)} {x1 : Int} {x2 : Int} {x3 : Int} {σ σr : am_Mem} {rr : Int} (hk9 : ∀ (y1 : Int) (y2 : Int) (σ : am_Mem), kh9 y1 y2 σ = some (rr, σr) → σr = σ) (hk19 : ∀ (y1 : Int) (y2 : Int) (y3 : Int) (σ : am_Mem), kh19 y1 y2 y3 σ = some (rr, σr) → σr = σ) (h : fb_X5_openWays_19 n t kh9 kh19 x1 x2 x3 σ = some (rr, σr)) : σr = σ := by
  unfold fb_X5_openWays_19 at h
  have fr : σ = σ := rfl
  rcases ab_i h with ⟨c2, h⟩ | ⟨c2, h⟩
  · obtain ⟨r4, σ5, e3, h⟩ := ab_2 h
    have fr := (u_X5_isOpen e3).trans fr
    rcases ab_i h with ⟨c6, h⟩ | ⟨c6, h⟩
    · exact (hk19 _ _ _ _ h).trans fr
    · obtain ⟨g7, h⟩ := ab_g h
      rcases ab_i h with ⟨c8, h⟩ | ⟨c8, h⟩
      · exact (hk19 _ _ _ _ h).trans fr
      · exact (hk19 _ _ _ _ h).trans fr
  · exact (hk9 _ _ _ h).trans fr
theorem ul_X5_openWays_19 {n : Nat} {t : Nat} {kh9 : Int → Int → am_Mem → Option (Int × am_Mem)} {σr : am_Mem} {rr : Int} (hk9 : ∀ (y1 : Int) (y2 : Int) (σ : am_Mem), kh9 y1 y2 σ = some (rr, σr) → σr = σ) : ∀ (m : Nat) (x1 : Int) (x2 : Int) (x3 : Int) (σ : am_Mem), fl_X5_openWays_19 n t kh9 m x1 x2 x3 σ = some (rr, σr) → σr = σ := by
  intro m
  induction m with
  | zero => intro x1 x2 x3 σ h; cases h
  | succ m ih =>
    intro x1 x2 x3 σ h
    exact ub_X5_openWays_19 hk9 (fun x1 x2 x3 σ h => ih x1 x2 x3 σ h) h
theorem ub_X5_openWays_9 {n : Nat} {t : Nat} {kh9 : Int → Int → am_Mem → Option (Int × am_Mem)} {x1 : Int} {x2 : Int} {σ σr : am_Mem} {rr : Int} (hk9 : ∀ (y1 : Int) (y2 : Int) (σ : am_Mem), kh9 y1 y2 σ = some (rr, σr) → σr = σ) (h : fb_X5_openWays_9 n t kh9 x1 x2 σ = some (rr, σr)) : σr = σ := by
  unfold fb_X5_openWays_9 at h
  have fr : σ = σ := rfl
  rcases ab_i h with ⟨c1, h⟩ | ⟨c1, h⟩
  · exact (ul_X5_openWays_19 hk9 n _ _ _ _ h).trans fr
  · obtain ⟨q1, q2⟩ := ab_r2 h
    exact q2.symm.trans fr
theorem ul_X5_openWays_9 {n : Nat} {t : Nat} {σr : am_Mem} {rr : Int} : ∀ (m : Nat) (x1 : Int) (x2 : Int) (σ : am_Mem), fl_X5_openWays_9 n t m x1 x2 σ = some (rr, σr) → σr = σ := by
  intro m
  induction m with
  | zero => intro x1 x2 σ h; cases h
  | succ m ih =>
    intro x1 x2 σ h
    exact ub_X5_openWays_9 (fun x1 x2 σ h => ih x1 x2 σ h) h
theorem u_X5_openWays {n : Nat} {t : Nat} {σ σr : am_Mem} {rr : Int} (h : f_X5_openWays n t σ = some (rr, σr)) : σr = σ := by
  unfold f_X5_openWays at h
  have fr : σ = σ := rfl
  exact (ul_X5_openWays_9 n _ _ _ h).trans fr
/-! MoodFare$Search.keepPath -/
def f_X3_keepPath (n : Nat) (p1 : Int) (p2 : Int) (p3 : Int) (σ : am_Mem) : Option am_Mem :=
  if (0 : Int) ≤ 0 ∧ (0 : Int) ≤ 0 ∧ (0 : Int) ≤ p1 ∧ 0 + p1 ≤ (8 : Int) ∧ 0 + p1 ≤ (8 : Int) then am_b1 (some (am_cpy σ 70 0 71 0 p1)) fun σ2 => am_b1 (some (am_up σ2 69 7 p1)) fun σ4 => am_b1 (some (am_up σ4 69 9 p2)) fun σ6 => am_b1 (some (am_up σ6 69 8 p3)) fun σ8 => some σ8 else none
theorem t_X3_keepPath {L n d : Nat} {Q : am_Post} {p1 : Int} {p2 : Int} {p3 : Int} {σ σr : am_Mem} (hd : 0 < d) (h : f_X3_keepPath n p1 p2 p3 σ = some σr) (hQ : Q none (rm_h L σr)) : xs_aw d me_X3_keepPath [am_r 69, am_i p1, am_i p2, am_i p3] (rm_h L σ) Q := by
  obtain ⟨d, rfl⟩ : ∃ k, d = k + 1 := ⟨d - 1, by omega⟩
  have hd : 0 ≤ d := by omega
  unfold f_X3_keepPath at h
  show xs_AW (xs_aw d) me_X3_keepPath Q 0 [some (am_r 69), some (am_i p1), some (am_i p2), some (am_i p3)] [] (rm_h L σ)
  refine rr_aload_n dX3_keepPath_0 rfl ?_
  refine rr_getr (t := 70) dX3_keepPath_1 fl_3_9 (sh_69 L) ⟨(by decide), by decide⟩ rfl rfl ?_
  refine rr_iconst dX3_keepPath_4 (by decide) ?_
  refine rr_aload_n dX3_keepPath_5 rfl ?_
  refine rr_getr (t := 71) dX3_keepPath_6 fl_3_15 (sh_69 L) ⟨(by decide), by decide⟩ rfl rfl ?_
  refine rr_iconst dX3_keepPath_9 (by decide) ?_
  refine rr_iload_n dX3_keepPath_10 rfl ?_
  obtain ⟨g1, h⟩ := ab_g h
  refine rr_acp (naz := 8) (nbz := 8) dX3_keepPath_11 ml_3_107 (sh_70 L) (sh_71 L) ⟨(by decide), (by decide)⟩ rfl rfl g1 (Nat.le_of_ble_eq_true rfl) ?_
  obtain ⟨σ2, e3, h⟩ := ab_1 h
  refine ab_m e3 ?_
  refine rr_aload_n dX3_keepPath_14 rfl ?_
  refine rr_iload_n dX3_keepPath_15 rfl ?_
  obtain ⟨σ4, e5, h⟩ := ab_1 h
  refine rr_puti (kz := 7) dX3_keepPath_16 fl_3_38 (sh_69 L) ⟨(by decide), by decide⟩ ⟨rfl, rfl⟩ rfl (ab_m e5 ?_)
  refine rr_aload_n dX3_keepPath_19 rfl ?_
  refine rr_iload_n dX3_keepPath_20 rfl ?_
  obtain ⟨σ6, e7, h⟩ := ab_1 h
  refine rr_puti (kz := 9) dX3_keepPath_21 fl_3_44 (sh_69 L) ⟨(by decide), by decide⟩ ⟨rfl, rfl⟩ rfl (ab_m e7 ?_)
  refine rr_aload_n dX3_keepPath_24 rfl ?_
  refine rr_iload_n dX3_keepPath_25 rfl ?_
  obtain ⟨σ8, e9, h⟩ := ab_1 h
  refine rr_puti (kz := 8) dX3_keepPath_26 fl_3_41 (sh_69 L) ⟨(by decide), by decide⟩ ⟨rfl, rfl⟩ rfl (ab_m e9 ?_)
  obtain rfl := ab_r1 h
  exact rr_vret dX3_keepPath_29 rfl hQ
def nw_X3_keepPath (a : Nat) : Prop := a ≠ 69 ∧ a ≠ 71
theorem w_X3_keepPath {n : Nat} {p1 : Int} {p2 : Int} {p3 : Int} {σ σr : am_Mem} (h : f_X3_keepPath n p1 p2 p3 σ = some σr) : ∀ a : Nat, nw_X3_keepPath a → σr a = σ a := by
  unfold f_X3_keepPath at h
  have fr : ∀ a : Nat, nw_X3_keepPath a → σ a = σ a := fun _ _ => rfl
  obtain ⟨g1, h⟩ := ab_g h
  obtain ⟨σ2, e3, h⟩ := ab_1 h
  have fr := fun (a : Nat) (ha : nw_X3_keepPath a) => (ab_fc e3 (show a ≠ 71 by unfold nw_X3_keepPath at ha; omega)).trans (fr a ha)
  obtain ⟨σ4, e5, h⟩ := ab_1 h
  have fr := fun (a : Nat) (ha : nw_X3_keepPath a) => (ab_fu e5 (show a ≠ 69 by unfold nw_X3_keepPath at ha; omega)).trans (fr a ha)
  obtain ⟨σ6, e7, h⟩ := ab_1 h
  have fr := fun (a : Nat) (ha : nw_X3_keepPath a) => (ab_fu e7 (show a ≠ 69 by unfold nw_X3_keepPath at ha; omega)).trans (fr a ha)
  obtain ⟨σ8, e9, h⟩ := ab_1 h
  have fr := fun (a : Nat) (ha : nw_X3_keepPath a) => (ab_fu e9 (show a ≠ 69 by unfold nw_X3_keepPath at ha; omega)).trans (fr a ha)
  have q2 := ab_r1 h
  exact fun a ha => (congrFun q2.symm a).trans (fr a ha)
/-! MoodFare$Search.weigh -/
def fb_X3_weigh_45 (n : Nat) (x1 : Int) (x2 : Int) (x3 : Int) (x4 : Int) (x5 : Int) (x6 : Int) (s0 : Int) (σ : am_Mem) : Option am_Mem :=
  if σ 69 3 = 0 then (if x2 = σ 69 4 then (if x6 = 0 then (if s0 = 0 then (some σ) else (am_b1 (f_X3_keepPath n x1 x2 x4 σ) fun σ9 => some σ9)) else (am_b1 (f_X3_keepPath n x1 x2 x4 σ) fun σ12 => some σ12)) else (some σ)) else (if σ 69 3 = 1 then (if x1 = σ 69 5 then (if x6 = 0 then (if x4 ≤ σ 69 8 then (some σ) else (am_b1 (f_X3_keepPath n x1 x2 x4 σ) fun σ19 => some σ19)) else (am_b1 (f_X3_keepPath n x1 x2 x4 σ) fun σ22 => some σ22)) else (some σ)) else (if σ 69 3 = 2 then (if x1 = σ 69 5 then (if x2 = σ 69 4 then (am_b1 (some (am_up σ 69 10 (am_or (σ 69 10) (am_shl 1 x3)))) fun σ26 => some σ26) else (some σ)) else (some σ)) else (if σ 69 3 = 3 then (if x3 = σ 69 4 then (if x6 = 0 then (if x1 < σ 69 7 then (am_b1 (f_X3_keepPath n x1 x2 x4 σ) fun σ34 => some σ34) else (some σ)) else (am_b1 (f_X3_keepPath n x1 x2 x4 σ) fun σ37 => some σ37)) else (some σ)) else (if x2 = σ 69 4 then (if x4 ≤ σ 69 6 then (if (0 : Int) ≤ x5 ∧ x5 < 256 then am_b1 (some (am_up σ 72 x5 1)) fun σ41 => some σ41 else none) else (some σ)) else (some σ)))))
def fb_X3_weigh_12 (n : Nat) (x1 : Int) (x2 : Int) (x3 : Int) (x4 : Int) (x5 : Int) (s0 : Int) (σ : am_Mem) : Option am_Mem :=
  if x4 < σ 69 8 then (fb_X3_weigh_45 n x1 x2 x3 x4 x5 s0 1 σ) else (if x4 = σ 69 8 then (if x1 < σ 69 7 then (fb_X3_weigh_45 n x1 x2 x3 x4 x5 s0 1 σ) else (fb_X3_weigh_45 n x1 x2 x3 x4 x5 s0 0 σ)) else (fb_X3_weigh_45 n x1 x2 x3 x4 x5 s0 0 σ))
def f_X3_weigh (n : Nat) (p1 : Int) (p2 : Int) (p3 : Int) (p4 : Int) (p5 : Int) (σ : am_Mem) : Option am_Mem :=
  if σ 69 7 < 0 then (fb_X3_weigh_12 n p1 p2 p3 p4 p5 1 σ) else (fb_X3_weigh_12 n p1 p2 p3 p4 p5 0 σ)
theorem tb_X3_weigh_45 {L n d : Nat} {Q : am_Post} {x1 : Int} {x2 : Int} {x3 : Int} {x4 : Int} {x5 : Int} {x6 : Int} {s0 : Int} {o7 : Option am_V} {σ σr : am_Mem} (hd : 1 ≤ d) (hQ : Q none (rm_h L σr)) (h : fb_X3_weigh_45 n x1 x2 x3 x4 x5 x6 s0 σ = some σr) : xs_AW (xs_aw d) me_X3_weigh Q 45 [some (am_r 69), some (am_i x1), some (am_i x2), some (am_i x3), some (am_i x4), some (am_i x5), some (am_i x6), o7] [am_i s0] (rm_h L σ) := by
  unfold fb_X3_weigh_45 at h
  refine rr_istore (ls' := [some (am_r 69), some (am_i x1), some (am_i x2), some (am_i x3), some (am_i x4), some (am_i x5), some (am_i x6), some (am_i s0)]) dX3_weigh_45 (Nat.le_of_ble_eq_true rfl) rfl ?_
  refine rr_aload_n dX3_weigh_47 rfl ?_
  refine rr_geti (kz := 3) dX3_weigh_48 fl_3_22 (sh_69 L) ⟨(by decide), by decide⟩ rfl rfl ?_
  rcases ab_i h with ⟨c3, h⟩ | ⟨c3, h⟩
  · refine rr_tsw_in (off := 29) (t := 80) dX3_weigh_51 (by omega) (by rw [c3]; rfl) (by decide) ?_
    refine rr_iload_n dX3_weigh_80 rfl ?_
    refine rr_aload_n dX3_weigh_81 rfl ?_
    refine rr_geti (kz := 4) dX3_weigh_82 fl_3_26 (sh_69 L) ⟨(by decide), by decide⟩ rfl rfl ?_
    rcases ab_i h with ⟨c4, h⟩ | ⟨c4, h⟩
    · refine rr_icmp_ne_p (t := 230) dX3_weigh_85 (by decide) c4 ?_
      refine rr_iload dX3_weigh_88 rfl ?_
      rcases ab_i h with ⟨c5, h⟩ | ⟨c5, h⟩
      · refine rr_if_ne_p (t := 98) dX3_weigh_90 (by decide) c5 ?_
        refine rr_iload dX3_weigh_93 rfl ?_
        rcases ab_i h with ⟨c6, h⟩ | ⟨c6, h⟩
        · refine rr_if_eq_p (t := 230) dX3_weigh_95 (by decide) c6 ?_
          obtain rfl := ab_r1 h
          exact rr_vret dX3_weigh_230 rfl hQ
        · refine rr_if_eq_n (t := 230) dX3_weigh_95 (by decide) c6 ?_
          refine rr_aload_n dX3_weigh_98 rfl ?_
          refine rr_iload_n dX3_weigh_99 rfl ?_
          refine rr_iload_n dX3_weigh_100 rfl ?_
          refine rr_iload dX3_weigh_101 rfl ?_
          obtain ⟨σ9, e7, h⟩ := ab_1 h
          refine rr_Vv (as := [am_i x1, am_i x2, am_i x4]) (rest := []) dX3_weigh_103 ml_3_103 (sh_69 L) ⟨(by decide), by decide, by decide⟩ rfl rfl rfl (Nat.le_of_ble_eq_true rfl) ⟨rfl, rfl⟩ (Nat.le_of_ble_eq_true rfl) (fun _ k => t_X3_keepPath (by omega) e7 k) ?_
          refine rr_goto (t := 230) dX3_weigh_106 (by decide) ?_
          obtain rfl := ab_r1 h
          exact rr_vret dX3_weigh_230 rfl hQ
      · refine rr_if_ne_n (t := 98) dX3_weigh_90 (by decide) c5 ?_
        refine rr_aload_n dX3_weigh_98 rfl ?_
        refine rr_iload_n dX3_weigh_99 rfl ?_
        refine rr_iload_n dX3_weigh_100 rfl ?_
        refine rr_iload dX3_weigh_101 rfl ?_
        obtain ⟨σ12, e10, h⟩ := ab_1 h
        refine rr_Vv (as := [am_i x1, am_i x2, am_i x4]) (rest := []) dX3_weigh_103 ml_3_103 (sh_69 L) ⟨(by decide), by decide, by decide⟩ rfl rfl rfl (Nat.le_of_ble_eq_true rfl) ⟨rfl, rfl⟩ (Nat.le_of_ble_eq_true rfl) (fun _ k => t_X3_keepPath (by omega) e10 k) ?_
        refine rr_goto (t := 230) dX3_weigh_106 (by decide) ?_
        obtain rfl := ab_r1 h
        exact rr_vret dX3_weigh_230 rfl hQ
    · refine rr_icmp_ne_n (t := 230) dX3_weigh_85 (by decide) c4 ?_
      obtain rfl := ab_r1 h
      exact rr_vret dX3_weigh_230 rfl hQ
  rcases ab_i h with ⟨c13, h⟩ | ⟨c13, h⟩
  · refine rr_tsw_in (off := 58) (t := 109) dX3_weigh_51 (by omega) (by rw [c13]; rfl) (by decide) ?_
    refine rr_iload_n dX3_weigh_109 rfl ?_
    refine rr_aload_n dX3_weigh_110 rfl ?_
    refine rr_geti (kz := 5) dX3_weigh_111 fl_3_35 (sh_69 L) ⟨(by decide), by decide⟩ rfl rfl ?_
    rcases ab_i h with ⟨c14, h⟩ | ⟨c14, h⟩
    · refine rr_icmp_ne_p (t := 230) dX3_weigh_114 (by decide) c14 ?_
      refine rr_iload dX3_weigh_117 rfl ?_
      rcases ab_i h with ⟨c15, h⟩ | ⟨c15, h⟩
      · refine rr_if_ne_p (t := 131) dX3_weigh_119 (by decide) c15 ?_
        refine rr_iload dX3_weigh_122 rfl ?_
        refine rr_aload_n dX3_weigh_124 rfl ?_
        refine rr_geti (kz := 8) dX3_weigh_125 fl_3_41 (sh_69 L) ⟨(by decide), by decide⟩ rfl rfl ?_
        rcases ab_i h with ⟨c16, h⟩ | ⟨c16, h⟩
        · refine rr_icmp_le_p (t := 230) dX3_weigh_128 (by decide) c16 ?_
          obtain rfl := ab_r1 h
          exact rr_vret dX3_weigh_230 rfl hQ
        · refine rr_icmp_le_n (t := 230) dX3_weigh_128 (by decide) c16 ?_
          refine rr_aload_n dX3_weigh_131 rfl ?_
          refine rr_iload_n dX3_weigh_132 rfl ?_
          refine rr_iload_n dX3_weigh_133 rfl ?_
          refine rr_iload dX3_weigh_134 rfl ?_
          obtain ⟨σ19, e17, h⟩ := ab_1 h
          refine rr_Vv (as := [am_i x1, am_i x2, am_i x4]) (rest := []) dX3_weigh_136 ml_3_103 (sh_69 L) ⟨(by decide), by decide, by decide⟩ rfl rfl rfl (Nat.le_of_ble_eq_true rfl) ⟨rfl, rfl⟩ (Nat.le_of_ble_eq_true rfl) (fun _ k => t_X3_keepPath (by omega) e17 k) ?_
          refine rr_goto (t := 230) dX3_weigh_139 (by decide) ?_
          obtain rfl := ab_r1 h
          exact rr_vret dX3_weigh_230 rfl hQ
      · refine rr_if_ne_n (t := 131) dX3_weigh_119 (by decide) c15 ?_
        refine rr_aload_n dX3_weigh_131 rfl ?_
        refine rr_iload_n dX3_weigh_132 rfl ?_
        refine rr_iload_n dX3_weigh_133 rfl ?_
        refine rr_iload dX3_weigh_134 rfl ?_
        obtain ⟨σ22, e20, h⟩ := ab_1 h
        refine rr_Vv (as := [am_i x1, am_i x2, am_i x4]) (rest := []) dX3_weigh_136 ml_3_103 (sh_69 L) ⟨(by decide), by decide, by decide⟩ rfl rfl rfl (Nat.le_of_ble_eq_true rfl) ⟨rfl, rfl⟩ (Nat.le_of_ble_eq_true rfl) (fun _ k => t_X3_keepPath (by omega) e20 k) ?_
        refine rr_goto (t := 230) dX3_weigh_139 (by decide) ?_
        obtain rfl := ab_r1 h
        exact rr_vret dX3_weigh_230 rfl hQ
    · refine rr_icmp_ne_n (t := 230) dX3_weigh_114 (by decide) c14 ?_
      obtain rfl := ab_r1 h
      exact rr_vret dX3_weigh_230 rfl hQ
  rcases ab_i h with ⟨c23, h⟩ | ⟨c23, h⟩
  · refine rr_tsw_in (off := 91) (t := 142) dX3_weigh_51 (by omega) (by rw [c23]; rfl) (by decide) ?_
    refine rr_iload_n dX3_weigh_142 rfl ?_
    refine rr_aload_n dX3_weigh_143 rfl ?_
    refine rr_geti (kz := 5) dX3_weigh_144 fl_3_35 (sh_69 L) ⟨(by decide), by decide⟩ rfl rfl ?_
    rcases ab_i h with ⟨c24, h⟩ | ⟨c24, h⟩
    · refine rr_icmp_ne_p (t := 230) dX3_weigh_147 (by decide) c24 ?_
      refine rr_iload_n dX3_weigh_150 rfl ?_
      refine rr_aload_n dX3_weigh_151 rfl ?_
      refine rr_geti (kz := 4) dX3_weigh_152 fl_3_26 (sh_69 L) ⟨(by decide), by decide⟩ rfl rfl ?_
      rcases ab_i h with ⟨c25, h⟩ | ⟨c25, h⟩
      · refine rr_icmp_ne_p (t := 230) dX3_weigh_155 (by decide) c25 ?_
        refine rr_aload_n dX3_weigh_158 rfl ?_
        refine rr_dup dX3_weigh_159 rfl ?_
        refine rr_geti (kz := 10) dX3_weigh_160 fl_3_47 (sh_69 L) ⟨(by decide), by decide⟩ rfl rfl ?_
        refine rr_iconst dX3_weigh_163 (by decide) ?_
        refine rr_iload_n dX3_weigh_164 rfl ?_
        refine rr_ishl dX3_weigh_165 ?_
        refine rr_ior dX3_weigh_166 ?_
        obtain ⟨σ26, e27, h⟩ := ab_1 h
        refine rr_puti (kz := 10) dX3_weigh_167 fl_3_47 (sh_69 L) ⟨(by decide), by decide⟩ ⟨rfl, rfl⟩ rfl (ab_m e27 ?_)
        refine rr_goto (t := 230) dX3_weigh_170 (by decide) ?_
        obtain rfl := ab_r1 h
        exact rr_vret dX3_weigh_230 rfl hQ
      · refine rr_icmp_ne_n (t := 230) dX3_weigh_155 (by decide) c25 ?_
        obtain rfl := ab_r1 h
        exact rr_vret dX3_weigh_230 rfl hQ
    · refine rr_icmp_ne_n (t := 230) dX3_weigh_147 (by decide) c24 ?_
      obtain rfl := ab_r1 h
      exact rr_vret dX3_weigh_230 rfl hQ
  rcases ab_i h with ⟨c28, h⟩ | ⟨c28, h⟩
  · refine rr_tsw_in (off := 122) (t := 173) dX3_weigh_51 (by omega) (by rw [c28]; rfl) (by decide) ?_
    refine rr_iload_n dX3_weigh_173 rfl ?_
    refine rr_aload_n dX3_weigh_174 rfl ?_
    refine rr_geti (kz := 4) dX3_weigh_175 fl_3_26 (sh_69 L) ⟨(by decide), by decide⟩ rfl rfl ?_
    rcases ab_i h with ⟨c29, h⟩ | ⟨c29, h⟩
    · refine rr_icmp_ne_p (t := 230) dX3_weigh_178 (by decide) c29 ?_
      refine rr_iload dX3_weigh_181 rfl ?_
      rcases ab_i h with ⟨c30, h⟩ | ⟨c30, h⟩
      · refine rr_if_ne_p (t := 194) dX3_weigh_183 (by decide) c30 ?_
        refine rr_iload_n dX3_weigh_186 rfl ?_
        refine rr_aload_n dX3_weigh_187 rfl ?_
        refine rr_geti (kz := 7) dX3_weigh_188 fl_3_38 (sh_69 L) ⟨(by decide), by decide⟩ rfl rfl ?_
        rcases ab_i h with ⟨c31, h⟩ | ⟨c31, h⟩
        · refine rr_icmp_ge_p (t := 230) dX3_weigh_191 (by decide) c31 ?_
          refine rr_aload_n dX3_weigh_194 rfl ?_
          refine rr_iload_n dX3_weigh_195 rfl ?_
          refine rr_iload_n dX3_weigh_196 rfl ?_
          refine rr_iload dX3_weigh_197 rfl ?_
          obtain ⟨σ34, e32, h⟩ := ab_1 h
          refine rr_Vv (as := [am_i x1, am_i x2, am_i x4]) (rest := []) dX3_weigh_199 ml_3_103 (sh_69 L) ⟨(by decide), by decide, by decide⟩ rfl rfl rfl (Nat.le_of_ble_eq_true rfl) ⟨rfl, rfl⟩ (Nat.le_of_ble_eq_true rfl) (fun _ k => t_X3_keepPath (by omega) e32 k) ?_
          refine rr_goto (t := 230) dX3_weigh_202 (by decide) ?_
          obtain rfl := ab_r1 h
          exact rr_vret dX3_weigh_230 rfl hQ
        · refine rr_icmp_ge_n (t := 230) dX3_weigh_191 (by decide) c31 ?_
          obtain rfl := ab_r1 h
          exact rr_vret dX3_weigh_230 rfl hQ
      · refine rr_if_ne_n (t := 194) dX3_weigh_183 (by decide) c30 ?_
        refine rr_aload_n dX3_weigh_194 rfl ?_
        refine rr_iload_n dX3_weigh_195 rfl ?_
        refine rr_iload_n dX3_weigh_196 rfl ?_
        refine rr_iload dX3_weigh_197 rfl ?_
        obtain ⟨σ37, e35, h⟩ := ab_1 h
        refine rr_Vv (as := [am_i x1, am_i x2, am_i x4]) (rest := []) dX3_weigh_199 ml_3_103 (sh_69 L) ⟨(by decide), by decide, by decide⟩ rfl rfl rfl (Nat.le_of_ble_eq_true rfl) ⟨rfl, rfl⟩ (Nat.le_of_ble_eq_true rfl) (fun _ k => t_X3_keepPath (by omega) e35 k) ?_
        refine rr_goto (t := 230) dX3_weigh_202 (by decide) ?_
        obtain rfl := ab_r1 h
        exact rr_vret dX3_weigh_230 rfl hQ
    · refine rr_icmp_ne_n (t := 230) dX3_weigh_178 (by decide) c29 ?_
      obtain rfl := ab_r1 h
      exact rr_vret dX3_weigh_230 rfl hQ
  refine rr_tsw_out (t := 205) dX3_weigh_51 (by omega) (by decide) ?_
  refine rr_iload_n dX3_weigh_205 rfl ?_
  refine rr_aload_n dX3_weigh_206 rfl ?_
  refine rr_geti (kz := 4) dX3_weigh_207 fl_3_26 (sh_69 L) ⟨(by decide), by decide⟩ rfl rfl ?_
  rcases ab_i h with ⟨c38, h⟩ | ⟨c38, h⟩
  · refine rr_icmp_ne_p (t := 230) dX3_weigh_210 (by decide) c38 ?_
    refine rr_iload dX3_weigh_213 rfl ?_
    refine rr_aload_n dX3_weigh_215 rfl ?_
    refine rr_geti (kz := 6) dX3_weigh_216 fl_3_62 (sh_69 L) ⟨(by decide), by decide⟩ rfl rfl ?_
    rcases ab_i h with ⟨c39, h⟩ | ⟨c39, h⟩
    · refine rr_icmp_gt_p (t := 230) dX3_weigh_219 (by decide) c39 ?_
      refine rr_aload_n dX3_weigh_222 rfl ?_
      refine rr_getr (t := 72) dX3_weigh_223 fl_3_18 (sh_69 L) ⟨(by decide), by decide⟩ rfl rfl ?_
      refine rr_iload dX3_weigh_226 rfl ?_
      refine rr_iconst dX3_weigh_228 (by decide) ?_
      obtain ⟨g40, h⟩ := ab_g h
      refine rr_bast (nz := 256) dX3_weigh_229 (sh_72 L) (by decide) rfl g40 (Or.inr rfl) ?_
      obtain ⟨σ41, e42, h⟩ := ab_1 h
      refine ab_m e42 ?_
      obtain rfl := ab_r1 h
      exact rr_vret dX3_weigh_230 rfl hQ
    · refine rr_icmp_gt_n (t := 230) dX3_weigh_219 (by decide) c39 ?_
      obtain rfl := ab_r1 h
      exact rr_vret dX3_weigh_230 rfl hQ
  · refine rr_icmp_ne_n (t := 230) dX3_weigh_210 (by decide) c38 ?_
    obtain rfl := ab_r1 h
    exact rr_vret dX3_weigh_230 rfl hQ
theorem tb_X3_weigh_12 {L n d : Nat} {Q : am_Post} {x1 : Int} {x2 : Int} {x3 : Int} {x4 : Int} {x5 : Int} {s0 : Int} {o6 : Option am_V} {o7 : Option am_V} {σ σr : am_Mem} (hd : 1 ≤ d) (hQ : Q none (rm_h L σr)) (h : fb_X3_weigh_12 n x1 x2 x3 x4 x5 s0 σ = some σr) : xs_AW (xs_aw d) me_X3_weigh Q 12 [some (am_r 69), some (am_i x1), some (am_i x2), some (am_i x3), some (am_i x4), some (am_i x5), o6, o7] [am_i s0] (rm_h L σ) := by
  unfold fb_X3_weigh_12 at h
  refine rr_istore (ls' := [some (am_r 69), some (am_i x1), some (am_i x2), some (am_i x3), some (am_i x4), some (am_i x5), some (am_i s0), o7]) dX3_weigh_12 (Nat.le_of_ble_eq_true rfl) rfl ?_
  refine rr_iload dX3_weigh_14 rfl ?_
  refine rr_aload_n dX3_weigh_16 rfl ?_
  refine rr_geti (kz := 8) dX3_weigh_17 fl_3_41 (sh_69 L) ⟨(by decide), by decide⟩ rfl rfl ?_
  rcases ab_i h with ⟨c2, h⟩ | ⟨c2, h⟩
  · refine rr_icmp_lt_p (t := 40) dX3_weigh_20 (by decide) c2 ?_
    refine rr_iconst dX3_weigh_40 (by decide) ?_
    refine rr_goto (t := 45) dX3_weigh_41 (by decide) ?_
    exact tb_X3_weigh_45 hd hQ h
  · refine rr_icmp_lt_n (t := 40) dX3_weigh_20 (by decide) c2 ?_
    refine rr_iload dX3_weigh_23 rfl ?_
    refine rr_aload_n dX3_weigh_25 rfl ?_
    refine rr_geti (kz := 8) dX3_weigh_26 fl_3_41 (sh_69 L) ⟨(by decide), by decide⟩ rfl rfl ?_
    rcases ab_i h with ⟨c43, h⟩ | ⟨c43, h⟩
    · refine rr_icmp_ne_p (t := 44) dX3_weigh_29 (by decide) c43 ?_
      refine rr_iload_n dX3_weigh_32 rfl ?_
      refine rr_aload_n dX3_weigh_33 rfl ?_
      refine rr_geti (kz := 7) dX3_weigh_34 fl_3_38 (sh_69 L) ⟨(by decide), by decide⟩ rfl rfl ?_
      rcases ab_i h with ⟨c44, h⟩ | ⟨c44, h⟩
      · refine rr_icmp_ge_p (t := 44) dX3_weigh_37 (by decide) c44 ?_
        refine rr_iconst dX3_weigh_40 (by decide) ?_
        refine rr_goto (t := 45) dX3_weigh_41 (by decide) ?_
        exact tb_X3_weigh_45 hd hQ h
      · refine rr_icmp_ge_n (t := 44) dX3_weigh_37 (by decide) c44 ?_
        refine rr_iconst dX3_weigh_44 (by decide) ?_
        exact tb_X3_weigh_45 hd hQ h
    · refine rr_icmp_ne_n (t := 44) dX3_weigh_29 (by decide) c43 ?_
      refine rr_iconst dX3_weigh_44 (by decide) ?_
      exact tb_X3_weigh_45 hd hQ h
theorem t_X3_weigh {L n d : Nat} {Q : am_Post} {p1 : Int} {p2 : Int} {p3 : Int} {p4 : Int} {p5 : Int} {σ σr : am_Mem} (hd : 1 < d) (h : f_X3_weigh n p1 p2 p3 p4 p5 σ = some σr) (hQ : Q none (rm_h L σr)) : xs_aw d me_X3_weigh [am_r 69, am_i p1, am_i p2, am_i p3, am_i p4, am_i p5] (rm_h L σ) Q := by
  obtain ⟨d, rfl⟩ : ∃ k, d = k + 1 := ⟨d - 1, by omega⟩
  have hd : 1 ≤ d := by omega
  unfold f_X3_weigh at h
  show xs_AW (xs_aw d) me_X3_weigh Q 0 [some (am_r 69), some (am_i p1), some (am_i p2), some (am_i p3), some (am_i p4), some (am_i p5), none, none] [] (rm_h L σ)
  refine rr_aload_n dX3_weigh_0 rfl ?_
  refine rr_geti (kz := 7) dX3_weigh_1 fl_3_38 (sh_69 L) ⟨(by decide), by decide⟩ rfl rfl ?_
  rcases ab_i h with ⟨c1, h⟩ | ⟨c1, h⟩
  · refine rr_if_ge_p (t := 11) dX3_weigh_4 (by decide) c1 ?_
    refine rr_iconst dX3_weigh_7 (by decide) ?_
    refine rr_goto (t := 12) dX3_weigh_8 (by decide) ?_
    exact tb_X3_weigh_12 hd hQ h
  · refine rr_if_ge_n (t := 11) dX3_weigh_4 (by decide) c1 ?_
    refine rr_iconst dX3_weigh_11 (by decide) ?_
    exact tb_X3_weigh_12 hd hQ h
def nw_X3_weigh (a : Nat) : Prop := a ≠ 69 ∧ a ≠ 71 ∧ a ≠ 72
theorem wb_X3_weigh_45 {n : Nat} {x1 : Int} {x2 : Int} {x3 : Int} {x4 : Int} {x5 : Int} {x6 : Int} {s0 : Int} {σ σr : am_Mem} (h : fb_X3_weigh_45 n x1 x2 x3 x4 x5 x6 s0 σ = some σr) : ∀ a : Nat, nw_X3_weigh a → σr a = σ a := by
  unfold fb_X3_weigh_45 at h
  have fr : ∀ a : Nat, nw_X3_weigh a → σ a = σ a := fun _ _ => rfl
  rcases ab_i h with ⟨c3, h⟩ | ⟨c3, h⟩
  · rcases ab_i h with ⟨c4, h⟩ | ⟨c4, h⟩
    · rcases ab_i h with ⟨c5, h⟩ | ⟨c5, h⟩
      · rcases ab_i h with ⟨c6, h⟩ | ⟨c6, h⟩
        · have q2 := ab_r1 h
          exact fun a ha => (congrFun q2.symm a).trans (fr a ha)
        · obtain ⟨σ9, e7, h⟩ := ab_1 h
          have fr := fun (a : Nat) (ha : nw_X3_weigh a) => (w_X3_keepPath e7 a (by unfold nw_X3_weigh at ha; unfold nw_X3_keepPath; omega)).trans (fr a ha)
          have q2 := ab_r1 h
          exact fun a ha => (congrFun q2.symm a).trans (fr a ha)
      · obtain ⟨σ12, e10, h⟩ := ab_1 h
        have fr := fun (a : Nat) (ha : nw_X3_weigh a) => (w_X3_keepPath e10 a (by unfold nw_X3_weigh at ha; unfold nw_X3_keepPath; omega)).trans (fr a ha)
        have q2 := ab_r1 h
        exact fun a ha => (congrFun q2.symm a).trans (fr a ha)
    · have q2 := ab_r1 h
      exact fun a ha => (congrFun q2.symm a).trans (fr a ha)
  rcases ab_i h with ⟨c13, h⟩ | ⟨c13, h⟩
  · rcases ab_i h with ⟨c14, h⟩ | ⟨c14, h⟩
    · rcases ab_i h with ⟨c15, h⟩ | ⟨c15, h⟩
      · rcases ab_i h with ⟨c16, h⟩ | ⟨c16, h⟩
        · have q2 := ab_r1 h
          exact fun a ha => (congrFun q2.symm a).trans (fr a ha)
        · obtain ⟨σ19, e17, h⟩ := ab_1 h
          have fr := fun (a : Nat) (ha : nw_X3_weigh a) => (w_X3_keepPath e17 a (by unfold nw_X3_weigh at ha; unfold nw_X3_keepPath; omega)).trans (fr a ha)
          have q2 := ab_r1 h
          exact fun a ha => (congrFun q2.symm a).trans (fr a ha)
      · obtain ⟨σ22, e20, h⟩ := ab_1 h
        have fr := fun (a : Nat) (ha : nw_X3_weigh a) => (w_X3_keepPath e20 a (by unfold nw_X3_weigh at ha; unfold nw_X3_keepPath; omega)).trans (fr a ha)
        have q2 := ab_r1 h
        exact fun a ha => (congrFun q2.symm a).trans (fr a ha)
    · have q2 := ab_r1 h
      exact fun a ha => (congrFun q2.symm a).trans (fr a ha)
  rcases ab_i h with ⟨c23, h⟩ | ⟨c23, h⟩
  · rcases ab_i h with ⟨c24, h⟩ | ⟨c24, h⟩
    · rcases ab_i h with ⟨c25, h⟩ | ⟨c25, h⟩
      · obtain ⟨σ26, e27, h⟩ := ab_1 h
        have fr := fun (a : Nat) (ha : nw_X3_weigh a) => (ab_fu e27 (show a ≠ 69 by unfold nw_X3_weigh at ha; omega)).trans (fr a ha)
        have q2 := ab_r1 h
        exact fun a ha => (congrFun q2.symm a).trans (fr a ha)
      · have q2 := ab_r1 h
        exact fun a ha => (congrFun q2.symm a).trans (fr a ha)
    · have q2 := ab_r1 h
      exact fun a ha => (congrFun q2.symm a).trans (fr a ha)
  rcases ab_i h with ⟨c28, h⟩ | ⟨c28, h⟩
  · rcases ab_i h with ⟨c29, h⟩ | ⟨c29, h⟩
    · rcases ab_i h with ⟨c30, h⟩ | ⟨c30, h⟩
      · rcases ab_i h with ⟨c31, h⟩ | ⟨c31, h⟩
        · obtain ⟨σ34, e32, h⟩ := ab_1 h
          have fr := fun (a : Nat) (ha : nw_X3_weigh a) => (w_X3_keepPath e32 a (by unfold nw_X3_weigh at ha; unfold nw_X3_keepPath; omega)).trans (fr a ha)
          have q2 := ab_r1 h
          exact fun a ha => (congrFun q2.symm a).trans (fr a ha)
        · have q2 := ab_r1 h
          exact fun a ha => (congrFun q2.symm a).trans (fr a ha)
      · obtain ⟨σ37, e35, h⟩ := ab_1 h
        have fr := fun (a : Nat) (ha : nw_X3_weigh a) => (w_X3_keepPath e35 a (by unfold nw_X3_weigh at ha; unfold nw_X3_keepPath; omega)).trans (fr a ha)
        have q2 := ab_r1 h
        exact fun a ha => (congrFun q2.symm a).trans (fr a ha)
    · have q2 := ab_r1 h
      exact fun a ha => (congrFun q2.symm a).trans (fr a ha)
  rcases ab_i h with ⟨c38, h⟩ | ⟨c38, h⟩
  · rcases ab_i h with ⟨c39, h⟩ | ⟨c39, h⟩
    · obtain ⟨g40, h⟩ := ab_g h
      obtain ⟨σ41, e42, h⟩ := ab_1 h
      have fr := fun (a : Nat) (ha : nw_X3_weigh a) => (ab_fu e42 (show a ≠ 72 by unfold nw_X3_weigh at ha; omega)).trans (fr a ha)
      have q2 := ab_r1 h
      exact fun a ha => (congrFun q2.symm a).trans (fr a ha)
    · have q2 := ab_r1 h
      exact fun a ha => (congrFun q2.symm a).trans (fr a ha)
  · have q2 := ab_r1 h
    exact fun a ha => (congrFun q2.symm a).trans (fr a ha)
theorem wb_X3_weigh_12 {n : Nat} {x1 : Int} {x2 : Int} {x3 : Int} {x4 : Int} {x5 : Int} {s0 : Int} {σ σr : am_Mem} (h : fb_X3_weigh_12 n x1 x2 x3 x4 x5 s0 σ = some σr) : ∀ a : Nat, nw_X3_weigh a → σr a = σ a := by
  unfold fb_X3_weigh_12 at h
  have fr : ∀ a : Nat, nw_X3_weigh a → σ a = σ a := fun _ _ => rfl
  rcases ab_i h with ⟨c2, h⟩ | ⟨c2, h⟩
  · exact fun a ha => (wb_X3_weigh_45 h a ha).trans (fr a ha)
  · rcases ab_i h with ⟨c43, h⟩ | ⟨c43, h⟩
    · rcases ab_i h with ⟨c44, h⟩ | ⟨c44, h⟩
      · exact fun a ha => (wb_X3_weigh_45 h a ha).trans (fr a ha)
      · exact fun a ha => (wb_X3_weigh_45 h a ha).trans (fr a ha)
    · exact fun a ha => (wb_X3_weigh_45 h a ha).trans (fr a ha)
theorem w_X3_weigh {n : Nat} {p1 : Int} {p2 : Int} {p3 : Int} {p4 : Int} {p5 : Int} {σ σr : am_Mem} (h : f_X3_weigh n p1 p2 p3 p4 p5 σ = some σr) : ∀ a : Nat, nw_X3_weigh a → σr a = σ a := by
  unfold f_X3_weigh at h
  have fr : ∀ a : Nat, nw_X3_weigh a → σ a = σ a := fun _ _ => rfl
  rcases ab_i h with ⟨c1, h⟩ | ⟨c1, h⟩
  · exact fun a ha => (wb_X3_weigh_12 h a ha).trans (fr a ha)
  · exact fun a ha => (wb_X3_weigh_12 h a ha).trans (fr a ha)
/-! MoodFare$Search.walk -/
def fb_X3_walk_24 (rc : Nat → Int → Int → Int → Int → Int → am_Mem → Option am_Mem) (n : Nat) (p1 : Nat) (kh24 : Int → Int → Int → Int → Int → Int → am_Mem → Option am_Mem) (x2 : Int) (x3 : Int) (x4 : Int) (x5 : Int) (x6 : Int) (x7 : Int) (σ : am_Mem) : Option am_Mem :=
  if x7 < σ p1 6 then (am_b2 (f_X5_leadsFrom n p1 x3 x7 σ) fun r7 σ8 => if r7 = 0 then (kh24 x2 x3 x4 x5 x6 (am_w (x7 + 1)) σ8) else (if (0 : Int) ≤ x7 ∧ x7 < 8 then am_b2 (f_X5_moodBehind n p1 (σ8 (p1 + 5) x7) x4 (am_w ((σ8 p1 12) + x2)) σ8) fun r12 σ13 => am_b2 (f_X5_costBetween n p1 (σ8 (p1 + 5) x7) x4 r12 σ13) fun r15 σ16 => if (0 : Int) ≤ x2 ∧ x2 < 8 then am_b1 (some (am_up σ16 70 x2 x7)) fun σ18 => am_b1 (rc p1 (am_w (x2 + 1)) (σ8 (p1 + 5) x7) r12 (am_w (x5 + r15)) (am_or x6 (am_shl 1 x7)) σ18) fun σ22 => kh24 x2 x3 x4 x5 x6 (am_w (x7 + 1)) σ22 else none else none)) else (some σ)
def fl_X3_walk_24 (rc : Nat → Int → Int → Int → Int → Int → am_Mem → Option am_Mem) (n : Nat) (p1 : Nat) : Nat → Int → Int → Int → Int → Int → Int → am_Mem → Option am_Mem
  | 0, _, _, _, _, _, _, _ => none
  | m + 1, x2, x3, x4, x5, x6, x7, σ => fb_X3_walk_24 rc n p1 (fun yx2 yx3 yx4 yx5 yx6 yx7 σ => fl_X3_walk_24 rc n p1 m yx2 yx3 yx4 yx5 yx6 yx7 σ) x2 x3 x4 x5 x6 x7 σ
def fe_X3_walk (rc : Nat → Int → Int → Int → Int → Int → am_Mem → Option am_Mem) (n : Nat) (p1 : Nat) (p2 : Int) (p3 : Int) (p4 : Int) (p5 : Int) (p6 : Int) (σ : am_Mem) : Option am_Mem :=
  am_b1 (f_X3_weigh n p2 p3 p4 p5 p6 σ) fun σ3 => if p2 < σ3 69 5 then (fl_X3_walk_24 rc n p1 n p2 p3 p4 p5 p6 0 σ3) else (some σ3)
def f_X3_walk (n : Nat) : Nat → Nat → Int → Int → Int → Int → Int → am_Mem → Option am_Mem
  | 0, _, _, _, _, _, _, _ => none
  | r + 1, p1, p2, p3, p4, p5, p6, σ => fe_X3_walk (fun p1 p2 p3 p4 p5 p6 σ => f_X3_walk n r p1 p2 p3 p4 p5 p6 σ) n p1 p2 p3 p4 p5 p6 σ
theorem tb_X3_walk_24 {L n d : Nat} {Q : am_Post} {rc : Nat → Int → Int → Int → Int → Int → am_Mem → Option am_Mem} {p1 : Nat} {kh24 : Int → Int → Int → Int → Int → Int → am_Mem → Option am_Mem} {x2 : Int} {x3 : Int} {x4 : Int} {x5 : Int} {x6 : Int} {x7 : Int} {o8 : Option am_V} {o9 : Option am_V} {o10 : Option am_V} {σ σr : am_Mem} (hd : 2 ≤ d) (hrc : ∀ (a0 : Nat) (a1 : Int) (a2 : Int) (a3 : Int) (a4 : Int) (a5 : Int) (σ σr : am_Mem) (Q : am_Post), tw a0 → rc a0 a1 a2 a3 a4 a5 σ = some σr → Q none (rm_h L σr) → xs_aw d me_X3_walk [am_r 69, am_r a0, am_i a1, am_i a2, am_i a3, am_i a4, am_i a5] (rm_h L σ) Q) (ht_p1 : tw p1) (hk24 : ∀ (y2 : Int) (y3 : Int) (y4 : Int) (y5 : Int) (y6 : Int) (y7 : Int) (σ : am_Mem), kh24 y2 y3 y4 y5 y6 y7 σ = some σr → ∀ (o8 : Option am_V) (o9 : Option am_V) (o10 : Option am_V), xs_AW (xs_aw d) me_X3_walk Q 24 [some (am_r 69), some (am_r p1), some (am_i y2), some (am_i y3), some (am_i y4), some (am_i y5), some (am_i y6), some (am_i y7), o8, o9, o10] [] (rm_h L σ)) (hQ : Q none (rm_h L σr)) (h : fb_X3_walk_24 rc n p1 kh24 x2 x3 x4 x5 x6 x7 σ = some σr) : xs_AW (xs_aw d) me_X3_walk Q 24 [some (am_r 69), some (am_r p1), some (am_i x2), some (am_i x3), some (am_i x4), some (am_i x5), some (am_i x6), some (am_i x7), o8, o9, o10] [] (rm_h L σ) := by
  unfold fb_X3_walk_24 at h
  refine rr_iload dX3_walk_24 rfl ?_
  refine rr_aload_n dX3_walk_26 rfl ?_
  refine rr_geti (kz := 6) dX3_walk_27 fl_3_83 (tw_sh ht_p1 L) ⟨(tw_ge ht_p1), by decide⟩ rfl rfl ?_
  rcases ab_i h with ⟨c5, h⟩ | ⟨c5, h⟩
  · refine rr_icmp_ge_p (t := 118) dX3_walk_30 (by decide) c5 ?_
    refine rr_aload_n dX3_walk_33 rfl ?_
    refine rr_iload_n dX3_walk_34 rfl ?_
    refine rr_iload dX3_walk_35 rfl ?_
    obtain ⟨r7, σ8, e6, h⟩ := ab_2 h
    refine rr_Vi (as := [am_i x3, am_i x7]) (rest := []) dX3_walk_37 ml_3_86 (tw_sh ht_p1 L) ⟨(tw_ge ht_p1), by decide, by decide⟩ rfl rfl rfl (Nat.le_of_ble_eq_true rfl) ⟨rfl, rfl⟩ (Nat.le_of_ble_eq_true rfl) (fun _ k => t_X5_leadsFrom (by omega) ht_p1 e6 k) ?_
    rcases ab_i h with ⟨c9, h⟩ | ⟨c9, h⟩
    · refine rr_if_eq_p (t := 112) dX3_walk_40 (by decide) c9 ?_
      refine rr_iinc (ls' := [some (am_r 69), some (am_r p1), some (am_i x2), some (am_i x3), some (am_i x4), some (am_i x5), some (am_i x6), some (am_i (am_w (x7 + 1))), o8, o9, o10]) dX3_walk_112 rfl (Nat.le_of_ble_eq_true rfl) rfl ?_
      refine rr_goto (t := 24) dX3_walk_115 (by decide) ?_
      exact hk24 _ _ _ _ _ _ _ h _ _ _
    · refine rr_if_eq_n (t := 112) dX3_walk_40 (by decide) c9 ?_
      refine rr_aload_n dX3_walk_43 rfl ?_
      refine rr_getr (t := (p1 + 5)) dX3_walk_44 fl_3_90 (tw_sh ht_p1 L) ⟨(tw_ge ht_p1), by decide⟩ rfl rfl ?_
      refine rr_iload dX3_walk_47 rfl ?_
      obtain ⟨g10, h⟩ := ab_g h
      refine rr_iald (nz := 8) dX3_walk_49 (tw_a5 ht_p1 L) rfl g10 ?_
      refine rr_istore (ls' := [some (am_r 69), some (am_r p1), some (am_i x2), some (am_i x3), some (am_i x4), some (am_i x5), some (am_i x6), some (am_i x7), some (am_i (σ8 (p1 + 5) x7)), o9, o10]) dX3_walk_50 (Nat.le_of_ble_eq_true rfl) rfl ?_
      refine rr_aload_n dX3_walk_52 rfl ?_
      refine rr_iload dX3_walk_53 rfl ?_
      refine rr_iload dX3_walk_55 rfl ?_
      refine rr_aload_n dX3_walk_57 rfl ?_
      refine rr_geti (kz := 12) dX3_walk_58 fl_3_93 (tw_sh ht_p1 L) ⟨(tw_ge ht_p1), by decide⟩ rfl rfl ?_
      refine rr_iload_n dX3_walk_61 rfl ?_
      refine rr_iadd dX3_walk_62 ?_
      obtain ⟨r12, σ13, e11, h⟩ := ab_2 h
      refine rr_Vi (as := [am_i (σ8 (p1 + 5) x7), am_i x4, am_i (am_w ((σ8 p1 12) + x2))]) (rest := []) dX3_walk_63 ml_3_96 (tw_sh ht_p1 L) ⟨(tw_ge ht_p1), by decide, by decide⟩ rfl rfl rfl (Nat.le_of_ble_eq_true rfl) ⟨rfl, rfl⟩ (Nat.le_of_ble_eq_true rfl) (fun _ k => t_X5_moodBehind (by omega) ht_p1 e11 k) ?_
      refine rr_istore (ls' := [some (am_r 69), some (am_r p1), some (am_i x2), some (am_i x3), some (am_i x4), some (am_i x5), some (am_i x6), some (am_i x7), some (am_i (σ8 (p1 + 5) x7)), some (am_i r12), o10]) dX3_walk_66 (Nat.le_of_ble_eq_true rfl) rfl ?_
      refine rr_aload_n dX3_walk_68 rfl ?_
      refine rr_iload dX3_walk_69 rfl ?_
      refine rr_iload dX3_walk_71 rfl ?_
      refine rr_iload dX3_walk_73 rfl ?_
      obtain ⟨r15, σ16, e14, h⟩ := ab_2 h
      refine rr_Vi (as := [am_i (σ8 (p1 + 5) x7), am_i x4, am_i r12]) (rest := []) dX3_walk_75 ml_3_100 (tw_sh ht_p1 L) ⟨(tw_ge ht_p1), by decide, by decide⟩ rfl rfl rfl (Nat.le_of_ble_eq_true rfl) ⟨rfl, rfl⟩ (Nat.le_of_ble_eq_true rfl) (fun _ k => t_X5_costBetween (by omega) ht_p1 e14 k) ?_
      refine rr_istore (ls' := [some (am_r 69), some (am_r p1), some (am_i x2), some (am_i x3), some (am_i x4), some (am_i x5), some (am_i x6), some (am_i x7), some (am_i (σ8 (p1 + 5) x7)), some (am_i r12), some (am_i r15)]) dX3_walk_78 (Nat.le_of_ble_eq_true rfl) rfl ?_
      refine rr_aload_n dX3_walk_80 rfl ?_
      refine rr_getr (t := 70) dX3_walk_81 fl_3_9 (sh_69 L) ⟨(by decide), by decide⟩ rfl rfl ?_
      refine rr_iload_n dX3_walk_84 rfl ?_
      refine rr_iload dX3_walk_85 rfl ?_
      obtain ⟨g17, h⟩ := ab_g h
      refine rr_iast (nz := 8) dX3_walk_87 (sh_70 L) (by decide) rfl g17 ?_
      obtain ⟨σ18, e19, h⟩ := ab_1 h
      refine ab_m e19 ?_
      refine rr_aload_n dX3_walk_88 rfl ?_
      refine rr_aload_n dX3_walk_89 rfl ?_
      refine rr_iload_n dX3_walk_90 rfl ?_
      refine rr_iconst dX3_walk_91 (by decide) ?_
      refine rr_iadd dX3_walk_92 ?_
      refine rr_iload dX3_walk_93 rfl ?_
      refine rr_iload dX3_walk_95 rfl ?_
      refine rr_iload dX3_walk_97 rfl ?_
      refine rr_iload dX3_walk_99 rfl ?_
      refine rr_iadd dX3_walk_101 ?_
      refine rr_iload dX3_walk_102 rfl ?_
      refine rr_iconst dX3_walk_104 (by decide) ?_
      refine rr_iload dX3_walk_105 rfl ?_
      refine rr_ishl dX3_walk_107 ?_
      refine rr_ior dX3_walk_108 ?_
      obtain ⟨σ22, e20, h⟩ := ab_1 h
      refine rr_Vv (as := [am_r p1, am_i (am_w (x2 + 1)), am_i (σ8 (p1 + 5) x7), am_i r12, am_i (am_w (x5 + r15)), am_i (am_or x6 (am_shl 1 x7))]) (rest := []) dX3_walk_109 ml_3_58 (sh_69 L) ⟨(by decide), by decide, by decide⟩ rfl rfl rfl (Nat.le_of_ble_eq_true rfl) ⟨rfl, rfl⟩ (Nat.le_of_ble_eq_true rfl) (fun _ k => hrc _ _ _ _ _ _ _ _ _ ht_p1 e20 k) ?_
      refine rr_iinc (ls' := [some (am_r 69), some (am_r p1), some (am_i x2), some (am_i x3), some (am_i x4), some (am_i x5), some (am_i x6), some (am_i (am_w (x7 + 1))), some (am_i (σ8 (p1 + 5) x7)), some (am_i r12), some (am_i r15)]) dX3_walk_112 rfl (Nat.le_of_ble_eq_true rfl) rfl ?_
      refine rr_goto (t := 24) dX3_walk_115 (by decide) ?_
      exact hk24 _ _ _ _ _ _ _ h _ _ _
  · refine rr_icmp_ge_n (t := 118) dX3_walk_30 (by decide) c5 ?_
    obtain rfl := ab_r1 h
    exact rr_vret dX3_walk_118 rfl hQ
theorem tl_X3_walk_24 {L n d : Nat} {Q : am_Post} {rc : Nat → Int → Int → Int → Int → Int → am_Mem → Option am_Mem} {p1 : Nat} {σr : am_Mem} (hd : 2 ≤ d) (hrc : ∀ (a0 : Nat) (a1 : Int) (a2 : Int) (a3 : Int) (a4 : Int) (a5 : Int) (σ σr : am_Mem) (Q : am_Post), tw a0 → rc a0 a1 a2 a3 a4 a5 σ = some σr → Q none (rm_h L σr) → xs_aw d me_X3_walk [am_r 69, am_r a0, am_i a1, am_i a2, am_i a3, am_i a4, am_i a5] (rm_h L σ) Q) (ht_p1 : tw p1) (hQ : Q none (rm_h L σr)) : ∀ (m : Nat) (x2 : Int) (x3 : Int) (x4 : Int) (x5 : Int) (x6 : Int) (x7 : Int) (σ : am_Mem) (o8 : Option am_V) (o9 : Option am_V) (o10 : Option am_V), fl_X3_walk_24 rc n p1 m x2 x3 x4 x5 x6 x7 σ = some σr → xs_AW (xs_aw d) me_X3_walk Q 24 [some (am_r 69), some (am_r p1), some (am_i x2), some (am_i x3), some (am_i x4), some (am_i x5), some (am_i x6), some (am_i x7), o8, o9, o10] [] (rm_h L σ) := by
  intro m
  induction m with
  | zero => intro x2 x3 x4 x5 x6 x7 σ o8 o9 o10 h; cases h
  | succ m ih =>
    intro x2 x3 x4 x5 x6 x7 σ o8 o9 o10 h
    exact tb_X3_walk_24 hd hrc ht_p1 (fun x2 x3 x4 x5 x6 x7 σ h o8 o9 o10 => ih x2 x3 x4 x5 x6 x7 σ o8 o9 o10 h) hQ h
theorem te_X3_walk {L n d : Nat} {Q : am_Post} {rc : Nat → Int → Int → Int → Int → Int → am_Mem → Option am_Mem} {p1 : Nat} {p2 : Int} {p3 : Int} {p4 : Int} {p5 : Int} {p6 : Int} {σ σr : am_Mem} (hd : 2 ≤ d) (hrc : ∀ (a0 : Nat) (a1 : Int) (a2 : Int) (a3 : Int) (a4 : Int) (a5 : Int) (σ σr : am_Mem) (Q : am_Post), tw a0 → rc a0 a1 a2 a3 a4 a5 σ = some σr → Q none (rm_h L σr) → xs_aw d me_X3_walk [am_r 69, am_r a0, am_i a1, am_i a2, am_i a3, am_i a4, am_i a5] (rm_h L σ) Q) (ht_p1 : tw p1) (h : fe_X3_walk rc n p1 p2 p3 p4 p5 p6 σ = some σr) (hQ : Q none (rm_h L σr)) : xs_aw (d + 1) me_X3_walk [am_r 69, am_r p1, am_i p2, am_i p3, am_i p4, am_i p5, am_i p6] (rm_h L σ) Q := by
  unfold fe_X3_walk at h
  show xs_AW (xs_aw d) me_X3_walk Q 0 [some (am_r 69), some (am_r p1), some (am_i p2), some (am_i p3), some (am_i p4), some (am_i p5), some (am_i p6), none, none, none, none] [] (rm_h L σ)
  refine rr_aload_n dX3_walk_0 rfl ?_
  refine rr_iload_n dX3_walk_1 rfl ?_
  refine rr_iload_n dX3_walk_2 rfl ?_
  refine rr_iload dX3_walk_3 rfl ?_
  refine rr_iload dX3_walk_5 rfl ?_
  refine rr_iload dX3_walk_7 rfl ?_
  obtain ⟨σ3, e1, h⟩ := ab_1 h
  refine rr_Vv (as := [am_i p2, am_i p3, am_i p4, am_i p5, am_i p6]) (rest := []) dX3_walk_9 ml_3_79 (sh_69 L) ⟨(by decide), by decide, by decide⟩ rfl rfl rfl (Nat.le_of_ble_eq_true rfl) ⟨rfl, rfl⟩ (Nat.le_of_ble_eq_true rfl) (fun _ k => t_X3_weigh (by omega) e1 k) ?_
  refine rr_iload_n dX3_walk_12 rfl ?_
  refine rr_aload_n dX3_walk_13 rfl ?_
  refine rr_geti (kz := 5) dX3_walk_14 fl_3_35 (sh_69 L) ⟨(by decide), by decide⟩ rfl rfl ?_
  rcases ab_i h with ⟨c4, h⟩ | ⟨c4, h⟩
  · refine rr_icmp_lt_p (t := 21) dX3_walk_17 (by decide) c4 ?_
    refine rr_iconst dX3_walk_21 (by decide) ?_
    refine rr_istore (ls' := [some (am_r 69), some (am_r p1), some (am_i p2), some (am_i p3), some (am_i p4), some (am_i p5), some (am_i p6), some (am_i 0), none, none, none]) dX3_walk_22 (Nat.le_of_ble_eq_true rfl) rfl ?_
    exact tl_X3_walk_24 hd hrc ht_p1 hQ n _ _ _ _ _ _ _ _ _ _ h
  · refine rr_icmp_lt_n (t := 21) dX3_walk_17 (by decide) c4 ?_
    obtain rfl := ab_r1 h
    exact rr_vret dX3_walk_20 rfl hQ
theorem t_X3_walk {L n : Nat} : ∀ (r : Nat) {d : Nat} {p1 : Nat} {p2 : Int} {p3 : Int} {p4 : Int} {p5 : Int} {p6 : Int} {σ σr : am_Mem} {Q : am_Post}, 2 + r < d → tw p1 → f_X3_walk n r p1 p2 p3 p4 p5 p6 σ = some σr → Q none (rm_h L σr) → xs_aw d me_X3_walk [am_r 69, am_r p1, am_i p2, am_i p3, am_i p4, am_i p5, am_i p6] (rm_h L σ) Q := by
  intro r
  induction r with
  | zero => intro d p1 p2 p3 p4 p5 p6 σ σr Q hd ht_p1 h hQ; cases h
  | succ r ih =>
    intro d p1 p2 p3 p4 p5 p6 σ σr Q hd ht_p1 h hQ
    obtain ⟨d, rfl⟩ : ∃ k, d = k + 1 := ⟨d - 1, by omega⟩
    exact te_X3_walk (by omega) (fun _ _ _ _ _ _ σ σr Q g0 h hQ => ih (by omega) g0 h hQ) ht_p1 h hQ
def nw_X3_walk (p1 : Nat) (a : Nat) : Prop := a ≠ 69 ∧ a ≠ 70 ∧ a ≠ 71 ∧ a ≠ 72
theorem wb_X3_walk_24 {n : Nat} {rc : Nat → Int → Int → Int → Int → Int → am_Mem → Option am_Mem} {p1 : Nat} {kh24 : Int → Int → Int → Int → Int → Int → am_Mem → Option am_Mem} {x2 : Int} {x3 : Int} {x4 : Int} {x5 : Int} {x6 : Int} {x7 : Int} {σ σr : am_Mem} (hrc : ∀ (p1 : Nat) (p2 : Int) (p3 : Int) (p4 : Int) (p5 : Int) (p6 : Int) (σ σr : am_Mem), rc p1 p2 p3 p4 p5 p6 σ = some σr → ∀ a : Nat, nw_X3_walk p1 a → σr a = σ a) (hk24 : ∀ (y2 : Int) (y3 : Int) (y4 : Int) (y5 : Int) (y6 : Int) (y7 : Int) (σ : am_Mem), kh24 y2 y3 y4 y5 y6 y7 σ = some σr → ∀ a : Nat, nw_X3_walk p1 a → σr a = σ a) (h : fb_X3_walk_24 rc n p1 kh24 x2 x3 x4 x5 x6 x7 σ = some σr) : ∀ a : Nat, nw_X3_walk p1 a → σr a = σ a := by
  unfold fb_X3_walk_24 at h
  have fr : ∀ a : Nat, nw_X3_walk p1 a → σ a = σ a := fun _ _ => rfl
  rcases ab_i h with ⟨c5, h⟩ | ⟨c5, h⟩
  · obtain ⟨r7, σ8, e6, h⟩ := ab_2 h
    have fr := fun (a : Nat) (ha : nw_X3_walk p1 a) => (congrFun (u_X5_leadsFrom e6) a).trans (fr a ha)
    rcases ab_i h with ⟨c9, h⟩ | ⟨c9, h⟩
    · exact fun a ha => (hk24 _ _ _ _ _ _ _ h a ha).trans (fr a ha)
    · obtain ⟨g10, h⟩ := ab_g h
      obtain ⟨r12, σ13, e11, h⟩ := ab_2 h
      have fr := fun (a : Nat) (ha : nw_X3_walk p1 a) => (congrFun (u_X5_moodBehind e11) a).trans (fr a ha)
      obtain ⟨r15, σ16, e14, h⟩ := ab_2 h
      have fr := fun (a : Nat) (ha : nw_X3_walk p1 a) => (congrFun (u_X5_costBetween e14) a).trans (fr a ha)
      obtain ⟨g17, h⟩ := ab_g h
      obtain ⟨σ18, e19, h⟩ := ab_1 h
      have fr := fun (a : Nat) (ha : nw_X3_walk p1 a) => (ab_fu e19 (show a ≠ 70 by unfold nw_X3_walk at ha; omega)).trans (fr a ha)
      obtain ⟨σ22, e20, h⟩ := ab_1 h
      have fr := fun (a : Nat) (ha : nw_X3_walk p1 a) => (hrc _ _ _ _ _ _ _ _ e20 a ha).trans (fr a ha)
      exact fun a ha => (hk24 _ _ _ _ _ _ _ h a ha).trans (fr a ha)
  · have q2 := ab_r1 h
    exact fun a ha => (congrFun q2.symm a).trans (fr a ha)
theorem wl_X3_walk_24 {n : Nat} {rc : Nat → Int → Int → Int → Int → Int → am_Mem → Option am_Mem} {p1 : Nat} {σr : am_Mem} (hrc : ∀ (p1 : Nat) (p2 : Int) (p3 : Int) (p4 : Int) (p5 : Int) (p6 : Int) (σ σr : am_Mem), rc p1 p2 p3 p4 p5 p6 σ = some σr → ∀ a : Nat, nw_X3_walk p1 a → σr a = σ a) : ∀ (m : Nat) (x2 : Int) (x3 : Int) (x4 : Int) (x5 : Int) (x6 : Int) (x7 : Int) (σ : am_Mem), fl_X3_walk_24 rc n p1 m x2 x3 x4 x5 x6 x7 σ = some σr → ∀ a : Nat, nw_X3_walk p1 a → σr a = σ a := by
  intro m
  induction m with
  | zero => intro x2 x3 x4 x5 x6 x7 σ h; cases h
  | succ m ih =>
    intro x2 x3 x4 x5 x6 x7 σ h
    exact wb_X3_walk_24 hrc (fun x2 x3 x4 x5 x6 x7 σ h => ih x2 x3 x4 x5 x6 x7 σ h) h
theorem we_X3_walk {n : Nat} {rc : Nat → Int → Int → Int → Int → Int → am_Mem → Option am_Mem} {p1 : Nat} {p2 : Int} {p3 : Int} {p4 : Int} {p5 : Int} {p6 : Int} {σ σr : am_Mem} (hrc : ∀ (p1 : Nat) (p2 : Int) (p3 : Int) (p4 : Int) (p5 : Int) (p6 : Int) (σ σr : am_Mem), rc p1 p2 p3 p4 p5 p6 σ = some σr → ∀ a : Nat, nw_X3_walk p1 a → σr a = σ a) (h : fe_X3_walk rc n p1 p2 p3 p4 p5 p6 σ = some σr) : ∀ a : Nat, nw_X3_walk p1 a → σr a = σ a := by
  unfold fe_X3_walk at h
  have fr : ∀ a : Nat, nw_X3_walk p1 a → σ a = σ a := fun _ _ => rfl
  obtain ⟨σ3, e1, h⟩ := ab_1 h
  have fr := fun (a : Nat) (ha : nw_X3_walk p1 a) => (w_X3_weigh e1 a (by unfold nw_X3_walk at ha; unfold nw_X3_weigh; omega)).trans (fr a ha)
  rcases ab_i h with ⟨c4, h⟩ | ⟨c4, h⟩
  · exact fun a ha => (wl_X3_walk_24 hrc n _ _ _ _ _ _ _ h a ha).trans (fr a ha)
  · have q2 := ab_r1 h
    exact fun a ha => (congrFun q2.symm a).trans (fr a ha)
theorem w_X3_walk {n : Nat} : ∀ (r : Nat) {p1 : Nat} {p2 : Int} {p3 : Int} {p4 : Int} {p5 : Int} {p6 : Int} {σ σr : am_Mem}, f_X3_walk n r p1 p2 p3 p4 p5 p6 σ = some σr → ∀ a : Nat, nw_X3_walk p1 a → σr a = σ a := by
  intro r
  induction r with
  | zero => intro p1 p2 p3 p4 p5 p6 σ σr h; cases h
  | succ r ih =>
    intro p1 p2 p3 p4 p5 p6 σ σr h
    exact we_X3_walk (fun _ _ _ _ _ _ σ σr h => ih h) h
/-! MoodFare$Search.seek -/
def f_X3_seek (n : Nat) (p1 : Nat) (p2 : Int) (p3 : Int) (p4 : Int) (σ : am_Mem) : Option am_Mem :=
  am_b1 (some (am_up σ 69 3 p2)) fun σ1 => am_b1 (some (am_up σ1 69 4 p3)) fun σ3 => am_b1 (some (am_up σ3 69 5 (if 8 < p4 then 8 else p4))) fun σ5 => am_b1 (some (am_up σ5 69 7 (-1))) fun σ7 => am_b1 (some (am_up σ7 69 8 0)) fun σ9 => am_b1 (some (am_up σ9 69 9 0)) fun σ11 => am_b1 (some (am_up σ11 69 10 0)) fun σ13 => am_b1 (f_X3_walk n 10 p1 0 (σ13 p1 9) (σ13 p1 10) 0 0 σ13) fun σ17 => some σ17
theorem t_X3_seek {L n d : Nat} {Q : am_Post} {p1 : Nat} {p2 : Int} {p3 : Int} {p4 : Int} {σ σr : am_Mem} (hd : 13 < d) (ht_p1 : tw p1) (h : f_X3_seek n p1 p2 p3 p4 σ = some σr) (hQ : Q none (rm_h L σr)) : xs_aw d me_X3_seek [am_r 69, am_r p1, am_i p2, am_i p3, am_i p4] (rm_h L σ) Q := by
  obtain ⟨d, rfl⟩ : ∃ k, d = k + 1 := ⟨d - 1, by omega⟩
  have hd : 13 ≤ d := by omega
  unfold f_X3_seek at h
  show xs_AW (xs_aw d) me_X3_seek Q 0 [some (am_r 69), some (am_r p1), some (am_i p2), some (am_i p3), some (am_i p4)] [] (rm_h L σ)
  refine rr_aload_n dX3_seek_0 rfl ?_
  refine rr_iload_n dX3_seek_1 rfl ?_
  obtain ⟨σ1, e2, h⟩ := ab_1 h
  refine rr_puti (kz := 3) dX3_seek_2 fl_3_22 (sh_69 L) ⟨(by decide), by decide⟩ ⟨rfl, rfl⟩ rfl (ab_m e2 ?_)
  refine rr_aload_n dX3_seek_5 rfl ?_
  refine rr_iload_n dX3_seek_6 rfl ?_
  obtain ⟨σ3, e4, h⟩ := ab_1 h
  refine rr_puti (kz := 4) dX3_seek_7 fl_3_26 (sh_69 L) ⟨(by decide), by decide⟩ ⟨rfl, rfl⟩ rfl (ab_m e4 ?_)
  refine rr_aload_n dX3_seek_10 rfl ?_
  refine rr_iload dX3_seek_11 rfl ?_
  refine rr_bipush dX3_seek_13 (by decide) ?_
  refine rr_min dX3_seek_15 ml_3_29 (Nat.le_of_ble_eq_true rfl) ?_
  obtain ⟨σ5, e6, h⟩ := ab_1 h
  refine rr_puti (kz := 5) dX3_seek_18 fl_3_35 (sh_69 L) ⟨(by decide), by decide⟩ ⟨rfl, rfl⟩ rfl (ab_m e6 ?_)
  refine rr_aload_n dX3_seek_21 rfl ?_
  refine rr_iconst dX3_seek_22 (by decide) ?_
  obtain ⟨σ7, e8, h⟩ := ab_1 h
  refine rr_puti (kz := 7) dX3_seek_23 fl_3_38 (sh_69 L) ⟨(by decide), by decide⟩ ⟨rfl, rfl⟩ rfl (ab_m e8 ?_)
  refine rr_aload_n dX3_seek_26 rfl ?_
  refine rr_iconst dX3_seek_27 (by decide) ?_
  obtain ⟨σ9, e10, h⟩ := ab_1 h
  refine rr_puti (kz := 8) dX3_seek_28 fl_3_41 (sh_69 L) ⟨(by decide), by decide⟩ ⟨rfl, rfl⟩ rfl (ab_m e10 ?_)
  refine rr_aload_n dX3_seek_31 rfl ?_
  refine rr_iconst dX3_seek_32 (by decide) ?_
  obtain ⟨σ11, e12, h⟩ := ab_1 h
  refine rr_puti (kz := 9) dX3_seek_33 fl_3_44 (sh_69 L) ⟨(by decide), by decide⟩ ⟨rfl, rfl⟩ rfl (ab_m e12 ?_)
  refine rr_aload_n dX3_seek_36 rfl ?_
  refine rr_iconst dX3_seek_37 (by decide) ?_
  obtain ⟨σ13, e14, h⟩ := ab_1 h
  refine rr_puti (kz := 10) dX3_seek_38 fl_3_47 (sh_69 L) ⟨(by decide), by decide⟩ ⟨rfl, rfl⟩ rfl (ab_m e14 ?_)
  refine rr_aload_n dX3_seek_41 rfl ?_
  refine rr_aload_n dX3_seek_42 rfl ?_
  refine rr_iconst dX3_seek_43 (by decide) ?_
  refine rr_aload_n dX3_seek_44 rfl ?_
  refine rr_geti (kz := 9) dX3_seek_45 fl_3_50 (tw_sh ht_p1 L) ⟨(tw_ge ht_p1), by decide⟩ rfl rfl ?_
  refine rr_aload_n dX3_seek_48 rfl ?_
  refine rr_geti (kz := 10) dX3_seek_49 fl_3_55 (tw_sh ht_p1 L) ⟨(tw_ge ht_p1), by decide⟩ rfl rfl ?_
  refine rr_iconst dX3_seek_52 (by decide) ?_
  refine rr_iconst dX3_seek_53 (by decide) ?_
  obtain ⟨σ17, e15, h⟩ := ab_1 h
  refine rr_Vv (as := [am_r p1, am_i 0, am_i (σ13 p1 9), am_i (σ13 p1 10), am_i 0, am_i 0]) (rest := []) dX3_seek_54 ml_3_58 (sh_69 L) ⟨(by decide), by decide, by decide⟩ rfl rfl rfl (Nat.le_of_ble_eq_true rfl) ⟨rfl, rfl⟩ (Nat.le_of_ble_eq_true rfl) (fun _ k => t_X3_walk 10 (by omega) ht_p1 e15 k) ?_
  obtain rfl := ab_r1 h
  exact rr_vret dX3_seek_57 rfl hQ
def nw_X3_seek (p1 : Nat) (a : Nat) : Prop := a ≠ 69 ∧ a ≠ 70 ∧ a ≠ 71 ∧ a ≠ 72
theorem w_X3_seek {n : Nat} {p1 : Nat} {p2 : Int} {p3 : Int} {p4 : Int} {σ σr : am_Mem} (h : f_X3_seek n p1 p2 p3 p4 σ = some σr) : ∀ a : Nat, nw_X3_seek p1 a → σr a = σ a := by
  unfold f_X3_seek at h
  have fr : ∀ a : Nat, nw_X3_seek p1 a → σ a = σ a := fun _ _ => rfl
  obtain ⟨σ1, e2, h⟩ := ab_1 h
  have fr := fun (a : Nat) (ha : nw_X3_seek p1 a) => (ab_fu e2 (show a ≠ 69 by unfold nw_X3_seek at ha; omega)).trans (fr a ha)
  obtain ⟨σ3, e4, h⟩ := ab_1 h
  have fr := fun (a : Nat) (ha : nw_X3_seek p1 a) => (ab_fu e4 (show a ≠ 69 by unfold nw_X3_seek at ha; omega)).trans (fr a ha)
  obtain ⟨σ5, e6, h⟩ := ab_1 h
  have fr := fun (a : Nat) (ha : nw_X3_seek p1 a) => (ab_fu e6 (show a ≠ 69 by unfold nw_X3_seek at ha; omega)).trans (fr a ha)
  obtain ⟨σ7, e8, h⟩ := ab_1 h
  have fr := fun (a : Nat) (ha : nw_X3_seek p1 a) => (ab_fu e8 (show a ≠ 69 by unfold nw_X3_seek at ha; omega)).trans (fr a ha)
  obtain ⟨σ9, e10, h⟩ := ab_1 h
  have fr := fun (a : Nat) (ha : nw_X3_seek p1 a) => (ab_fu e10 (show a ≠ 69 by unfold nw_X3_seek at ha; omega)).trans (fr a ha)
  obtain ⟨σ11, e12, h⟩ := ab_1 h
  have fr := fun (a : Nat) (ha : nw_X3_seek p1 a) => (ab_fu e12 (show a ≠ 69 by unfold nw_X3_seek at ha; omega)).trans (fr a ha)
  obtain ⟨σ13, e14, h⟩ := ab_1 h
  have fr := fun (a : Nat) (ha : nw_X3_seek p1 a) => (ab_fu e14 (show a ≠ 69 by unfold nw_X3_seek at ha; omega)).trans (fr a ha)
  obtain ⟨σ17, e15, h⟩ := ab_1 h
  have fr := fun (a : Nat) (ha : nw_X3_seek p1 a) => (w_X3_walk 10 e15 a (by unfold nw_X3_seek at ha; unfold nw_X3_walk; omega)).trans (fr a ha)
  have q2 := ab_r1 h
  exact fun a ha => (congrFun q2.symm a).trans (fr a ha)
/-! MoodFare$Search.streetOf -/
def f_X3_streetOf (n : Nat) (p1 : Int) (σ : am_Mem) : Option (Int × am_Mem) :=
  if p1 < 0 then (some ((-1000000), σ)) else (if p1 < σ 69 7 then (if (0 : Int) ≤ p1 ∧ p1 < 8 then some (σ 71 p1, σ) else none) else (some ((-1000000), σ)))
theorem t_X3_streetOf {L n d : Nat} {Q : am_Post} {p1 : Int} {σ σr : am_Mem} {rr : Int} (hd : 0 < d) (h : f_X3_streetOf n p1 σ = some (rr, σr)) (hQ : Q (some (am_i rr)) (rm_h L σr)) : xs_aw d me_X3_streetOf [am_r 69, am_i p1] (rm_h L σ) Q := by
  obtain ⟨d, rfl⟩ : ∃ k, d = k + 1 := ⟨d - 1, by omega⟩
  have hd : 0 ≤ d := by omega
  unfold f_X3_streetOf at h
  show xs_AW (xs_aw d) me_X3_streetOf Q 0 [some (am_r 69), some (am_i p1)] [] (rm_h L σ)
  refine rr_iload_n dX3_streetOf_0 rfl ?_
  rcases ab_i h with ⟨c1, h⟩ | ⟨c1, h⟩
  · refine rr_if_lt_p (t := 21) dX3_streetOf_1 (by decide) c1 ?_
    refine rr_ldc dX3_streetOf_21 cs_3_78 ?_
    obtain ⟨rfl, rfl⟩ := ab_r2 h
    exact rr_iret dX3_streetOf_23 rfl hQ
  · refine rr_if_lt_n (t := 21) dX3_streetOf_1 (by decide) c1 ?_
    refine rr_iload_n dX3_streetOf_4 rfl ?_
    refine rr_aload_n dX3_streetOf_5 rfl ?_
    refine rr_geti (kz := 7) dX3_streetOf_6 fl_3_38 (sh_69 L) ⟨(by decide), by decide⟩ rfl rfl ?_
    rcases ab_i h with ⟨c2, h⟩ | ⟨c2, h⟩
    · refine rr_icmp_ge_p (t := 21) dX3_streetOf_9 (by decide) c2 ?_
      refine rr_aload_n dX3_streetOf_12 rfl ?_
      refine rr_getr (t := 71) dX3_streetOf_13 fl_3_15 (sh_69 L) ⟨(by decide), by decide⟩ rfl rfl ?_
      refine rr_iload_n dX3_streetOf_16 rfl ?_
      obtain ⟨g3, h⟩ := ab_g h
      refine rr_iald (nz := 8) dX3_streetOf_17 (sh_71 L) rfl g3 ?_
      refine rr_goto (t := 23) dX3_streetOf_18 (by decide) ?_
      obtain ⟨rfl, rfl⟩ := ab_r2 h
      exact rr_iret dX3_streetOf_23 rfl hQ
    · refine rr_icmp_ge_n (t := 21) dX3_streetOf_9 (by decide) c2 ?_
      refine rr_ldc dX3_streetOf_21 cs_3_78 ?_
      obtain ⟨rfl, rfl⟩ := ab_r2 h
      exact rr_iret dX3_streetOf_23 rfl hQ
theorem u_X3_streetOf {n : Nat} {p1 : Int} {σ σr : am_Mem} {rr : Int} (h : f_X3_streetOf n p1 σ = some (rr, σr)) : σr = σ := by
  unfold f_X3_streetOf at h
  have fr : σ = σ := rfl
  rcases ab_i h with ⟨c1, h⟩ | ⟨c1, h⟩
  · obtain ⟨q1, q2⟩ := ab_r2 h
    exact q2.symm.trans fr
  · rcases ab_i h with ⟨c2, h⟩ | ⟨c2, h⟩
    · obtain ⟨g3, h⟩ := ab_g h
      obtain ⟨q1, q2⟩ := ab_r2 h
      exact q2.symm.trans fr
    · obtain ⟨q1, q2⟩ := ab_r2 h
      exact q2.symm.trans fr
/-! MoodFare$Search.seekWithin -/
def fb_X3_seekWithin_57 (n : Nat) (p1 : Nat) (kh44 : Int → am_Mem → Option am_Mem) (kh57 : Int → Int → am_Mem → Option am_Mem) (x4 : Int) (x5 : Int) (σ : am_Mem) : Option am_Mem :=
  if x5 < 8 then (if (0 : Int) ≤ am_and x4 (am_xor (am_shl 1 x5) (-1)) ∧ am_and x4 (am_xor (am_shl 1 x5) (-1)) < 256 then if σ 72 (am_and x4 (am_xor (am_shl 1 x5) (-1))) = 0 then (kh57 x4 (am_w (x5 + 1)) σ) else (if (0 : Int) ≤ x4 ∧ x4 < 256 then am_b1 (some (am_up σ 72 x4 1)) fun σ15 => kh57 x4 (am_w (x5 + 1)) σ15 else none) else none) else (kh44 (am_w (x4 + 1)) σ)
def fl_X3_seekWithin_57 (n : Nat) (p1 : Nat) (kh44 : Int → am_Mem → Option am_Mem) : Nat → Int → Int → am_Mem → Option am_Mem
  | 0, _, _, _ => none
  | m + 1, x4, x5, σ => fb_X3_seekWithin_57 n p1 kh44 (fun yx4 yx5 σ => fl_X3_seekWithin_57 n p1 kh44 m yx4 yx5 σ) x4 x5 σ
def fb_X3_seekWithin_44 (n : Nat) (p1 : Nat) (kh44 : Int → am_Mem → Option am_Mem) (x4 : Int) (σ : am_Mem) : Option am_Mem :=
  if x4 < 256 then (fl_X3_seekWithin_57 n p1 kh44 n x4 0 σ) else (some σ)
def fl_X3_seekWithin_44 (n : Nat) (p1 : Nat) : Nat → Int → am_Mem → Option am_Mem
  | 0, _, _ => none
  | m + 1, x4, σ => fb_X3_seekWithin_44 n p1 (fun yx4 σ => fl_X3_seekWithin_44 n p1 m yx4 σ) x4 σ
def fb_X3_seekWithin_8 (n : Nat) (p1 : Nat) (kh8 : Int → Int → am_Mem → Option am_Mem) (x2 : Int) (x4 : Int) (σ : am_Mem) : Option am_Mem :=
  if x4 < 256 then (if (0 : Int) ≤ x4 ∧ x4 < 256 then am_b1 (some (am_up σ 72 x4 0)) fun σ5 => kh8 x2 (am_w (x4 + 1)) σ5 else none) else (am_b1 (f_X3_seek n p1 4 x2 8 σ) fun σ9 => fl_X3_seekWithin_44 n p1 n 0 σ9)
def fl_X3_seekWithin_8 (n : Nat) (p1 : Nat) : Nat → Int → Int → am_Mem → Option am_Mem
  | 0, _, _, _ => none
  | m + 1, x2, x4, σ => fb_X3_seekWithin_8 n p1 (fun yx2 yx4 σ => fl_X3_seekWithin_8 n p1 m yx2 yx4 σ) x2 x4 σ
def f_X3_seekWithin (n : Nat) (p1 : Nat) (p2 : Int) (p3 : Int) (σ : am_Mem) : Option am_Mem :=
  am_b1 (some (am_up σ 69 6 p3)) fun σ1 => fl_X3_seekWithin_8 n p1 n p2 0 σ1
theorem tb_X3_seekWithin_57 {L n d : Nat} {Q : am_Post} {p1 : Nat} {kh44 : Int → am_Mem → Option am_Mem} {kh57 : Int → Int → am_Mem → Option am_Mem} {x4 : Int} {x5 : Int} {o1 : Nat} {o2 : Int} {o3 : Int} {σ σr : am_Mem} (hd : 14 ≤ d) (ht_p1 : tw p1) (hk44 : ∀ (y4 : Int) (σ : am_Mem), kh44 y4 σ = some σr → ∀ (o1 : Nat) (o2 : Int) (o3 : Int) (o5 : Option am_V), xs_AW (xs_aw d) me_X3_seekWithin Q 44 [some (am_r 69), some (am_r o1), some (am_i o2), some (am_i o3), some (am_i y4), o5] [] (rm_h L σ)) (hk57 : ∀ (y4 : Int) (y5 : Int) (σ : am_Mem), kh57 y4 y5 σ = some σr → ∀ (o1 : Nat) (o2 : Int) (o3 : Int), xs_AW (xs_aw d) me_X3_seekWithin Q 57 [some (am_r 69), some (am_r o1), some (am_i o2), some (am_i o3), some (am_i y4), some (am_i y5)] [] (rm_h L σ)) (hQ : Q none (rm_h L σr)) (h : fb_X3_seekWithin_57 n p1 kh44 kh57 x4 x5 σ = some σr) : xs_AW (xs_aw d) me_X3_seekWithin Q 57 [some (am_r 69), some (am_r o1), some (am_i o2), some (am_i o3), some (am_i x4), some (am_i x5)] [] (rm_h L σ) := by
  unfold fb_X3_seekWithin_57 at h
  refine rr_iload dX3_seekWithin_57 rfl ?_
  refine rr_bipush dX3_seekWithin_59 (by decide) ?_
  rcases ab_i h with ⟨c11, h⟩ | ⟨c11, h⟩
  · refine rr_icmp_ge_p (t := 95) dX3_seekWithin_61 (by decide) c11 ?_
    refine rr_aload_n dX3_seekWithin_64 rfl ?_
    refine rr_getr (t := 72) dX3_seekWithin_65 fl_3_18 (sh_69 L) ⟨(by decide), by decide⟩ rfl rfl ?_
    refine rr_iload dX3_seekWithin_68 rfl ?_
    refine rr_iconst dX3_seekWithin_70 (by decide) ?_
    refine rr_iload dX3_seekWithin_71 rfl ?_
    refine rr_ishl dX3_seekWithin_73 ?_
    refine rr_iconst dX3_seekWithin_74 (by decide) ?_
    refine rr_ixor dX3_seekWithin_75 ?_
    refine rr_iand dX3_seekWithin_76 ?_
    obtain ⟨g12, h⟩ := ab_g h
    refine rr_bald (nz := 256) dX3_seekWithin_77 (sh_72 L) (by decide) rfl g12 ?_
    rcases ab_i h with ⟨c13, h⟩ | ⟨c13, h⟩
    · refine rr_if_eq_p (t := 89) dX3_seekWithin_78 (by decide) c13 ?_
      refine rr_iinc (ls' := [some (am_r 69), some (am_r o1), some (am_i o2), some (am_i o3), some (am_i x4), some (am_i (am_w (x5 + 1)))]) dX3_seekWithin_89 rfl (Nat.le_of_ble_eq_true rfl) rfl ?_
      refine rr_goto (t := 57) dX3_seekWithin_92 (by decide) ?_
      exact hk57 _ _ _ h _ _ _
    · refine rr_if_eq_n (t := 89) dX3_seekWithin_78 (by decide) c13 ?_
      refine rr_aload_n dX3_seekWithin_81 rfl ?_
      refine rr_getr (t := 72) dX3_seekWithin_82 fl_3_18 (sh_69 L) ⟨(by decide), by decide⟩ rfl rfl ?_
      refine rr_iload dX3_seekWithin_85 rfl ?_
      refine rr_iconst dX3_seekWithin_87 (by decide) ?_
      obtain ⟨g14, h⟩ := ab_g h
      refine rr_bast (nz := 256) dX3_seekWithin_88 (sh_72 L) (by decide) rfl g14 (Or.inr rfl) ?_
      obtain ⟨σ15, e16, h⟩ := ab_1 h
      refine ab_m e16 ?_
      refine rr_iinc (ls' := [some (am_r 69), some (am_r o1), some (am_i o2), some (am_i o3), some (am_i x4), some (am_i (am_w (x5 + 1)))]) dX3_seekWithin_89 rfl (Nat.le_of_ble_eq_true rfl) rfl ?_
      refine rr_goto (t := 57) dX3_seekWithin_92 (by decide) ?_
      exact hk57 _ _ _ h _ _ _
  · refine rr_icmp_ge_n (t := 95) dX3_seekWithin_61 (by decide) c11 ?_
    refine rr_iinc (ls' := [some (am_r 69), some (am_r o1), some (am_i o2), some (am_i o3), some (am_i (am_w (x4 + 1))), some (am_i x5)]) dX3_seekWithin_95 rfl (Nat.le_of_ble_eq_true rfl) rfl ?_
    refine rr_goto (t := 44) dX3_seekWithin_98 (by decide) ?_
    exact hk44 _ _ h _ _ _ _
theorem tl_X3_seekWithin_57 {L n d : Nat} {Q : am_Post} {p1 : Nat} {kh44 : Int → am_Mem → Option am_Mem} {σr : am_Mem} (hd : 14 ≤ d) (ht_p1 : tw p1) (hk44 : ∀ (y4 : Int) (σ : am_Mem), kh44 y4 σ = some σr → ∀ (o1 : Nat) (o2 : Int) (o3 : Int) (o5 : Option am_V), xs_AW (xs_aw d) me_X3_seekWithin Q 44 [some (am_r 69), some (am_r o1), some (am_i o2), some (am_i o3), some (am_i y4), o5] [] (rm_h L σ)) (hQ : Q none (rm_h L σr)) : ∀ (m : Nat) (x4 : Int) (x5 : Int) (σ : am_Mem) (o1 : Nat) (o2 : Int) (o3 : Int), fl_X3_seekWithin_57 n p1 kh44 m x4 x5 σ = some σr → xs_AW (xs_aw d) me_X3_seekWithin Q 57 [some (am_r 69), some (am_r o1), some (am_i o2), some (am_i o3), some (am_i x4), some (am_i x5)] [] (rm_h L σ) := by
  intro m
  induction m with
  | zero => intro x4 x5 σ o1 o2 o3 h; cases h
  | succ m ih =>
    intro x4 x5 σ o1 o2 o3 h
    exact tb_X3_seekWithin_57 hd ht_p1 hk44 (fun x4 x5 σ h o1 o2 o3 => ih x4 x5 σ o1 o2 o3 h) hQ h
theorem tb_X3_seekWithin_44 {L n d : Nat} {Q : am_Post} {p1 : Nat} {kh44 : Int → am_Mem → Option am_Mem} {x4 : Int} {o1 : Nat} {o2 : Int} {o3 : Int} {o5 : Option am_V} {σ σr : am_Mem} (hd : 14 ≤ d) (ht_p1 : tw p1) (hk44 : ∀ (y4 : Int) (σ : am_Mem), kh44 y4 σ = some σr → ∀ (o1 : Nat) (o2 : Int) (o3 : Int) (o5 : Option am_V), xs_AW (xs_aw d) me_X3_seekWithin Q 44 [some (am_r 69), some (am_r o1), some (am_i o2), some (am_i o3), some (am_i y4), o5] [] (rm_h L σ)) (hQ : Q none (rm_h L σr)) (h : fb_X3_seekWithin_44 n p1 kh44 x4 σ = some σr) : xs_AW (xs_aw d) me_X3_seekWithin Q 44 [some (am_r 69), some (am_r o1), some (am_i o2), some (am_i o3), some (am_i x4), o5] [] (rm_h L σ) := by
  unfold fb_X3_seekWithin_44 at h
  refine rr_iload dX3_seekWithin_44 rfl ?_
  refine rr_aload_n dX3_seekWithin_46 rfl ?_
  refine rr_getr (t := 72) dX3_seekWithin_47 fl_3_18 (sh_69 L) ⟨(by decide), by decide⟩ rfl rfl ?_
  refine rr_alenz (nz := 256) dX3_seekWithin_50 (sh_72 L) (by decide) rfl (by decide) ?_
  rcases ab_i h with ⟨c10, h⟩ | ⟨c10, h⟩
  · refine rr_icmp_ge_p (t := 101) dX3_seekWithin_51 (by decide) c10 ?_
    refine rr_iconst dX3_seekWithin_54 (by decide) ?_
    refine rr_istore (ls' := [some (am_r 69), some (am_r o1), some (am_i o2), some (am_i o3), some (am_i x4), some (am_i 0)]) dX3_seekWithin_55 (Nat.le_of_ble_eq_true rfl) rfl ?_
    exact tl_X3_seekWithin_57 hd ht_p1 hk44 hQ n _ _ _ _ _ _ h
  · refine rr_icmp_ge_n (t := 101) dX3_seekWithin_51 (by decide) c10 ?_
    obtain rfl := ab_r1 h
    exact rr_vret dX3_seekWithin_101 rfl hQ
theorem tl_X3_seekWithin_44 {L n d : Nat} {Q : am_Post} {p1 : Nat} {σr : am_Mem} (hd : 14 ≤ d) (ht_p1 : tw p1) (hQ : Q none (rm_h L σr)) : ∀ (m : Nat) (x4 : Int) (σ : am_Mem) (o1 : Nat) (o2 : Int) (o3 : Int) (o5 : Option am_V), fl_X3_seekWithin_44 n p1 m x4 σ = some σr → xs_AW (xs_aw d) me_X3_seekWithin Q 44 [some (am_r 69), some (am_r o1), some (am_i o2), some (am_i o3), some (am_i x4), o5] [] (rm_h L σ) := by
  intro m
  induction m with
  | zero => intro x4 σ o1 o2 o3 o5 h; cases h
  | succ m ih =>
    intro x4 σ o1 o2 o3 o5 h
    exact tb_X3_seekWithin_44 hd ht_p1 (fun x4 σ h o1 o2 o3 o5 => ih x4 σ o1 o2 o3 o5 h) hQ h
theorem tb_X3_seekWithin_8 {L n d : Nat} {Q : am_Post} {p1 : Nat} {kh8 : Int → Int → am_Mem → Option am_Mem} {x2 : Int} {x4 : Int} {o3 : Int} {o5 : Option am_V} {σ σr : am_Mem} (hd : 14 ≤ d) (ht_p1 : tw p1) (hk8 : ∀ (y2 : Int) (y4 : Int) (σ : am_Mem), kh8 y2 y4 σ = some σr → ∀ (o3 : Int) (o5 : Option am_V), xs_AW (xs_aw d) me_X3_seekWithin Q 8 [some (am_r 69), some (am_r p1), some (am_i y2), some (am_i o3), some (am_i y4), o5] [] (rm_h L σ)) (hQ : Q none (rm_h L σr)) (h : fb_X3_seekWithin_8 n p1 kh8 x2 x4 σ = some σr) : xs_AW (xs_aw d) me_X3_seekWithin Q 8 [some (am_r 69), some (am_r p1), some (am_i x2), some (am_i o3), some (am_i x4), o5] [] (rm_h L σ) := by
  unfold fb_X3_seekWithin_8 at h
  refine rr_iload dX3_seekWithin_8 rfl ?_
  refine rr_aload_n dX3_seekWithin_10 rfl ?_
  refine rr_getr (t := 72) dX3_seekWithin_11 fl_3_18 (sh_69 L) ⟨(by decide), by decide⟩ rfl rfl ?_
  refine rr_alenz (nz := 256) dX3_seekWithin_14 (sh_72 L) (by decide) rfl (by decide) ?_
  rcases ab_i h with ⟨c3, h⟩ | ⟨c3, h⟩
  · refine rr_icmp_ge_p (t := 32) dX3_seekWithin_15 (by decide) c3 ?_
    refine rr_aload_n dX3_seekWithin_18 rfl ?_
    refine rr_getr (t := 72) dX3_seekWithin_19 fl_3_18 (sh_69 L) ⟨(by decide), by decide⟩ rfl rfl ?_
    refine rr_iload dX3_seekWithin_22 rfl ?_
    refine rr_iconst dX3_seekWithin_24 (by decide) ?_
    obtain ⟨g4, h⟩ := ab_g h
    refine rr_bast (nz := 256) dX3_seekWithin_25 (sh_72 L) (by decide) rfl g4 (Or.inl rfl) ?_
    obtain ⟨σ5, e6, h⟩ := ab_1 h
    refine ab_m e6 ?_
    refine rr_iinc (ls' := [some (am_r 69), some (am_r p1), some (am_i x2), some (am_i o3), some (am_i (am_w (x4 + 1))), o5]) dX3_seekWithin_26 rfl (Nat.le_of_ble_eq_true rfl) rfl ?_
    refine rr_goto (t := 8) dX3_seekWithin_29 (by decide) ?_
    exact hk8 _ _ _ h _ _
  · refine rr_icmp_ge_n (t := 32) dX3_seekWithin_15 (by decide) c3 ?_
    refine rr_aload_n dX3_seekWithin_32 rfl ?_
    refine rr_aload_n dX3_seekWithin_33 rfl ?_
    refine rr_iconst dX3_seekWithin_34 (by decide) ?_
    refine rr_iload_n dX3_seekWithin_35 rfl ?_
    refine rr_bipush dX3_seekWithin_36 (by decide) ?_
    obtain ⟨σ9, e7, h⟩ := ab_1 h
    refine rr_Vv (as := [am_r p1, am_i 4, am_i x2, am_i 8]) (rest := []) dX3_seekWithin_38 ml_3_65 (sh_69 L) ⟨(by decide), by decide, by decide⟩ rfl rfl rfl (Nat.le_of_ble_eq_true rfl) ⟨rfl, rfl⟩ (Nat.le_of_ble_eq_true rfl) (fun _ k => t_X3_seek (by omega) ht_p1 e7 k) ?_
    refine rr_iconst dX3_seekWithin_41 (by decide) ?_
    refine rr_istore (ls' := [some (am_r 69), some (am_r p1), some (am_i x2), some (am_i o3), some (am_i 0), o5]) dX3_seekWithin_42 (Nat.le_of_ble_eq_true rfl) rfl ?_
    exact tl_X3_seekWithin_44 hd ht_p1 hQ n _ _ _ _ _ _ h
theorem tl_X3_seekWithin_8 {L n d : Nat} {Q : am_Post} {p1 : Nat} {σr : am_Mem} (hd : 14 ≤ d) (ht_p1 : tw p1) (hQ : Q none (rm_h L σr)) : ∀ (m : Nat) (x2 : Int) (x4 : Int) (σ : am_Mem) (o3 : Int) (o5 : Option am_V), fl_X3_seekWithin_8 n p1 m x2 x4 σ = some σr → xs_AW (xs_aw d) me_X3_seekWithin Q 8 [some (am_r 69), some (am_r p1), some (am_i x2), some (am_i o3), some (am_i x4), o5] [] (rm_h L σ) := by
  intro m
  induction m with
  | zero => intro x2 x4 σ o3 o5 h; cases h
  | succ m ih =>
    intro x2 x4 σ o3 o5 h
    exact tb_X3_seekWithin_8 hd ht_p1 (fun x2 x4 σ h o3 o5 => ih x2 x4 σ o3 o5 h) hQ h
theorem t_X3_seekWithin {L n d : Nat} {Q : am_Post} {p1 : Nat} {p2 : Int} {p3 : Int} {σ σr : am_Mem} (hd : 14 < d) (ht_p1 : tw p1) (h : f_X3_seekWithin n p1 p2 p3 σ = some σr) (hQ : Q none (rm_h L σr)) : xs_aw d me_X3_seekWithin [am_r 69, am_r p1, am_i p2, am_i p3] (rm_h L σ) Q := by
  obtain ⟨d, rfl⟩ : ∃ k, d = k + 1 := ⟨d - 1, by omega⟩
  have hd : 14 ≤ d := by omega
  unfold f_X3_seekWithin at h
  show xs_AW (xs_aw d) me_X3_seekWithin Q 0 [some (am_r 69), some (am_r p1), some (am_i p2), some (am_i p3), none, none] [] (rm_h L σ)
  refine rr_aload_n dX3_seekWithin_0 rfl ?_
  refine rr_iload_n dX3_seekWithin_1 rfl ?_
  obtain ⟨σ1, e2, h⟩ := ab_1 h
  refine rr_puti (kz := 6) dX3_seekWithin_2 fl_3_62 (sh_69 L) ⟨(by decide), by decide⟩ ⟨rfl, rfl⟩ rfl (ab_m e2 ?_)
  refine rr_iconst dX3_seekWithin_5 (by decide) ?_
  refine rr_istore (ls' := [some (am_r 69), some (am_r p1), some (am_i p2), some (am_i p3), some (am_i 0), none]) dX3_seekWithin_6 (Nat.le_of_ble_eq_true rfl) rfl ?_
  exact tl_X3_seekWithin_8 hd ht_p1 hQ n _ _ _ _ _ h
def nw_X3_seekWithin (p1 : Nat) (a : Nat) : Prop := a ≠ 69 ∧ a ≠ 70 ∧ a ≠ 71 ∧ a ≠ 72
theorem wb_X3_seekWithin_57 {n : Nat} {p1 : Nat} {kh44 : Int → am_Mem → Option am_Mem} {kh57 : Int → Int → am_Mem → Option am_Mem} {x4 : Int} {x5 : Int} {σ σr : am_Mem} (hk44 : ∀ (y4 : Int) (σ : am_Mem), kh44 y4 σ = some σr → ∀ a : Nat, nw_X3_seekWithin p1 a → σr a = σ a) (hk57 : ∀ (y4 : Int) (y5 : Int) (σ : am_Mem), kh57 y4 y5 σ = some σr → ∀ a : Nat, nw_X3_seekWithin p1 a → σr a = σ a) (h : fb_X3_seekWithin_57 n p1 kh44 kh57 x4 x5 σ = some σr) : ∀ a : Nat, nw_X3_seekWithin p1 a → σr a = σ a := by
  unfold fb_X3_seekWithin_57 at h
  have fr : ∀ a : Nat, nw_X3_seekWithin p1 a → σ a = σ a := fun _ _ => rfl
  rcases ab_i h with ⟨c11, h⟩ | ⟨c11, h⟩
  · obtain ⟨g12, h⟩ := ab_g h
    rcases ab_i h with ⟨c13, h⟩ | ⟨c13, h⟩
    · exact fun a ha => (hk57 _ _ _ h a ha).trans (fr a ha)
    · obtain ⟨g14, h⟩ := ab_g h
      obtain ⟨σ15, e16, h⟩ := ab_1 h
      have fr := fun (a : Nat) (ha : nw_X3_seekWithin p1 a) => (ab_fu e16 (show a ≠ 72 by unfold nw_X3_seekWithin at ha; omega)).trans (fr a ha)
      exact fun a ha => (hk57 _ _ _ h a ha).trans (fr a ha)
  · exact fun a ha => (hk44 _ _ h a ha).trans (fr a ha)
theorem wl_X3_seekWithin_57 {n : Nat} {p1 : Nat} {kh44 : Int → am_Mem → Option am_Mem} {σr : am_Mem} (hk44 : ∀ (y4 : Int) (σ : am_Mem), kh44 y4 σ = some σr → ∀ a : Nat, nw_X3_seekWithin p1 a → σr a = σ a) : ∀ (m : Nat) (x4 : Int) (x5 : Int) (σ : am_Mem), fl_X3_seekWithin_57 n p1 kh44 m x4 x5 σ = some σr → ∀ a : Nat, nw_X3_seekWithin p1 a → σr a = σ a := by
  intro m
  induction m with
  | zero => intro x4 x5 σ h; cases h
  | succ m ih =>
    intro x4 x5 σ h
    exact wb_X3_seekWithin_57 hk44 (fun x4 x5 σ h => ih x4 x5 σ h) h
theorem wb_X3_seekWithin_44 {n : Nat} {p1 : Nat} {kh44 : Int → am_Mem → Option am_Mem} {x4 : Int} {σ σr : am_Mem} (hk44 : ∀ (y4 : Int) (σ : am_Mem), kh44 y4 σ = some σr → ∀ a : Nat, nw_X3_seekWithin p1 a → σr a = σ a) (h : fb_X3_seekWithin_44 n p1 kh44 x4 σ = some σr) : ∀ a : Nat, nw_X3_seekWithin p1 a → σr a = σ a := by
  unfold fb_X3_seekWithin_44 at h
  have fr : ∀ a : Nat, nw_X3_seekWithin p1 a → σ a = σ a := fun _ _ => rfl
  rcases ab_i h with ⟨c10, h⟩ | ⟨c10, h⟩
  · exact fun a ha => (wl_X3_seekWithin_57 hk44 n _ _ _ h a ha).trans (fr a ha)
  · have q2 := ab_r1 h
    exact fun a ha => (congrFun q2.symm a).trans (fr a ha)
theorem wl_X3_seekWithin_44 {n : Nat} {p1 : Nat} {σr : am_Mem} : ∀ (m : Nat) (x4 : Int) (σ : am_Mem), fl_X3_seekWithin_44 n p1 m x4 σ = some σr → ∀ a : Nat, nw_X3_seekWithin p1 a → σr a = σ a := by
  intro m
  induction m with
  | zero => intro x4 σ h; cases h
  | succ m ih =>
    intro x4 σ h
    exact wb_X3_seekWithin_44 (fun x4 σ h => ih x4 σ h) h
theorem wb_X3_seekWithin_8 {n : Nat} {p1 : Nat} {kh8 : Int → Int → am_Mem → Option am_Mem} {x2 : Int} {x4 : Int} {σ σr : am_Mem} (hk8 : ∀ (y2 : Int) (y4 : Int) (σ : am_Mem), kh8 y2 y4 σ = some σr → ∀ a : Nat, nw_X3_seekWithin p1 a → σr a = σ a) (h : fb_X3_seekWithin_8 n p1 kh8 x2 x4 σ = some σr) : ∀ a : Nat, nw_X3_seekWithin p1 a → σr a = σ a := by
  unfold fb_X3_seekWithin_8 at h
  have fr : ∀ a : Nat, nw_X3_seekWithin p1 a → σ a = σ a := fun _ _ => rfl
  rcases ab_i h with ⟨c3, h⟩ | ⟨c3, h⟩
  · obtain ⟨g4, h⟩ := ab_g h
    obtain ⟨σ5, e6, h⟩ := ab_1 h
    have fr := fun (a : Nat) (ha : nw_X3_seekWithin p1 a) => (ab_fu e6 (show a ≠ 72 by unfold nw_X3_seekWithin at ha; omega)).trans (fr a ha)
    exact fun a ha => (hk8 _ _ _ h a ha).trans (fr a ha)
  · obtain ⟨σ9, e7, h⟩ := ab_1 h
    have fr := fun (a : Nat) (ha : nw_X3_seekWithin p1 a) => (w_X3_seek e7 a (by unfold nw_X3_seekWithin at ha; unfold nw_X3_seek; omega)).trans (fr a ha)
    exact fun a ha => (wl_X3_seekWithin_44 n _ _ h a ha).trans (fr a ha)
theorem wl_X3_seekWithin_8 {n : Nat} {p1 : Nat} {σr : am_Mem} : ∀ (m : Nat) (x2 : Int) (x4 : Int) (σ : am_Mem), fl_X3_seekWithin_8 n p1 m x2 x4 σ = some σr → ∀ a : Nat, nw_X3_seekWithin p1 a → σr a = σ a := by
  intro m
  induction m with
  | zero => intro x2 x4 σ h; cases h
  | succ m ih =>
    intro x2 x4 σ h
    exact wb_X3_seekWithin_8 (fun x2 x4 σ h => ih x2 x4 σ h) h
theorem w_X3_seekWithin {n : Nat} {p1 : Nat} {p2 : Int} {p3 : Int} {σ σr : am_Mem} (h : f_X3_seekWithin n p1 p2 p3 σ = some σr) : ∀ a : Nat, nw_X3_seekWithin p1 a → σr a = σ a := by
  unfold f_X3_seekWithin at h
  have fr : ∀ a : Nat, nw_X3_seekWithin p1 a → σ a = σ a := fun _ _ => rfl
  obtain ⟨σ1, e2, h⟩ := ab_1 h
  have fr := fun (a : Nat) (ha : nw_X3_seekWithin p1 a) => (ab_fu e2 (show a ≠ 69 by unfold nw_X3_seekWithin at ha; omega)).trans (fr a ha)
  exact fun a ha => (wl_X3_seekWithin_8 n _ _ _ h a ha).trans (fr a ha)
/-! MoodFare.power -/
def fb_X6_power_4 (n : Nat) (kh4 : Int → Int → Int → Int → am_Mem → Option (Int × am_Mem)) (x0 : Int) (x1 : Int) (x2 : Int) (x3 : Int) (σ : am_Mem) : Option (Int × am_Mem) :=
  if x3 < x1 then (kh4 x0 x1 (am_w (x2 * x0)) (am_w (x3 + 1)) σ) else (some (x2, σ))
def fl_X6_power_4 (n : Nat) : Nat → Int → Int → Int → Int → am_Mem → Option (Int × am_Mem)
  | 0, _, _, _, _, _ => none
  | m + 1, x0, x1, x2, x3, σ => fb_X6_power_4 n (fun yx0 yx1 yx2 yx3 σ => fl_X6_power_4 n m yx0 yx1 yx2 yx3 σ) x0 x1 x2 x3 σ
def f_X6_power (n : Nat) (p0 : Int) (p1 : Int) (σ : am_Mem) : Option (Int × am_Mem) :=
  fl_X6_power_4 n n p0 p1 1 0 σ
theorem tb_X6_power_4 {L n d : Nat} {Q : am_Post} {kh4 : Int → Int → Int → Int → am_Mem → Option (Int × am_Mem)} {x0 : Int} {x1 : Int} {x2 : Int} {x3 : Int} {σ σr : am_Mem} {rr : Int} (hd : 0 ≤ d) (hk4 : ∀ (y0 : Int) (y1 : Int) (y2 : Int) (y3 : Int) (σ : am_Mem), kh4 y0 y1 y2 y3 σ = some (rr, σr) → xs_AW (xs_aw d) me_X6_power Q 4 [some (am_i y0), some (am_i y1), some (am_i y2), some (am_i y3)] [] (rm_h L σ)) (hQ : Q (some (am_i rr)) (rm_h L σr)) (h : fb_X6_power_4 n kh4 x0 x1 x2 x3 σ = some (rr, σr)) : xs_AW (xs_aw d) me_X6_power Q 4 [some (am_i x0), some (am_i x1), some (am_i x2), some (am_i x3)] [] (rm_h L σ) := by
  unfold fb_X6_power_4 at h
  refine rr_iload_n dX6_power_4 rfl ?_
  refine rr_iload_n dX6_power_5 rfl ?_
  rcases ab_i h with ⟨c1, h⟩ | ⟨c1, h⟩
  · refine rr_icmp_ge_p (t := 19) dX6_power_6 (by decide) c1 ?_
    refine rr_iload_n dX6_power_9 rfl ?_
    refine rr_iload_n dX6_power_10 rfl ?_
    refine rr_imul dX6_power_11 ?_
    refine rr_istore_n (ls' := [some (am_i x0), some (am_i x1), some (am_i (am_w (x2 * x0))), some (am_i x3)]) dX6_power_12 (Nat.le_of_ble_eq_true rfl) rfl ?_
    refine rr_iinc (ls' := [some (am_i x0), some (am_i x1), some (am_i (am_w (x2 * x0))), some (am_i (am_w (x3 + 1)))]) dX6_power_13 rfl (Nat.le_of_ble_eq_true rfl) rfl ?_
    refine rr_goto (t := 4) dX6_power_16 (by decide) ?_
    exact hk4 _ _ _ _ _ h
  · refine rr_icmp_ge_n (t := 19) dX6_power_6 (by decide) c1 ?_
    refine rr_iload_n dX6_power_19 rfl ?_
    obtain ⟨rfl, rfl⟩ := ab_r2 h
    exact rr_iret dX6_power_20 rfl hQ
theorem tl_X6_power_4 {L n d : Nat} {Q : am_Post} {σr : am_Mem} {rr : Int} (hd : 0 ≤ d) (hQ : Q (some (am_i rr)) (rm_h L σr)) : ∀ (m : Nat) (x0 : Int) (x1 : Int) (x2 : Int) (x3 : Int) (σ : am_Mem), fl_X6_power_4 n m x0 x1 x2 x3 σ = some (rr, σr) → xs_AW (xs_aw d) me_X6_power Q 4 [some (am_i x0), some (am_i x1), some (am_i x2), some (am_i x3)] [] (rm_h L σ) := by
  intro m
  induction m with
  | zero => intro x0 x1 x2 x3 σ h; cases h
  | succ m ih =>
    intro x0 x1 x2 x3 σ h
    exact tb_X6_power_4 hd (fun x0 x1 x2 x3 σ h => ih x0 x1 x2 x3 σ h) hQ h
theorem t_X6_power {L n d : Nat} {Q : am_Post} {p0 : Int} {p1 : Int} {σ σr : am_Mem} {rr : Int} (hd : 0 < d) (h : f_X6_power n p0 p1 σ = some (rr, σr)) (hQ : Q (some (am_i rr)) (rm_h L σr)) : xs_aw d me_X6_power [am_i p0, am_i p1] (rm_h L σ) Q := by
  obtain ⟨d, rfl⟩ : ∃ k, d = k + 1 := ⟨d - 1, by omega⟩
  have hd : 0 ≤ d := by omega
  unfold f_X6_power at h
  show xs_AW (xs_aw d) me_X6_power Q 0 [some (am_i p0), some (am_i p1), none, none] [] (rm_h L σ)
  refine rr_iconst dX6_power_0 (by decide) ?_
  refine rr_istore_n (ls' := [some (am_i p0), some (am_i p1), some (am_i 1), none]) dX6_power_1 (Nat.le_of_ble_eq_true rfl) rfl ?_
  refine rr_iconst dX6_power_2 (by decide) ?_
  refine rr_istore_n (ls' := [some (am_i p0), some (am_i p1), some (am_i 1), some (am_i 0)]) dX6_power_3 (Nat.le_of_ble_eq_true rfl) rfl ?_
  exact tl_X6_power_4 hd hQ n _ _ _ _ _ h
theorem ub_X6_power_4 {n : Nat} {kh4 : Int → Int → Int → Int → am_Mem → Option (Int × am_Mem)} {x0 : Int} {x1 : Int} {x2 : Int} {x3 : Int} {σ σr : am_Mem} {rr : Int} (hk4 : ∀ (y0 : Int) (y1 : Int) (y2 : Int) (y3 : Int) (σ : am_Mem), kh4 y0 y1 y2 y3 σ = some (rr, σr) → σr = σ) (h : fb_X6_power_4 n kh4 x0 x1 x2 x3 σ = some (rr, σr)) : σr = σ := by
  unfold fb_X6_power_4 at h
  have fr : σ = σ := rfl
  rcases ab_i h with ⟨c1, h⟩ | ⟨c1, h⟩
  · exact (hk4 _ _ _ _ _ h).trans fr
  · obtain ⟨q1, q2⟩ := ab_r2 h
    exact q2.symm.trans fr
theorem ul_X6_power_4 {n : Nat} {σr : am_Mem} {rr : Int} : ∀ (m : Nat) (x0 : Int) (x1 : Int) (x2 : Int) (x3 : Int) (σ : am_Mem), fl_X6_power_4 n m x0 x1 x2 x3 σ = some (rr, σr) → σr = σ := by
  intro m
  induction m with
  | zero => intro x0 x1 x2 x3 σ h; cases h
  | succ m ih =>
    intro x0 x1 x2 x3 σ h
    exact ub_X6_power_4 (fun x0 x1 x2 x3 σ h => ih x0 x1 x2 x3 σ h) h
theorem u_X6_power {n : Nat} {p0 : Int} {p1 : Int} {σ σr : am_Mem} {rr : Int} (h : f_X6_power n p0 p1 σ = some (rr, σr)) : σr = σ := by
  unfold f_X6_power at h
  have fr : σ = σ := rfl
  exact (ul_X6_power_4 n _ _ _ _ _ h).trans fr
/-! java/lang/Integer.bitCount -/
def f_J6_bitCount_0f7a4 (n : Nat) (p0 : Int) (σ : am_Mem) : Option (Int × am_Mem) :=
  some (am_and (am_w ((am_w ((am_and (am_w ((am_w ((am_and (am_w (p0 - (am_and (am_ushr p0 1) 1431655765))) 858993459) + (am_and (am_ushr (am_w (p0 - (am_and (am_ushr p0 1) 1431655765))) 2) 858993459))) + (am_ushr (am_w ((am_and (am_w (p0 - (am_and (am_ushr p0 1) 1431655765))) 858993459) + (am_and (am_ushr (am_w (p0 - (am_and (am_ushr p0 1) 1431655765))) 2) 858993459))) 4))) 252645135) + (am_ushr (am_and (am_w ((am_w ((am_and (am_w (p0 - (am_and (am_ushr p0 1) 1431655765))) 858993459) + (am_and (am_ushr (am_w (p0 - (am_and (am_ushr p0 1) 1431655765))) 2) 858993459))) + (am_ushr (am_w ((am_and (am_w (p0 - (am_and (am_ushr p0 1) 1431655765))) 858993459) + (am_and (am_ushr (am_w (p0 - (am_and (am_ushr p0 1) 1431655765))) 2) 858993459))) 4))) 252645135) 8))) + (am_ushr (am_w ((am_and (am_w ((am_w ((am_and (am_w (p0 - (am_and (am_ushr p0 1) 1431655765))) 858993459) + (am_and (am_ushr (am_w (p0 - (am_and (am_ushr p0 1) 1431655765))) 2) 858993459))) + (am_ushr (am_w ((am_and (am_w (p0 - (am_and (am_ushr p0 1) 1431655765))) 858993459) + (am_and (am_ushr (am_w (p0 - (am_and (am_ushr p0 1) 1431655765))) 2) 858993459))) 4))) 252645135) + (am_ushr (am_and (am_w ((am_w ((am_and (am_w (p0 - (am_and (am_ushr p0 1) 1431655765))) 858993459) + (am_and (am_ushr (am_w (p0 - (am_and (am_ushr p0 1) 1431655765))) 2) 858993459))) + (am_ushr (am_w ((am_and (am_w (p0 - (am_and (am_ushr p0 1) 1431655765))) 858993459) + (am_and (am_ushr (am_w (p0 - (am_and (am_ushr p0 1) 1431655765))) 2) 858993459))) 4))) 252645135) 8))) 16))) 63, σ)
theorem t_J6_bitCount_0f7a4 {L n d : Nat} {Q : am_Post} {p0 : Int} {σ σr : am_Mem} {rr : Int} (hd : 0 < d) (h : f_J6_bitCount_0f7a4 n p0 σ = some (rr, σr)) (hQ : Q (some (am_i rr)) (rm_h L σr)) : xs_aw d me_J6_bitCount_0f7a4 [am_i p0] (rm_h L σ) Q := by
  obtain ⟨d, rfl⟩ : ∃ k, d = k + 1 := ⟨d - 1, by omega⟩
  have hd : 0 ≤ d := by omega
  unfold f_J6_bitCount_0f7a4 at h
  show xs_AW (xs_aw d) me_J6_bitCount_0f7a4 Q 0 [some (am_i p0)] [] (rm_h L σ)
  refine rr_iload_n dJ6_bitCount_0f7a4_0 rfl ?_
  refine rr_iload_n dJ6_bitCount_0f7a4_1 rfl ?_
  refine rr_iconst dJ6_bitCount_0f7a4_2 (by decide) ?_
  refine rr_iushr dJ6_bitCount_0f7a4_3 ?_
  refine rr_ldc_w dJ6_bitCount_0f7a4_4 cs_10_265 ?_
  refine rr_iand dJ6_bitCount_0f7a4_7 ?_
  refine rr_isub dJ6_bitCount_0f7a4_8 ?_
  refine rr_istore_n (ls' := [some (am_i (am_w (p0 - (am_and (am_ushr p0 1) 1431655765))))]) dJ6_bitCount_0f7a4_9 (Nat.le_of_ble_eq_true rfl) rfl ?_
  refine rr_iload_n dJ6_bitCount_0f7a4_10 rfl ?_
  refine rr_ldc_w dJ6_bitCount_0f7a4_11 cs_10_266 ?_
  refine rr_iand dJ6_bitCount_0f7a4_14 ?_
  refine rr_iload_n dJ6_bitCount_0f7a4_15 rfl ?_
  refine rr_iconst dJ6_bitCount_0f7a4_16 (by decide) ?_
  refine rr_iushr dJ6_bitCount_0f7a4_17 ?_
  refine rr_ldc_w dJ6_bitCount_0f7a4_18 cs_10_266 ?_
  refine rr_iand dJ6_bitCount_0f7a4_21 ?_
  refine rr_iadd dJ6_bitCount_0f7a4_22 ?_
  refine rr_istore_n (ls' := [some (am_i (am_w ((am_and (am_w (p0 - (am_and (am_ushr p0 1) 1431655765))) 858993459) + (am_and (am_ushr (am_w (p0 - (am_and (am_ushr p0 1) 1431655765))) 2) 858993459))))]) dJ6_bitCount_0f7a4_23 (Nat.le_of_ble_eq_true rfl) rfl ?_
  refine rr_iload_n dJ6_bitCount_0f7a4_24 rfl ?_
  refine rr_iload_n dJ6_bitCount_0f7a4_25 rfl ?_
  refine rr_iconst dJ6_bitCount_0f7a4_26 (by decide) ?_
  refine rr_iushr dJ6_bitCount_0f7a4_27 ?_
  refine rr_iadd dJ6_bitCount_0f7a4_28 ?_
  refine rr_ldc_w dJ6_bitCount_0f7a4_29 cs_10_267 ?_
  refine rr_iand dJ6_bitCount_0f7a4_32 ?_
  refine rr_istore_n (ls' := [some (am_i (am_and (am_w ((am_w ((am_and (am_w (p0 - (am_and (am_ushr p0 1) 1431655765))) 858993459) + (am_and (am_ushr (am_w (p0 - (am_and (am_ushr p0 1) 1431655765))) 2) 858993459))) + (am_ushr (am_w ((am_and (am_w (p0 - (am_and (am_ushr p0 1) 1431655765))) 858993459) + (am_and (am_ushr (am_w (p0 - (am_and (am_ushr p0 1) 1431655765))) 2) 858993459))) 4))) 252645135))]) dJ6_bitCount_0f7a4_33 (Nat.le_of_ble_eq_true rfl) rfl ?_
  refine rr_iload_n dJ6_bitCount_0f7a4_34 rfl ?_
  refine rr_iload_n dJ6_bitCount_0f7a4_35 rfl ?_
  refine rr_bipush dJ6_bitCount_0f7a4_36 (by decide) ?_
  refine rr_iushr dJ6_bitCount_0f7a4_38 ?_
  refine rr_iadd dJ6_bitCount_0f7a4_39 ?_
  refine rr_istore_n (ls' := [some (am_i (am_w ((am_and (am_w ((am_w ((am_and (am_w (p0 - (am_and (am_ushr p0 1) 1431655765))) 858993459) + (am_and (am_ushr (am_w (p0 - (am_and (am_ushr p0 1) 1431655765))) 2) 858993459))) + (am_ushr (am_w ((am_and (am_w (p0 - (am_and (am_ushr p0 1) 1431655765))) 858993459) + (am_and (am_ushr (am_w (p0 - (am_and (am_ushr p0 1) 1431655765))) 2) 858993459))) 4))) 252645135) + (am_ushr (am_and (am_w ((am_w ((am_and (am_w (p0 - (am_and (am_ushr p0 1) 1431655765))) 858993459) + (am_and (am_ushr (am_w (p0 - (am_and (am_ushr p0 1) 1431655765))) 2) 858993459))) + (am_ushr (am_w ((am_and (am_w (p0 - (am_and (am_ushr p0 1) 1431655765))) 858993459) + (am_and (am_ushr (am_w (p0 - (am_and (am_ushr p0 1) 1431655765))) 2) 858993459))) 4))) 252645135) 8))))]) dJ6_bitCount_0f7a4_40 (Nat.le_of_ble_eq_true rfl) rfl ?_
  refine rr_iload_n dJ6_bitCount_0f7a4_41 rfl ?_
  refine rr_iload_n dJ6_bitCount_0f7a4_42 rfl ?_
  refine rr_bipush dJ6_bitCount_0f7a4_43 (by decide) ?_
  refine rr_iushr dJ6_bitCount_0f7a4_45 ?_
  refine rr_iadd dJ6_bitCount_0f7a4_46 ?_
  refine rr_istore_n (ls' := [some (am_i (am_w ((am_w ((am_and (am_w ((am_w ((am_and (am_w (p0 - (am_and (am_ushr p0 1) 1431655765))) 858993459) + (am_and (am_ushr (am_w (p0 - (am_and (am_ushr p0 1) 1431655765))) 2) 858993459))) + (am_ushr (am_w ((am_and (am_w (p0 - (am_and (am_ushr p0 1) 1431655765))) 858993459) + (am_and (am_ushr (am_w (p0 - (am_and (am_ushr p0 1) 1431655765))) 2) 858993459))) 4))) 252645135) + (am_ushr (am_and (am_w ((am_w ((am_and (am_w (p0 - (am_and (am_ushr p0 1) 1431655765))) 858993459) + (am_and (am_ushr (am_w (p0 - (am_and (am_ushr p0 1) 1431655765))) 2) 858993459))) + (am_ushr (am_w ((am_and (am_w (p0 - (am_and (am_ushr p0 1) 1431655765))) 858993459) + (am_and (am_ushr (am_w (p0 - (am_and (am_ushr p0 1) 1431655765))) 2) 858993459))) 4))) 252645135) 8))) + (am_ushr (am_w ((am_and (am_w ((am_w ((am_and (am_w (p0 - (am_and (am_ushr p0 1) 1431655765))) 858993459) + (am_and (am_ushr (am_w (p0 - (am_and (am_ushr p0 1) 1431655765))) 2) 858993459))) + (am_ushr (am_w ((am_and (am_w (p0 - (am_and (am_ushr p0 1) 1431655765))) 858993459) + (am_and (am_ushr (am_w (p0 - (am_and (am_ushr p0 1) 1431655765))) 2) 858993459))) 4))) 252645135) + (am_ushr (am_and (am_w ((am_w ((am_and (am_w (p0 - (am_and (am_ushr p0 1) 1431655765))) 858993459) + (am_and (am_ushr (am_w (p0 - (am_and (am_ushr p0 1) 1431655765))) 2) 858993459))) + (am_ushr (am_w ((am_and (am_w (p0 - (am_and (am_ushr p0 1) 1431655765))) 858993459) + (am_and (am_ushr (am_w (p0 - (am_and (am_ushr p0 1) 1431655765))) 2) 858993459))) 4))) 252645135) 8))) 16))))]) dJ6_bitCount_0f7a4_47 (Nat.le_of_ble_eq_true rfl) rfl ?_
  refine rr_iload_n dJ6_bitCount_0f7a4_48 rfl ?_
  refine rr_bipush dJ6_bitCount_0f7a4_49 (by decide) ?_
  refine rr_iand dJ6_bitCount_0f7a4_51 ?_
  obtain ⟨rfl, rfl⟩ := ab_r2 h
  exact rr_iret dJ6_bitCount_0f7a4_52 rfl hQ
theorem u_J6_bitCount_0f7a4 {n : Nat} {p0 : Int} {σ σr : am_Mem} {rr : Int} (h : f_J6_bitCount_0f7a4 n p0 σ = some (rr, σr)) : σr = σ := by
  unfold f_J6_bitCount_0f7a4 at h
  have fr : σ = σ := rfl
  obtain ⟨q1, q2⟩ := ab_r2 h
  exact q2.symm.trans fr
/-! MoodFare$Search.weightOfEnough -/
def fb_X3_weightOfEnough_11 (n : Nat) (kh11 : Int → Int → Int → Int → Int → am_Mem → Option (Int × am_Mem)) (x1 : Int) (x2 : Int) (x3 : Int) (x4 : Int) (x5 : Int) (σ : am_Mem) : Option (Int × am_Mem) :=
  if x5 < 256 then (if am_and x5 (am_xor x1 (-1)) = 0 then (if (0 : Int) ≤ x5 ∧ x5 < 256 then if σ 72 x5 = 0 then (kh11 x1 x2 x3 x4 (am_w (x5 + 1)) σ) else (am_b2 (f_J6_bitCount_0f7a4 n x5 σ) fun r9 σ10 => am_b2 (f_X6_power n (am_w (10 - x2)) r9 σ10) fun r12 σ13 => am_b2 (f_X6_power n x2 (am_w (x4 - r9)) σ13) fun r15 σ16 => kh11 x1 x2 (am_w (x3 + (am_w (r12 * r15)))) x4 (am_w (x5 + 1)) σ16) else none) else (kh11 x1 x2 x3 x4 (am_w (x5 + 1)) σ)) else (some (x3, σ))
def fl_X3_weightOfEnough_11 (n : Nat) : Nat → Int → Int → Int → Int → Int → am_Mem → Option (Int × am_Mem)
  | 0, _, _, _, _, _, _ => none
  | m + 1, x1, x2, x3, x4, x5, σ => fb_X3_weightOfEnough_11 n (fun yx1 yx2 yx3 yx4 yx5 σ => fl_X3_weightOfEnough_11 n m yx1 yx2 yx3 yx4 yx5 σ) x1 x2 x3 x4 x5 σ
def f_X3_weightOfEnough (n : Nat) (p1 : Int) (p2 : Int) (σ : am_Mem) : Option (Int × am_Mem) :=
  am_b2 (f_J6_bitCount_0f7a4 n p1 σ) fun r2 σ3 => fl_X3_weightOfEnough_11 n n p1 p2 0 r2 0 σ3
theorem tb_X3_weightOfEnough_11 {L n d : Nat} {Q : am_Post} {kh11 : Int → Int → Int → Int → Int → am_Mem → Option (Int × am_Mem)} {x1 : Int} {x2 : Int} {x3 : Int} {x4 : Int} {x5 : Int} {o6 : Option am_V} {σ σr : am_Mem} {rr : Int} (hd : 1 ≤ d) (hk11 : ∀ (y1 : Int) (y2 : Int) (y3 : Int) (y4 : Int) (y5 : Int) (σ : am_Mem), kh11 y1 y2 y3 y4 y5 σ = some (rr, σr) → ∀ (o6 : Option am_V), xs_AW (xs_aw d) me_X3_weightOfEnough Q 11 [some (am_r 69), some (am_i y1), some (am_i y2), some (am_i y3), some (am_i y4), some (am_i y5), o6] [] (rm_h L σ)) (hQ : Q (some (am_i rr)) (rm_h L σr)) (h : fb_X3_weightOfEnough_11 n kh11 x1 x2 x3 x4 x5 σ = some (rr, σr)) : xs_AW (xs_aw d) me_X3_weightOfEnough Q 11 [some (am_r 69), some (am_i x1), some (am_i x2), some (am_i x3), some (am_i x4), some (am_i x5), o6] [] (rm_h L σ) := by
  unfold fb_X3_weightOfEnough_11 at h
  refine rr_iload dX3_weightOfEnough_11 rfl ?_
  refine rr_aload_n dX3_weightOfEnough_13 rfl ?_
  refine rr_getr (t := 72) dX3_weightOfEnough_14 fl_3_18 (sh_69 L) ⟨(by decide), by decide⟩ rfl rfl ?_
  refine rr_alenz (nz := 256) dX3_weightOfEnough_17 (sh_72 L) (by decide) rfl (by decide) ?_
  rcases ab_i h with ⟨c4, h⟩ | ⟨c4, h⟩
  · refine rr_icmp_ge_p (t := 75) dX3_weightOfEnough_18 (by decide) c4 ?_
    refine rr_iload dX3_weightOfEnough_21 rfl ?_
    refine rr_iload_n dX3_weightOfEnough_23 rfl ?_
    refine rr_iconst dX3_weightOfEnough_24 (by decide) ?_
    refine rr_ixor dX3_weightOfEnough_25 ?_
    refine rr_iand dX3_weightOfEnough_26 ?_
    rcases ab_i h with ⟨c5, h⟩ | ⟨c5, h⟩
    · refine rr_if_ne_p (t := 69) dX3_weightOfEnough_27 (by decide) c5 ?_
      refine rr_aload_n dX3_weightOfEnough_30 rfl ?_
      refine rr_getr (t := 72) dX3_weightOfEnough_31 fl_3_18 (sh_69 L) ⟨(by decide), by decide⟩ rfl rfl ?_
      refine rr_iload dX3_weightOfEnough_34 rfl ?_
      obtain ⟨g6, h⟩ := ab_g h
      refine rr_bald (nz := 256) dX3_weightOfEnough_36 (sh_72 L) (by decide) rfl g6 ?_
      rcases ab_i h with ⟨c7, h⟩ | ⟨c7, h⟩
      · refine rr_if_eq_p (t := 69) dX3_weightOfEnough_37 (by decide) c7 ?_
        refine rr_iinc (ls' := [some (am_r 69), some (am_i x1), some (am_i x2), some (am_i x3), some (am_i x4), some (am_i (am_w (x5 + 1))), o6]) dX3_weightOfEnough_69 rfl (Nat.le_of_ble_eq_true rfl) rfl ?_
        refine rr_goto (t := 11) dX3_weightOfEnough_72 (by decide) ?_
        exact hk11 _ _ _ _ _ _ h _
      · refine rr_if_eq_n (t := 69) dX3_weightOfEnough_37 (by decide) c7 ?_
        refine rr_iload dX3_weightOfEnough_40 rfl ?_
        obtain ⟨r9, σ10, e8, h⟩ := ab_2 h
        refine rr_Si (as := [am_i x5]) (rest := []) dX3_weightOfEnough_42 ml_3_69 (Or.inl rfl) rfl rfl (Nat.le_of_ble_eq_true rfl) ⟨rfl, rfl⟩ (Nat.le_of_ble_eq_true rfl) (fun _ k => t_J6_bitCount_0f7a4 (by omega) e8 k) ?_
        refine rr_istore (ls' := [some (am_r 69), some (am_i x1), some (am_i x2), some (am_i x3), some (am_i x4), some (am_i x5), some (am_i r9)]) dX3_weightOfEnough_45 (Nat.le_of_ble_eq_true rfl) rfl ?_
        refine rr_iload_n dX3_weightOfEnough_47 rfl ?_
        refine rr_bipush dX3_weightOfEnough_48 (by decide) ?_
        refine rr_iload_n dX3_weightOfEnough_50 rfl ?_
        refine rr_isub dX3_weightOfEnough_51 ?_
        refine rr_iload dX3_weightOfEnough_52 rfl ?_
        obtain ⟨r12, σ13, e11, h⟩ := ab_2 h
        refine rr_Si (as := [am_i (am_w (10 - x2)), am_i r9]) (rest := [am_i x3]) dX3_weightOfEnough_54 ml_3_75 (Or.inr rfl) rfl rfl (Nat.le_of_ble_eq_true rfl) ⟨rfl, rfl⟩ (Nat.le_of_ble_eq_true rfl) (fun _ k => t_X6_power (by omega) e11 k) ?_
        refine rr_iload_n dX3_weightOfEnough_57 rfl ?_
        refine rr_iload dX3_weightOfEnough_58 rfl ?_
        refine rr_iload dX3_weightOfEnough_60 rfl ?_
        refine rr_isub dX3_weightOfEnough_62 ?_
        obtain ⟨r15, σ16, e14, h⟩ := ab_2 h
        refine rr_Si (as := [am_i x2, am_i (am_w (x4 - r9))]) (rest := [am_i r12, am_i x3]) dX3_weightOfEnough_63 ml_3_75 (Or.inr rfl) rfl rfl (Nat.le_of_ble_eq_true rfl) ⟨rfl, rfl⟩ (Nat.le_of_ble_eq_true rfl) (fun _ k => t_X6_power (by omega) e14 k) ?_
        refine rr_imul dX3_weightOfEnough_66 ?_
        refine rr_iadd dX3_weightOfEnough_67 ?_
        refine rr_istore_n (ls' := [some (am_r 69), some (am_i x1), some (am_i x2), some (am_i (am_w (x3 + (am_w (r12 * r15))))), some (am_i x4), some (am_i x5), some (am_i r9)]) dX3_weightOfEnough_68 (Nat.le_of_ble_eq_true rfl) rfl ?_
        refine rr_iinc (ls' := [some (am_r 69), some (am_i x1), some (am_i x2), some (am_i (am_w (x3 + (am_w (r12 * r15))))), some (am_i x4), some (am_i (am_w (x5 + 1))), some (am_i r9)]) dX3_weightOfEnough_69 rfl (Nat.le_of_ble_eq_true rfl) rfl ?_
        refine rr_goto (t := 11) dX3_weightOfEnough_72 (by decide) ?_
        exact hk11 _ _ _ _ _ _ h _
    · refine rr_if_ne_n (t := 69) dX3_weightOfEnough_27 (by decide) c5 ?_
      refine rr_iinc (ls' := [some (am_r 69), some (am_i x1), some (am_i x2), some (am_i x3), some (am_i x4), some (am_i (am_w (x5 + 1))), o6]) dX3_weightOfEnough_69 rfl (Nat.le_of_ble_eq_true rfl) rfl ?_
      refine rr_goto (t := 11) dX3_weightOfEnough_72 (by decide) ?_
      exact hk11 _ _ _ _ _ _ h _
  · refine rr_icmp_ge_n (t := 75) dX3_weightOfEnough_18 (by decide) c4 ?_
    refine rr_iload_n dX3_weightOfEnough_75 rfl ?_
    obtain ⟨rfl, rfl⟩ := ab_r2 h
    exact rr_iret dX3_weightOfEnough_76 rfl hQ
theorem tl_X3_weightOfEnough_11 {L n d : Nat} {Q : am_Post} {σr : am_Mem} {rr : Int} (hd : 1 ≤ d) (hQ : Q (some (am_i rr)) (rm_h L σr)) : ∀ (m : Nat) (x1 : Int) (x2 : Int) (x3 : Int) (x4 : Int) (x5 : Int) (σ : am_Mem) (o6 : Option am_V), fl_X3_weightOfEnough_11 n m x1 x2 x3 x4 x5 σ = some (rr, σr) → xs_AW (xs_aw d) me_X3_weightOfEnough Q 11 [some (am_r 69), some (am_i x1), some (am_i x2), some (am_i x3), some (am_i x4), some (am_i x5), o6] [] (rm_h L σ) := by
  intro m
  induction m with
  | zero => intro x1 x2 x3 x4 x5 σ o6 h; cases h
  | succ m ih =>
    intro x1 x2 x3 x4 x5 σ o6 h
    exact tb_X3_weightOfEnough_11 hd (fun x1 x2 x3 x4 x5 σ h o6 => ih x1 x2 x3 x4 x5 σ o6 h) hQ h
theorem t_X3_weightOfEnough {L n d : Nat} {Q : am_Post} {p1 : Int} {p2 : Int} {σ σr : am_Mem} {rr : Int} (hd : 1 < d) (h : f_X3_weightOfEnough n p1 p2 σ = some (rr, σr)) (hQ : Q (some (am_i rr)) (rm_h L σr)) : xs_aw d me_X3_weightOfEnough [am_r 69, am_i p1, am_i p2] (rm_h L σ) Q := by
  obtain ⟨d, rfl⟩ : ∃ k, d = k + 1 := ⟨d - 1, by omega⟩
  have hd : 1 ≤ d := by omega
  unfold f_X3_weightOfEnough at h
  show xs_AW (xs_aw d) me_X3_weightOfEnough Q 0 [some (am_r 69), some (am_i p1), some (am_i p2), none, none, none, none] [] (rm_h L σ)
  refine rr_iconst dX3_weightOfEnough_0 (by decide) ?_
  refine rr_istore_n (ls' := [some (am_r 69), some (am_i p1), some (am_i p2), some (am_i 0), none, none, none]) dX3_weightOfEnough_1 (Nat.le_of_ble_eq_true rfl) rfl ?_
  refine rr_iload_n dX3_weightOfEnough_2 rfl ?_
  obtain ⟨r2, σ3, e1, h⟩ := ab_2 h
  refine rr_Si (as := [am_i p1]) (rest := []) dX3_weightOfEnough_3 ml_3_69 (Or.inl rfl) rfl rfl (Nat.le_of_ble_eq_true rfl) ⟨rfl, rfl⟩ (Nat.le_of_ble_eq_true rfl) (fun _ k => t_J6_bitCount_0f7a4 (by omega) e1 k) ?_
  refine rr_istore (ls' := [some (am_r 69), some (am_i p1), some (am_i p2), some (am_i 0), some (am_i r2), none, none]) dX3_weightOfEnough_6 (Nat.le_of_ble_eq_true rfl) rfl ?_
  refine rr_iconst dX3_weightOfEnough_8 (by decide) ?_
  refine rr_istore (ls' := [some (am_r 69), some (am_i p1), some (am_i p2), some (am_i 0), some (am_i r2), some (am_i 0), none]) dX3_weightOfEnough_9 (Nat.le_of_ble_eq_true rfl) rfl ?_
  exact tl_X3_weightOfEnough_11 hd hQ n _ _ _ _ _ _ _ h
theorem ub_X3_weightOfEnough_11 {n : Nat} {kh11 : Int → Int → Int → Int → Int → am_Mem → Option (Int × am_Mem)} {x1 : Int} {x2 : Int} {x3 : Int} {x4 : Int} {x5 : Int} {σ σr : am_Mem} {rr : Int} (hk11 : ∀ (y1 : Int) (y2 : Int) (y3 : Int) (y4 : Int) (y5 : Int) (σ : am_Mem), kh11 y1 y2 y3 y4 y5 σ = some (rr, σr) → σr = σ) (h : fb_X3_weightOfEnough_11 n kh11 x1 x2 x3 x4 x5 σ = some (rr, σr)) : σr = σ := by
  unfold fb_X3_weightOfEnough_11 at h
  have fr : σ = σ := rfl
  rcases ab_i h with ⟨c4, h⟩ | ⟨c4, h⟩
  · rcases ab_i h with ⟨c5, h⟩ | ⟨c5, h⟩
    · obtain ⟨g6, h⟩ := ab_g h
      rcases ab_i h with ⟨c7, h⟩ | ⟨c7, h⟩
      · exact (hk11 _ _ _ _ _ _ h).trans fr
      · obtain ⟨r9, σ10, e8, h⟩ := ab_2 h
        have fr := (u_J6_bitCount_0f7a4 e8).trans fr
        obtain ⟨r12, σ13, e11, h⟩ := ab_2 h
        have fr := (u_X6_power e11).trans fr
        obtain ⟨r15, σ16, e14, h⟩ := ab_2 h
        have fr := (u_X6_power e14).trans fr
        exact (hk11 _ _ _ _ _ _ h).trans fr
    · exact (hk11 _ _ _ _ _ _ h).trans fr
  · obtain ⟨q1, q2⟩ := ab_r2 h
    exact q2.symm.trans fr
theorem ul_X3_weightOfEnough_11 {n : Nat} {σr : am_Mem} {rr : Int} : ∀ (m : Nat) (x1 : Int) (x2 : Int) (x3 : Int) (x4 : Int) (x5 : Int) (σ : am_Mem), fl_X3_weightOfEnough_11 n m x1 x2 x3 x4 x5 σ = some (rr, σr) → σr = σ := by
  intro m
  induction m with
  | zero => intro x1 x2 x3 x4 x5 σ h; cases h
  | succ m ih =>
    intro x1 x2 x3 x4 x5 σ h
    exact ub_X3_weightOfEnough_11 (fun x1 x2 x3 x4 x5 σ h => ih x1 x2 x3 x4 x5 σ h) h
theorem u_X3_weightOfEnough {n : Nat} {p1 : Int} {p2 : Int} {σ σr : am_Mem} {rr : Int} (h : f_X3_weightOfEnough n p1 p2 σ = some (rr, σr)) : σr = σ := by
  unfold f_X3_weightOfEnough at h
  have fr : σ = σ := rfl
  obtain ⟨r2, σ3, e1, h⟩ := ab_2 h
  have fr := (u_J6_bitCount_0f7a4 e1).trans fr
  exact (ul_X3_weightOfEnough_11 n _ _ _ _ _ _ h).trans fr
/-! MoodFare$Town.goByDraw -/
def fb_X5_goByDraw_57 (n : Nat) (t : Nat) (kh57 : Int → Int → am_Mem → Option am_Mem) (x4 : Int) (x5 : Int) (σ : am_Mem) : Option am_Mem :=
  if x5 < σ t 6 then (am_b2 (f_X5_leads n t x5 σ) fun r12 σ13 => if r12 = 0 then (kh57 x4 (am_w (x5 + 1)) σ13) else (if x4 = 0 then (am_b1 (f_X5_goBy n t x5 σ13) fun σ18 => some σ18) else (kh57 (am_w (x4 + (-1))) (am_w (x5 + 1)) σ13))) else (some σ)
def fl_X5_goByDraw_57 (n : Nat) (t : Nat) : Nat → Int → Int → am_Mem → Option am_Mem
  | 0, _, _, _ => none
  | m + 1, x4, x5, σ => fb_X5_goByDraw_57 n t (fun yx4 yx5 σ => fl_X5_goByDraw_57 n t m yx4 yx5 σ) x4 x5 σ
def fb_X5_goByDraw_5 (n : Nat) (t : Nat) (kh5 : Int → Int → Int → am_Mem → Option am_Mem) (x1 : Int) (x3 : Int) (x4 : Int) (σ : am_Mem) : Option am_Mem :=
  if x4 < σ t 6 then (am_b2 (f_X5_leads n t x4 σ) fun r3 σ4 => if r3 = 0 then (kh5 x1 x3 (am_w (x4 + 1)) σ4) else (kh5 x1 (am_w (x3 + 1)) (am_w (x4 + 1)) σ4)) else (if x3 = 0 then (am_b1 (some (am_up σ t 12 (am_w ((σ t 12) + 1)))) fun σ7 => some σ7) else (if x3 ≠ 0 then fl_X5_goByDraw_57 n t n (am_w (Int.tmod x1 x3)) 0 σ else none))
def fl_X5_goByDraw_5 (n : Nat) (t : Nat) : Nat → Int → Int → Int → am_Mem → Option am_Mem
  | 0, _, _, _, _ => none
  | m + 1, x1, x3, x4, σ => fb_X5_goByDraw_5 n t (fun yx1 yx3 yx4 σ => fl_X5_goByDraw_5 n t m yx1 yx3 yx4 σ) x1 x3 x4 σ
def f_X5_goByDraw (n : Nat) (t : Nat) (p1 : Int) (σ : am_Mem) : Option am_Mem :=
  fl_X5_goByDraw_5 n t n p1 0 0 σ
theorem tb_X5_goByDraw_57 {L n d : Nat} {Q : am_Post} {t : Nat} {kh57 : Int → Int → am_Mem → Option am_Mem} {x4 : Int} {x5 : Int} {o1 : Int} {o3 : Int} {σ σr : am_Mem} (hd : 4 ≤ d) (ht : tw t) (hk57 : ∀ (y4 : Int) (y5 : Int) (σ : am_Mem), kh57 y4 y5 σ = some σr → ∀ (o1 : Int) (o3 : Int), xs_AW (xs_aw d) me_X5_goByDraw Q 57 [some (am_r t), some (am_l o1), none, some (am_i o3), some (am_i y4), some (am_i y5)] [] (rm_h L σ)) (hQ : Q none (rm_h L σr)) (h : fb_X5_goByDraw_57 n t kh57 x4 x5 σ = some σr) : xs_AW (xs_aw d) me_X5_goByDraw Q 57 [some (am_r t), some (am_l o1), none, some (am_i o3), some (am_i x4), some (am_i x5)] [] (rm_h L σ) := by
  unfold fb_X5_goByDraw_57 at h
  refine rr_iload dX5_goByDraw_57 rfl ?_
  refine rr_aload_n dX5_goByDraw_59 rfl ?_
  refine rr_geti (kz := 6) dX5_goByDraw_60 fl_5_37 (tw_sh ht L) ⟨(tw_ge ht), by decide⟩ rfl rfl ?_
  rcases ab_i h with ⟨c10, h⟩ | ⟨c10, h⟩
  · refine rr_icmp_ge_p (t := 96) dX5_goByDraw_63 (by decide) c10 ?_
    refine rr_aload_n dX5_goByDraw_66 rfl ?_
    refine rr_iload dX5_goByDraw_67 rfl ?_
    obtain ⟨r12, σ13, e11, h⟩ := ab_2 h
    refine rr_Vi (as := [am_i x5]) (rest := []) dX5_goByDraw_69 ml_5_95 (tw_sh ht L) ⟨(tw_ge ht), by decide, by decide⟩ rfl rfl rfl (Nat.le_of_ble_eq_true rfl) ⟨rfl, rfl⟩ (Nat.le_of_ble_eq_true rfl) (fun _ k => t_X5_leads (by omega) ht e11 k) ?_
    rcases ab_i h with ⟨c14, h⟩ | ⟨c14, h⟩
    · refine rr_if_eq_p (t := 90) dX5_goByDraw_72 (by decide) c14 ?_
      refine rr_iinc (ls' := [some (am_r t), some (am_l o1), none, some (am_i o3), some (am_i x4), some (am_i (am_w (x5 + 1)))]) dX5_goByDraw_90 rfl (Nat.le_of_ble_eq_true rfl) rfl ?_
      refine rr_goto (t := 57) dX5_goByDraw_93 (by decide) ?_
      exact hk57 _ _ _ h _ _
    · refine rr_if_eq_n (t := 90) dX5_goByDraw_72 (by decide) c14 ?_
      refine rr_iload dX5_goByDraw_75 rfl ?_
      rcases ab_i h with ⟨c15, h⟩ | ⟨c15, h⟩
      · refine rr_if_ne_p (t := 87) dX5_goByDraw_77 (by decide) c15 ?_
        refine rr_aload_n dX5_goByDraw_80 rfl ?_
        refine rr_iload dX5_goByDraw_81 rfl ?_
        obtain ⟨σ18, e16, h⟩ := ab_1 h
        refine rr_Vv (as := [am_i x5]) (rest := []) dX5_goByDraw_83 ml_5_98 (tw_sh ht L) ⟨(tw_ge ht), by decide, by decide⟩ rfl rfl rfl (Nat.le_of_ble_eq_true rfl) ⟨rfl, rfl⟩ (Nat.le_of_ble_eq_true rfl) (fun _ k => t_X5_goBy (by omega) ht e16 k) ?_
        obtain rfl := ab_r1 h
        exact rr_vret dX5_goByDraw_86 rfl hQ
      · refine rr_if_ne_n (t := 87) dX5_goByDraw_77 (by decide) c15 ?_
        refine rr_iinc (ls' := [some (am_r t), some (am_l o1), none, some (am_i o3), some (am_i (am_w (x4 + (-1)))), some (am_i x5)]) dX5_goByDraw_87 rfl (Nat.le_of_ble_eq_true rfl) rfl ?_
        refine rr_iinc (ls' := [some (am_r t), some (am_l o1), none, some (am_i o3), some (am_i (am_w (x4 + (-1)))), some (am_i (am_w (x5 + 1)))]) dX5_goByDraw_90 rfl (Nat.le_of_ble_eq_true rfl) rfl ?_
        refine rr_goto (t := 57) dX5_goByDraw_93 (by decide) ?_
        exact hk57 _ _ _ h _ _
  · refine rr_icmp_ge_n (t := 96) dX5_goByDraw_63 (by decide) c10 ?_
    obtain rfl := ab_r1 h
    exact rr_vret dX5_goByDraw_96 rfl hQ
theorem tl_X5_goByDraw_57 {L n d : Nat} {Q : am_Post} {t : Nat} {σr : am_Mem} (hd : 4 ≤ d) (ht : tw t) (hQ : Q none (rm_h L σr)) : ∀ (m : Nat) (x4 : Int) (x5 : Int) (σ : am_Mem) (o1 : Int) (o3 : Int), fl_X5_goByDraw_57 n t m x4 x5 σ = some σr → xs_AW (xs_aw d) me_X5_goByDraw Q 57 [some (am_r t), some (am_l o1), none, some (am_i o3), some (am_i x4), some (am_i x5)] [] (rm_h L σ) := by
  intro m
  induction m with
  | zero => intro x4 x5 σ o1 o3 h; cases h
  | succ m ih =>
    intro x4 x5 σ o1 o3 h
    exact tb_X5_goByDraw_57 hd ht (fun x4 x5 σ h o1 o3 => ih x4 x5 σ o1 o3 h) hQ h
theorem tb_X5_goByDraw_5 {L n d : Nat} {Q : am_Post} {t : Nat} {kh5 : Int → Int → Int → am_Mem → Option am_Mem} {x1 : Int} {x3 : Int} {x4 : Int} {o5 : Option am_V} {σ σr : am_Mem} (hd : 4 ≤ d) (ht : tw t) (hk5 : ∀ (y1 : Int) (y3 : Int) (y4 : Int) (σ : am_Mem), kh5 y1 y3 y4 σ = some σr → ∀ (o5 : Option am_V), xs_AW (xs_aw d) me_X5_goByDraw Q 5 [some (am_r t), some (am_l y1), none, some (am_i y3), some (am_i y4), o5] [] (rm_h L σ)) (hQ : Q none (rm_h L σr)) (h : fb_X5_goByDraw_5 n t kh5 x1 x3 x4 σ = some σr) : xs_AW (xs_aw d) me_X5_goByDraw Q 5 [some (am_r t), some (am_l x1), none, some (am_i x3), some (am_i x4), o5] [] (rm_h L σ) := by
  unfold fb_X5_goByDraw_5 at h
  refine rr_iload dX5_goByDraw_5 rfl ?_
  refine rr_aload_n dX5_goByDraw_7 rfl ?_
  refine rr_geti (kz := 6) dX5_goByDraw_8 fl_5_37 (tw_sh ht L) ⟨(tw_ge ht), by decide⟩ rfl rfl ?_
  rcases ab_i h with ⟨c1, h⟩ | ⟨c1, h⟩
  · refine rr_icmp_ge_p (t := 32) dX5_goByDraw_11 (by decide) c1 ?_
    refine rr_aload_n dX5_goByDraw_14 rfl ?_
    refine rr_iload dX5_goByDraw_15 rfl ?_
    obtain ⟨r3, σ4, e2, h⟩ := ab_2 h
    refine rr_Vi (as := [am_i x4]) (rest := []) dX5_goByDraw_17 ml_5_95 (tw_sh ht L) ⟨(tw_ge ht), by decide, by decide⟩ rfl rfl rfl (Nat.le_of_ble_eq_true rfl) ⟨rfl, rfl⟩ (Nat.le_of_ble_eq_true rfl) (fun _ k => t_X5_leads (by omega) ht e2 k) ?_
    rcases ab_i h with ⟨c5, h⟩ | ⟨c5, h⟩
    · refine rr_if_eq_p (t := 26) dX5_goByDraw_20 (by decide) c5 ?_
      refine rr_iinc (ls' := [some (am_r t), some (am_l x1), none, some (am_i x3), some (am_i (am_w (x4 + 1))), o5]) dX5_goByDraw_26 rfl (Nat.le_of_ble_eq_true rfl) rfl ?_
      refine rr_goto (t := 5) dX5_goByDraw_29 (by decide) ?_
      exact hk5 _ _ _ _ h _
    · refine rr_if_eq_n (t := 26) dX5_goByDraw_20 (by decide) c5 ?_
      refine rr_iinc (ls' := [some (am_r t), some (am_l x1), none, some (am_i (am_w (x3 + 1))), some (am_i x4), o5]) dX5_goByDraw_23 rfl (Nat.le_of_ble_eq_true rfl) rfl ?_
      refine rr_iinc (ls' := [some (am_r t), some (am_l x1), none, some (am_i (am_w (x3 + 1))), some (am_i (am_w (x4 + 1))), o5]) dX5_goByDraw_26 rfl (Nat.le_of_ble_eq_true rfl) rfl ?_
      refine rr_goto (t := 5) dX5_goByDraw_29 (by decide) ?_
      exact hk5 _ _ _ _ h _
  · refine rr_icmp_ge_n (t := 32) dX5_goByDraw_11 (by decide) c1 ?_
    refine rr_iload_n dX5_goByDraw_32 rfl ?_
    rcases ab_i h with ⟨c6, h⟩ | ⟨c6, h⟩
    · refine rr_if_ne_p (t := 47) dX5_goByDraw_33 (by decide) c6 ?_
      refine rr_aload_n dX5_goByDraw_36 rfl ?_
      refine rr_dup dX5_goByDraw_37 rfl ?_
      refine rr_geti (kz := 12) dX5_goByDraw_38 fl_5_55 (tw_sh ht L) ⟨(tw_ge ht), by decide⟩ rfl rfl ?_
      refine rr_iconst dX5_goByDraw_41 (by decide) ?_
      refine rr_iadd dX5_goByDraw_42 ?_
      obtain ⟨σ7, e8, h⟩ := ab_1 h
      refine rr_puti (kz := 12) dX5_goByDraw_43 fl_5_55 (tw_sh ht L) ⟨(tw_ge ht), by decide⟩ ⟨rfl, rfl⟩ rfl (ab_m e8 ?_)
      obtain rfl := ab_r1 h
      exact rr_vret dX5_goByDraw_46 rfl hQ
    · refine rr_if_ne_n (t := 47) dX5_goByDraw_33 (by decide) c6 ?_
      refine rr_lload_n dX5_goByDraw_47 rfl ?_
      refine rr_iload_n dX5_goByDraw_48 rfl ?_
      refine rr_i2l dX5_goByDraw_49 ?_
      obtain ⟨g9, h⟩ := ab_g h
      refine rr_lrem dX5_goByDraw_50 g9 ?_
      refine rr_l2i dX5_goByDraw_51 ?_
      refine rr_istore (ls' := [some (am_r t), some (am_l x1), none, some (am_i x3), some (am_i (am_w (Int.tmod x1 x3))), o5]) dX5_goByDraw_52 (Nat.le_of_ble_eq_true rfl) rfl ?_
      refine rr_iconst dX5_goByDraw_54 (by decide) ?_
      refine rr_istore (ls' := [some (am_r t), some (am_l x1), none, some (am_i x3), some (am_i (am_w (Int.tmod x1 x3))), some (am_i 0)]) dX5_goByDraw_55 (Nat.le_of_ble_eq_true rfl) rfl ?_
      exact tl_X5_goByDraw_57 hd ht hQ n _ _ _ _ _ h
theorem tl_X5_goByDraw_5 {L n d : Nat} {Q : am_Post} {t : Nat} {σr : am_Mem} (hd : 4 ≤ d) (ht : tw t) (hQ : Q none (rm_h L σr)) : ∀ (m : Nat) (x1 : Int) (x3 : Int) (x4 : Int) (σ : am_Mem) (o5 : Option am_V), fl_X5_goByDraw_5 n t m x1 x3 x4 σ = some σr → xs_AW (xs_aw d) me_X5_goByDraw Q 5 [some (am_r t), some (am_l x1), none, some (am_i x3), some (am_i x4), o5] [] (rm_h L σ) := by
  intro m
  induction m with
  | zero => intro x1 x3 x4 σ o5 h; cases h
  | succ m ih =>
    intro x1 x3 x4 σ o5 h
    exact tb_X5_goByDraw_5 hd ht (fun x1 x3 x4 σ h o5 => ih x1 x3 x4 σ o5 h) hQ h
theorem t_X5_goByDraw {L n d : Nat} {Q : am_Post} {t : Nat} {p1 : Int} {σ σr : am_Mem} (hd : 4 < d) (ht : tw t) (h : f_X5_goByDraw n t p1 σ = some σr) (hQ : Q none (rm_h L σr)) : xs_aw d me_X5_goByDraw [am_r t, am_l p1] (rm_h L σ) Q := by
  obtain ⟨d, rfl⟩ : ∃ k, d = k + 1 := ⟨d - 1, by omega⟩
  have hd : 4 ≤ d := by omega
  unfold f_X5_goByDraw at h
  show xs_AW (xs_aw d) me_X5_goByDraw Q 0 [some (am_r t), some (am_l p1), none, none, none, none] [] (rm_h L σ)
  refine rr_iconst dX5_goByDraw_0 (by decide) ?_
  refine rr_istore_n (ls' := [some (am_r t), some (am_l p1), none, some (am_i 0), none, none]) dX5_goByDraw_1 (Nat.le_of_ble_eq_true rfl) rfl ?_
  refine rr_iconst dX5_goByDraw_2 (by decide) ?_
  refine rr_istore (ls' := [some (am_r t), some (am_l p1), none, some (am_i 0), some (am_i 0), none]) dX5_goByDraw_3 (Nat.le_of_ble_eq_true rfl) rfl ?_
  exact tl_X5_goByDraw_5 hd ht hQ n _ _ _ _ _ h
def nw_X5_goByDraw (t : Nat) (a : Nat) : Prop := a ≠ t
theorem wb_X5_goByDraw_57 {n : Nat} {t : Nat} {kh57 : Int → Int → am_Mem → Option am_Mem} {x4 : Int} {x5 : Int} {σ σr : am_Mem} (hk57 : ∀ (y4 : Int) (y5 : Int) (σ : am_Mem), kh57 y4 y5 σ = some σr → ∀ a : Nat, nw_X5_goByDraw t a → σr a = σ a) (h : fb_X5_goByDraw_57 n t kh57 x4 x5 σ = some σr) : ∀ a : Nat, nw_X5_goByDraw t a → σr a = σ a := by
  unfold fb_X5_goByDraw_57 at h
  have fr : ∀ a : Nat, nw_X5_goByDraw t a → σ a = σ a := fun _ _ => rfl
  rcases ab_i h with ⟨c10, h⟩ | ⟨c10, h⟩
  · obtain ⟨r12, σ13, e11, h⟩ := ab_2 h
    have fr := fun (a : Nat) (ha : nw_X5_goByDraw t a) => (congrFun (u_X5_leads e11) a).trans (fr a ha)
    rcases ab_i h with ⟨c14, h⟩ | ⟨c14, h⟩
    · exact fun a ha => (hk57 _ _ _ h a ha).trans (fr a ha)
    · rcases ab_i h with ⟨c15, h⟩ | ⟨c15, h⟩
      · obtain ⟨σ18, e16, h⟩ := ab_1 h
        have fr := fun (a : Nat) (ha : nw_X5_goByDraw t a) => (w_X5_goBy e16 a (by unfold nw_X5_goByDraw at ha; unfold nw_X5_goBy; omega)).trans (fr a ha)
        have q2 := ab_r1 h
        exact fun a ha => (congrFun q2.symm a).trans (fr a ha)
      · exact fun a ha => (hk57 _ _ _ h a ha).trans (fr a ha)
  · have q2 := ab_r1 h
    exact fun a ha => (congrFun q2.symm a).trans (fr a ha)
theorem wl_X5_goByDraw_57 {n : Nat} {t : Nat} {σr : am_Mem} : ∀ (m : Nat) (x4 : Int) (x5 : Int) (σ : am_Mem), fl_X5_goByDraw_57 n t m x4 x5 σ = some σr → ∀ a : Nat, nw_X5_goByDraw t a → σr a = σ a := by
  intro m
  induction m with
  | zero => intro x4 x5 σ h; cases h
  | succ m ih =>
    intro x4 x5 σ h
    exact wb_X5_goByDraw_57 (fun x4 x5 σ h => ih x4 x5 σ h) h
theorem wb_X5_goByDraw_5 {n : Nat} {t : Nat} {kh5 : Int → Int → Int → am_Mem → Option am_Mem} {x1 : Int} {x3 : Int} {x4 : Int} {σ σr : am_Mem} (hk5 : ∀ (y1 : Int) (y3 : Int) (y4 : Int) (σ : am_Mem), kh5 y1 y3 y4 σ = some σr → ∀ a : Nat, nw_X5_goByDraw t a → σr a = σ a) (h : fb_X5_goByDraw_5 n t kh5 x1 x3 x4 σ = some σr) : ∀ a : Nat, nw_X5_goByDraw t a → σr a = σ a := by
  unfold fb_X5_goByDraw_5 at h
  have fr : ∀ a : Nat, nw_X5_goByDraw t a → σ a = σ a := fun _ _ => rfl
  rcases ab_i h with ⟨c1, h⟩ | ⟨c1, h⟩
  · obtain ⟨r3, σ4, e2, h⟩ := ab_2 h
    have fr := fun (a : Nat) (ha : nw_X5_goByDraw t a) => (congrFun (u_X5_leads e2) a).trans (fr a ha)
    rcases ab_i h with ⟨c5, h⟩ | ⟨c5, h⟩
    · exact fun a ha => (hk5 _ _ _ _ h a ha).trans (fr a ha)
    · exact fun a ha => (hk5 _ _ _ _ h a ha).trans (fr a ha)
  · rcases ab_i h with ⟨c6, h⟩ | ⟨c6, h⟩
    · obtain ⟨σ7, e8, h⟩ := ab_1 h
      have fr := fun (a : Nat) (ha : nw_X5_goByDraw t a) => (ab_fu e8 (show a ≠ t by unfold nw_X5_goByDraw at ha; omega)).trans (fr a ha)
      have q2 := ab_r1 h
      exact fun a ha => (congrFun q2.symm a).trans (fr a ha)
    · obtain ⟨g9, h⟩ := ab_g h
      exact fun a ha => (wl_X5_goByDraw_57 n _ _ _ h a ha).trans (fr a ha)
theorem wl_X5_goByDraw_5 {n : Nat} {t : Nat} {σr : am_Mem} : ∀ (m : Nat) (x1 : Int) (x3 : Int) (x4 : Int) (σ : am_Mem), fl_X5_goByDraw_5 n t m x1 x3 x4 σ = some σr → ∀ a : Nat, nw_X5_goByDraw t a → σr a = σ a := by
  intro m
  induction m with
  | zero => intro x1 x3 x4 σ h; cases h
  | succ m ih =>
    intro x1 x3 x4 σ h
    exact wb_X5_goByDraw_5 (fun x1 x3 x4 σ h => ih x1 x3 x4 σ h) h
theorem w_X5_goByDraw {n : Nat} {t : Nat} {p1 : Int} {σ σr : am_Mem} (h : f_X5_goByDraw n t p1 σ = some σr) : ∀ a : Nat, nw_X5_goByDraw t a → σr a = σ a := by
  unfold f_X5_goByDraw at h
  have fr : ∀ a : Nat, nw_X5_goByDraw t a → σ a = σ a := fun _ _ => rfl
  exact fun a ha => (wl_X5_goByDraw_5 n _ _ _ _ h a ha).trans (fr a ha)
/-! MoodFare$Asker.leave -/
def f_X1_leave (n : Nat) (p1 : Int) (σ : am_Mem) : Option am_Mem :=
  if σ 73 1 < 16 then (if (0 : Int) ≤ σ 73 1 ∧ σ 73 1 < 16 then am_b1 (some (am_up σ 74 (σ 73 1) p1)) fun σ3 => am_b1 (some (am_up σ3 73 1 (am_w ((σ3 73 1) + 1)))) fun σ5 => some σ5 else none) else (some σ)
theorem t_X1_leave {L n d : Nat} {Q : am_Post} {p1 : Int} {σ σr : am_Mem} (hd : 0 < d) (h : f_X1_leave n p1 σ = some σr) (hQ : Q none (rm_h L σr)) : xs_aw d me_X1_leave [am_r 73, am_i p1] (rm_h L σ) Q := by
  obtain ⟨d, rfl⟩ : ∃ k, d = k + 1 := ⟨d - 1, by omega⟩
  have hd : 0 ≤ d := by omega
  unfold f_X1_leave at h
  show xs_AW (xs_aw d) me_X1_leave Q 0 [some (am_r 73), some (am_i p1)] [] (rm_h L σ)
  refine rr_aload_n dX1_leave_0 rfl ?_
  refine rr_geti (kz := 1) dX1_leave_1 fl_1_15 (sh_73 L) ⟨(by decide), by decide⟩ rfl rfl ?_
  refine rr_bipush dX1_leave_4 (by decide) ?_
  rcases ab_i h with ⟨c1, h⟩ | ⟨c1, h⟩
  · refine rr_icmp_ge_p (t := 29) dX1_leave_6 (by decide) c1 ?_
    refine rr_aload_n dX1_leave_9 rfl ?_
    refine rr_getr (t := 74) dX1_leave_10 fl_1_9 (sh_73 L) ⟨(by decide), by decide⟩ rfl rfl ?_
    refine rr_aload_n dX1_leave_13 rfl ?_
    refine rr_geti (kz := 1) dX1_leave_14 fl_1_15 (sh_73 L) ⟨(by decide), by decide⟩ rfl rfl ?_
    refine rr_iload_n dX1_leave_17 rfl ?_
    obtain ⟨g2, h⟩ := ab_g h
    refine rr_iast (nz := 16) dX1_leave_18 (sh_74 L) (by decide) rfl g2 ?_
    obtain ⟨σ3, e4, h⟩ := ab_1 h
    refine ab_m e4 ?_
    refine rr_aload_n dX1_leave_19 rfl ?_
    refine rr_dup dX1_leave_20 rfl ?_
    refine rr_geti (kz := 1) dX1_leave_21 fl_1_15 (sh_73 L) ⟨(by decide), by decide⟩ rfl rfl ?_
    refine rr_iconst dX1_leave_24 (by decide) ?_
    refine rr_iadd dX1_leave_25 ?_
    obtain ⟨σ5, e6, h⟩ := ab_1 h
    refine rr_puti (kz := 1) dX1_leave_26 fl_1_15 (sh_73 L) ⟨(by decide), by decide⟩ ⟨rfl, rfl⟩ rfl (ab_m e6 ?_)
    obtain rfl := ab_r1 h
    exact rr_vret dX1_leave_29 rfl hQ
  · refine rr_icmp_ge_n (t := 29) dX1_leave_6 (by decide) c1 ?_
    obtain rfl := ab_r1 h
    exact rr_vret dX1_leave_29 rfl hQ
def nw_X1_leave (a : Nat) : Prop := a ≠ 73 ∧ a ≠ 74
theorem w_X1_leave {n : Nat} {p1 : Int} {σ σr : am_Mem} (h : f_X1_leave n p1 σ = some σr) : ∀ a : Nat, nw_X1_leave a → σr a = σ a := by
  unfold f_X1_leave at h
  have fr : ∀ a : Nat, nw_X1_leave a → σ a = σ a := fun _ _ => rfl
  rcases ab_i h with ⟨c1, h⟩ | ⟨c1, h⟩
  · obtain ⟨g2, h⟩ := ab_g h
    obtain ⟨σ3, e4, h⟩ := ab_1 h
    have fr := fun (a : Nat) (ha : nw_X1_leave a) => (ab_fu e4 (show a ≠ 74 by unfold nw_X1_leave at ha; omega)).trans (fr a ha)
    obtain ⟨σ5, e6, h⟩ := ab_1 h
    have fr := fun (a : Nat) (ha : nw_X1_leave a) => (ab_fu e6 (show a ≠ 73 by unfold nw_X1_leave at ha; omega)).trans (fr a ha)
    have q2 := ab_r1 h
    exact fun a ha => (congrFun q2.symm a).trans (fr a ha)
  · have q2 := ab_r1 h
    exact fun a ha => (congrFun q2.symm a).trans (fr a ha)
/-! MoodFare$Asker.gives -/
def fe_X1_gives (rc : Int → Nat → Int → Int → am_Mem → Option (Int × am_Mem)) (n : Nat) (p1 : Int) (p2 : Nat) (p3 : Int) (p4 : Int) (σ : am_Mem) : Option (Int × am_Mem) :=
  if p4 < 16 then (am_b1 (f_X1_leave n p1 σ) fun σ4 => if (0 : Int) ≤ p3 ∧ p3 < 6 then if p1 = 10 then (some (σ4 (p2 + 3) p3, σ4)) else (if p1 = 11 then (am_b2 (rc 10 p2 p3 (am_w (p4 + 1)) σ4) fun r9 σ10 => if (0 : Int) ≤ σ4 (p2 + 1) p3 ∧ σ4 (p2 + 1) p3 < 6 then am_b2 (rc (σ10 2 (σ4 (p2 + 1) p3)) p2 p3 (am_w (p4 + 1)) σ10) fun r13 σ14 => some (am_w (r9 + r13), σ14) else none) else (if p1 = 12 then (am_b2 (rc 11 p2 p3 (am_w (p4 + 1)) σ4) fun r17 σ18 => some (am_w (-r17), σ18)) else (if p1 = 13 then (am_b2 (rc 10 p2 p3 (am_w (p4 + 1)) σ4) fun r21 σ22 => some (am_w (r21 - 100), σ22)) else (if p1 = 14 then (am_b2 (rc 13 p2 p3 (am_w (p4 + 1)) σ4) fun r25 σ26 => some (am_w (2 * r25), σ26)) else (if p1 = 15 then (some (0, σ4)) else (if p1 = 16 then (some (0, σ4)) else (if p1 = 17 then (some (0, σ4)) else (if p1 = 18 then (some (0, σ4)) else (if p1 = 19 then (some (0, σ4)) else (if p1 = 20 then (some (p3, σ4)) else (if p1 = 21 then (am_b2 (rc 20 p2 p3 (am_w (p4 + 1)) σ4) fun r35 σ36 => some (am_w (r35 + (σ36 (p2 + 2) p3)), σ36)) else (if p1 = 22 then (am_b2 (rc 21 p2 p3 (am_w (p4 + 1)) σ4) fun r39 σ40 => some (am_w (r39 - 1000), σ40)) else (if p1 = 23 then (am_b2 (rc 20 p2 p3 (am_w (p4 + 1)) σ4) fun r43 σ44 => if (0 : Int) ≤ σ4 (p2 + 1) p3 ∧ σ4 (p2 + 1) p3 < 6 then am_b2 (rc (σ44 1 (σ4 (p2 + 1) p3)) p2 p3 (am_w (p4 + 1)) σ44) fun r47 σ48 => some (am_w (r43 - r47), σ48) else none) else (if p1 = 24 then (am_b2 (rc 21 p2 p3 (am_w (p4 + 1)) σ4) fun r51 σ52 => some (am_w (2 * r51), σ52)) else (some (0, σ4)))))))))))))))) else none) else (some (0, σ))
def f_X1_gives (n : Nat) : Nat → Int → Nat → Int → Int → am_Mem → Option (Int × am_Mem)
  | 0, _, _, _, _, _ => none
  | r + 1, p1, p2, p3, p4, σ => fe_X1_gives (fun p1 p2 p3 p4 σ => f_X1_gives n r p1 p2 p3 p4 σ) n p1 p2 p3 p4 σ
theorem te_X1_gives {L n d : Nat} {Q : am_Post} {rc : Int → Nat → Int → Int → am_Mem → Option (Int × am_Mem)} {p2 : Nat} {p1 : Int} {p3 : Int} {p4 : Int} {σ σr : am_Mem} {rr : Int} (hd : 1 ≤ d) (hrc : ∀ (a0 : Int) (a1 : Nat) (a2 : Int) (a3 : Int) (σ σr : am_Mem) (rr : Int) (Q : am_Post), tw a1 → rc a0 a1 a2 a3 σ = some (rr, σr) → Q (some (am_i rr)) (rm_h L σr) → xs_aw d me_X1_gives [am_r 73, am_i a0, am_r a1, am_i a2, am_i a3] (rm_h L σ) Q) (ht_p2 : tw p2) (h : fe_X1_gives rc n p1 p2 p3 p4 σ = some (rr, σr)) (hQ : Q (some (am_i rr)) (rm_h L σr)) : xs_aw (d + 1) me_X1_gives [am_r 73, am_i p1, am_r p2, am_i p3, am_i p4] (rm_h L σ) Q := by
  unfold fe_X1_gives at h
  show xs_AW (xs_aw d) me_X1_gives Q 0 [some (am_r 73), some (am_i p1), some (am_r p2), some (am_i p3), some (am_i p4), none, none] [] (rm_h L σ)
  refine rr_iload dX1_gives_0 rfl ?_
  refine rr_bipush dX1_gives_2 (by decide) ?_
  rcases ab_i h with ⟨c1, h⟩ | ⟨c1, h⟩
  · refine rr_icmp_lt_p (t := 9) dX1_gives_4 (by decide) c1 ?_
    refine rr_aload_n dX1_gives_9 rfl ?_
    refine rr_iload_n dX1_gives_10 rfl ?_
    obtain ⟨σ4, e2, h⟩ := ab_1 h
    refine rr_Vv (as := [am_i p1]) (rest := []) dX1_gives_11 ml_1_34 (sh_73 L) ⟨(by decide), by decide, by decide⟩ rfl rfl rfl (Nat.le_of_ble_eq_true rfl) ⟨rfl, rfl⟩ (Nat.le_of_ble_eq_true rfl) (fun _ k => t_X1_leave (by omega) e2 k) ?_
    refine rr_iload dX1_gives_14 rfl ?_
    refine rr_iconst dX1_gives_16 (by decide) ?_
    refine rr_iadd dX1_gives_17 ?_
    refine rr_istore (ls' := [some (am_r 73), some (am_i p1), some (am_r p2), some (am_i p3), some (am_i p4), some (am_i (am_w (p4 + 1))), none]) dX1_gives_18 (Nat.le_of_ble_eq_true rfl) rfl ?_
    refine rr_aload_n dX1_gives_20 rfl ?_
    refine rr_getr (t := (p2 + 1)) dX1_gives_21 fl_1_19 (tw_sh ht_p2 L) ⟨(tw_ge ht_p2), by decide⟩ rfl rfl ?_
    refine rr_iload_n dX1_gives_24 rfl ?_
    obtain ⟨g5, h⟩ := ab_g h
    refine rr_iald (nz := 6) dX1_gives_25 (tw_a1 ht_p2 L) rfl g5 ?_
    refine rr_istore (ls' := [some (am_r 73), some (am_i p1), some (am_r p2), some (am_i p3), some (am_i p4), some (am_i (am_w (p4 + 1))), some (am_i (σ4 (p2 + 1) p3))]) dX1_gives_26 (Nat.le_of_ble_eq_true rfl) rfl ?_
    refine rr_iload_n dX1_gives_28 rfl ?_
    rcases ab_i h with ⟨c6, h⟩ | ⟨c6, h⟩
    · refine rr_tsw_in (off := 75) (t := 104) dX1_gives_29 (by omega) (by rw [c6]; rfl) (by decide) ?_
      refine rr_aload_n dX1_gives_104 rfl ?_
      refine rr_getr (t := (p2 + 3)) dX1_gives_105 fl_1_38 (tw_sh ht_p2 L) ⟨(tw_ge ht_p2), by decide⟩ rfl rfl ?_
      refine rr_iload_n dX1_gives_108 rfl ?_
      refine rr_iald (nz := 6) dX1_gives_109 (tw_a3 ht_p2 L) rfl g5 ?_
      obtain ⟨rfl, rfl⟩ := ab_r2 h
      exact rr_iret dX1_gives_110 rfl hQ
    rcases ab_i h with ⟨c7, h⟩ | ⟨c7, h⟩
    · refine rr_tsw_in (off := 82) (t := 111) dX1_gives_29 (by omega) (by rw [c7]; rfl) (by decide) ?_
      refine rr_aload_n dX1_gives_111 rfl ?_
      refine rr_bipush dX1_gives_112 (by decide) ?_
      refine rr_aload_n dX1_gives_114 rfl ?_
      refine rr_iload_n dX1_gives_115 rfl ?_
      refine rr_iload dX1_gives_116 rfl ?_
      obtain ⟨r9, σ10, e8, h⟩ := ab_2 h
      refine rr_Vi (as := [am_i 10, am_r p2, am_i p3, am_i (am_w (p4 + 1))]) (rest := []) dX1_gives_118 ml_1_30 (sh_73 L) ⟨(by decide), by decide, by decide⟩ rfl rfl rfl (Nat.le_of_ble_eq_true rfl) ⟨rfl, rfl⟩ (Nat.le_of_ble_eq_true rfl) (fun _ k => hrc _ _ _ _ _ _ _ _ ht_p2 e8 k) ?_
      refine rr_aload_n dX1_gives_121 rfl ?_
      refine rr_gst dX1_gives_122 gs_1_27 (by decide) ?_
      refine rr_iload dX1_gives_125 rfl ?_
      obtain ⟨g11, h⟩ := ab_g h
      refine rr_iald (nz := 6) dX1_gives_127 (sh_2 L) rfl g11 ?_
      refine rr_aload_n dX1_gives_128 rfl ?_
      refine rr_iload_n dX1_gives_129 rfl ?_
      refine rr_iload dX1_gives_130 rfl ?_
      obtain ⟨r13, σ14, e12, h⟩ := ab_2 h
      refine rr_Vi (as := [am_i (σ10 2 (σ4 (p2 + 1) p3)), am_r p2, am_i p3, am_i (am_w (p4 + 1))]) (rest := [am_i r9]) dX1_gives_132 ml_1_30 (sh_73 L) ⟨(by decide), by decide, by decide⟩ rfl rfl rfl (Nat.le_of_ble_eq_true rfl) ⟨rfl, rfl⟩ (Nat.le_of_ble_eq_true rfl) (fun _ k => hrc _ _ _ _ _ _ _ _ ht_p2 e12 k) ?_
      refine rr_iadd dX1_gives_135 ?_
      obtain ⟨rfl, rfl⟩ := ab_r2 h
      exact rr_iret dX1_gives_136 rfl hQ
    rcases ab_i h with ⟨c15, h⟩ | ⟨c15, h⟩
    · refine rr_tsw_in (off := 108) (t := 137) dX1_gives_29 (by omega) (by rw [c15]; rfl) (by decide) ?_
      refine rr_aload_n dX1_gives_137 rfl ?_
      refine rr_bipush dX1_gives_138 (by decide) ?_
      refine rr_aload_n dX1_gives_140 rfl ?_
      refine rr_iload_n dX1_gives_141 rfl ?_
      refine rr_iload dX1_gives_142 rfl ?_
      obtain ⟨r17, σ18, e16, h⟩ := ab_2 h
      refine rr_Vi (as := [am_i 11, am_r p2, am_i p3, am_i (am_w (p4 + 1))]) (rest := []) dX1_gives_144 ml_1_30 (sh_73 L) ⟨(by decide), by decide, by decide⟩ rfl rfl rfl (Nat.le_of_ble_eq_true rfl) ⟨rfl, rfl⟩ (Nat.le_of_ble_eq_true rfl) (fun _ k => hrc _ _ _ _ _ _ _ _ ht_p2 e16 k) ?_
      refine rr_ineg dX1_gives_147 ?_
      obtain ⟨rfl, rfl⟩ := ab_r2 h
      exact rr_iret dX1_gives_148 rfl hQ
    rcases ab_i h with ⟨c19, h⟩ | ⟨c19, h⟩
    · refine rr_tsw_in (off := 120) (t := 149) dX1_gives_29 (by omega) (by rw [c19]; rfl) (by decide) ?_
      refine rr_aload_n dX1_gives_149 rfl ?_
      refine rr_bipush dX1_gives_150 (by decide) ?_
      refine rr_aload_n dX1_gives_152 rfl ?_
      refine rr_iload_n dX1_gives_153 rfl ?_
      refine rr_iload dX1_gives_154 rfl ?_
      obtain ⟨r21, σ22, e20, h⟩ := ab_2 h
      refine rr_Vi (as := [am_i 10, am_r p2, am_i p3, am_i (am_w (p4 + 1))]) (rest := []) dX1_gives_156 ml_1_30 (sh_73 L) ⟨(by decide), by decide, by decide⟩ rfl rfl rfl (Nat.le_of_ble_eq_true rfl) ⟨rfl, rfl⟩ (Nat.le_of_ble_eq_true rfl) (fun _ k => hrc _ _ _ _ _ _ _ _ ht_p2 e20 k) ?_
      refine rr_bipush dX1_gives_159 (by decide) ?_
      refine rr_isub dX1_gives_161 ?_
      obtain ⟨rfl, rfl⟩ := ab_r2 h
      exact rr_iret dX1_gives_162 rfl hQ
    rcases ab_i h with ⟨c23, h⟩ | ⟨c23, h⟩
    · refine rr_tsw_in (off := 134) (t := 163) dX1_gives_29 (by omega) (by rw [c23]; rfl) (by decide) ?_
      refine rr_iconst dX1_gives_163 (by decide) ?_
      refine rr_aload_n dX1_gives_164 rfl ?_
      refine rr_bipush dX1_gives_165 (by decide) ?_
      refine rr_aload_n dX1_gives_167 rfl ?_
      refine rr_iload_n dX1_gives_168 rfl ?_
      refine rr_iload dX1_gives_169 rfl ?_
      obtain ⟨r25, σ26, e24, h⟩ := ab_2 h
      refine rr_Vi (as := [am_i 13, am_r p2, am_i p3, am_i (am_w (p4 + 1))]) (rest := [am_i 2]) dX1_gives_171 ml_1_30 (sh_73 L) ⟨(by decide), by decide, by decide⟩ rfl rfl rfl (Nat.le_of_ble_eq_true rfl) ⟨rfl, rfl⟩ (Nat.le_of_ble_eq_true rfl) (fun _ k => hrc _ _ _ _ _ _ _ _ ht_p2 e24 k) ?_
      refine rr_imul dX1_gives_174 ?_
      obtain ⟨rfl, rfl⟩ := ab_r2 h
      exact rr_iret dX1_gives_175 rfl hQ
    rcases ab_i h with ⟨c27, h⟩ | ⟨c27, h⟩
    · refine rr_tsw_in (off := 221) (t := 250) dX1_gives_29 (by omega) (by rw [c27]; rfl) (by decide) ?_
      refine rr_iconst dX1_gives_250 (by decide) ?_
      obtain ⟨rfl, rfl⟩ := ab_r2 h
      exact rr_iret dX1_gives_251 rfl hQ
    rcases ab_i h with ⟨c28, h⟩ | ⟨c28, h⟩
    · refine rr_tsw_in (off := 221) (t := 250) dX1_gives_29 (by omega) (by rw [c28]; rfl) (by decide) ?_
      refine rr_iconst dX1_gives_250 (by decide) ?_
      obtain ⟨rfl, rfl⟩ := ab_r2 h
      exact rr_iret dX1_gives_251 rfl hQ
    rcases ab_i h with ⟨c29, h⟩ | ⟨c29, h⟩
    · refine rr_tsw_in (off := 221) (t := 250) dX1_gives_29 (by omega) (by rw [c29]; rfl) (by decide) ?_
      refine rr_iconst dX1_gives_250 (by decide) ?_
      obtain ⟨rfl, rfl⟩ := ab_r2 h
      exact rr_iret dX1_gives_251 rfl hQ
    rcases ab_i h with ⟨c30, h⟩ | ⟨c30, h⟩
    · refine rr_tsw_in (off := 221) (t := 250) dX1_gives_29 (by omega) (by rw [c30]; rfl) (by decide) ?_
      refine rr_iconst dX1_gives_250 (by decide) ?_
      obtain ⟨rfl, rfl⟩ := ab_r2 h
      exact rr_iret dX1_gives_251 rfl hQ
    rcases ab_i h with ⟨c31, h⟩ | ⟨c31, h⟩
    · refine rr_tsw_in (off := 221) (t := 250) dX1_gives_29 (by omega) (by rw [c31]; rfl) (by decide) ?_
      refine rr_iconst dX1_gives_250 (by decide) ?_
      obtain ⟨rfl, rfl⟩ := ab_r2 h
      exact rr_iret dX1_gives_251 rfl hQ
    rcases ab_i h with ⟨c32, h⟩ | ⟨c32, h⟩
    · refine rr_tsw_in (off := 147) (t := 176) dX1_gives_29 (by omega) (by rw [c32]; rfl) (by decide) ?_
      refine rr_iload_n dX1_gives_176 rfl ?_
      obtain ⟨rfl, rfl⟩ := ab_r2 h
      exact rr_iret dX1_gives_177 rfl hQ
    rcases ab_i h with ⟨c33, h⟩ | ⟨c33, h⟩
    · refine rr_tsw_in (off := 149) (t := 178) dX1_gives_29 (by omega) (by rw [c33]; rfl) (by decide) ?_
      refine rr_aload_n dX1_gives_178 rfl ?_
      refine rr_bipush dX1_gives_179 (by decide) ?_
      refine rr_aload_n dX1_gives_181 rfl ?_
      refine rr_iload_n dX1_gives_182 rfl ?_
      refine rr_iload dX1_gives_183 rfl ?_
      obtain ⟨r35, σ36, e34, h⟩ := ab_2 h
      refine rr_Vi (as := [am_i 20, am_r p2, am_i p3, am_i (am_w (p4 + 1))]) (rest := []) dX1_gives_185 ml_1_30 (sh_73 L) ⟨(by decide), by decide, by decide⟩ rfl rfl rfl (Nat.le_of_ble_eq_true rfl) ⟨rfl, rfl⟩ (Nat.le_of_ble_eq_true rfl) (fun _ k => hrc _ _ _ _ _ _ _ _ ht_p2 e34 k) ?_
      refine rr_aload_n dX1_gives_188 rfl ?_
      refine rr_getr (t := (p2 + 2)) dX1_gives_189 fl_1_41 (tw_sh ht_p2 L) ⟨(tw_ge ht_p2), by decide⟩ rfl rfl ?_
      refine rr_iload_n dX1_gives_192 rfl ?_
      refine rr_iald (nz := 6) dX1_gives_193 (tw_a2 ht_p2 L) rfl g5 ?_
      refine rr_iadd dX1_gives_194 ?_
      obtain ⟨rfl, rfl⟩ := ab_r2 h
      exact rr_iret dX1_gives_195 rfl hQ
    rcases ab_i h with ⟨c37, h⟩ | ⟨c37, h⟩
    · refine rr_tsw_in (off := 167) (t := 196) dX1_gives_29 (by omega) (by rw [c37]; rfl) (by decide) ?_
      refine rr_aload_n dX1_gives_196 rfl ?_
      refine rr_bipush dX1_gives_197 (by decide) ?_
      refine rr_aload_n dX1_gives_199 rfl ?_
      refine rr_iload_n dX1_gives_200 rfl ?_
      refine rr_iload dX1_gives_201 rfl ?_
      obtain ⟨r39, σ40, e38, h⟩ := ab_2 h
      refine rr_Vi (as := [am_i 21, am_r p2, am_i p3, am_i (am_w (p4 + 1))]) (rest := []) dX1_gives_203 ml_1_30 (sh_73 L) ⟨(by decide), by decide, by decide⟩ rfl rfl rfl (Nat.le_of_ble_eq_true rfl) ⟨rfl, rfl⟩ (Nat.le_of_ble_eq_true rfl) (fun _ k => hrc _ _ _ _ _ _ _ _ ht_p2 e38 k) ?_
      refine rr_sipush dX1_gives_206 (by decide) ?_
      refine rr_isub dX1_gives_209 ?_
      obtain ⟨rfl, rfl⟩ := ab_r2 h
      exact rr_iret dX1_gives_210 rfl hQ
    rcases ab_i h with ⟨c41, h⟩ | ⟨c41, h⟩
    · refine rr_tsw_in (off := 182) (t := 211) dX1_gives_29 (by omega) (by rw [c41]; rfl) (by decide) ?_
      refine rr_aload_n dX1_gives_211 rfl ?_
      refine rr_bipush dX1_gives_212 (by decide) ?_
      refine rr_aload_n dX1_gives_214 rfl ?_
      refine rr_iload_n dX1_gives_215 rfl ?_
      refine rr_iload dX1_gives_216 rfl ?_
      obtain ⟨r43, σ44, e42, h⟩ := ab_2 h
      refine rr_Vi (as := [am_i 20, am_r p2, am_i p3, am_i (am_w (p4 + 1))]) (rest := []) dX1_gives_218 ml_1_30 (sh_73 L) ⟨(by decide), by decide, by decide⟩ rfl rfl rfl (Nat.le_of_ble_eq_true rfl) ⟨rfl, rfl⟩ (Nat.le_of_ble_eq_true rfl) (fun _ k => hrc _ _ _ _ _ _ _ _ ht_p2 e42 k) ?_
      refine rr_aload_n dX1_gives_221 rfl ?_
      refine rr_gst dX1_gives_222 gs_1_24 (by decide) ?_
      refine rr_iload dX1_gives_225 rfl ?_
      obtain ⟨g45, h⟩ := ab_g h
      refine rr_iald (nz := 6) dX1_gives_227 (sh_1 L) rfl g45 ?_
      refine rr_aload_n dX1_gives_228 rfl ?_
      refine rr_iload_n dX1_gives_229 rfl ?_
      refine rr_iload dX1_gives_230 rfl ?_
      obtain ⟨r47, σ48, e46, h⟩ := ab_2 h
      refine rr_Vi (as := [am_i (σ44 1 (σ4 (p2 + 1) p3)), am_r p2, am_i p3, am_i (am_w (p4 + 1))]) (rest := [am_i r43]) dX1_gives_232 ml_1_30 (sh_73 L) ⟨(by decide), by decide, by decide⟩ rfl rfl rfl (Nat.le_of_ble_eq_true rfl) ⟨rfl, rfl⟩ (Nat.le_of_ble_eq_true rfl) (fun _ k => hrc _ _ _ _ _ _ _ _ ht_p2 e46 k) ?_
      refine rr_isub dX1_gives_235 ?_
      obtain ⟨rfl, rfl⟩ := ab_r2 h
      exact rr_iret dX1_gives_236 rfl hQ
    rcases ab_i h with ⟨c49, h⟩ | ⟨c49, h⟩
    · refine rr_tsw_in (off := 208) (t := 237) dX1_gives_29 (by omega) (by rw [c49]; rfl) (by decide) ?_
      refine rr_iconst dX1_gives_237 (by decide) ?_
      refine rr_aload_n dX1_gives_238 rfl ?_
      refine rr_bipush dX1_gives_239 (by decide) ?_
      refine rr_aload_n dX1_gives_241 rfl ?_
      refine rr_iload_n dX1_gives_242 rfl ?_
      refine rr_iload dX1_gives_243 rfl ?_
      obtain ⟨r51, σ52, e50, h⟩ := ab_2 h
      refine rr_Vi (as := [am_i 21, am_r p2, am_i p3, am_i (am_w (p4 + 1))]) (rest := [am_i 2]) dX1_gives_245 ml_1_30 (sh_73 L) ⟨(by decide), by decide, by decide⟩ rfl rfl rfl (Nat.le_of_ble_eq_true rfl) ⟨rfl, rfl⟩ (Nat.le_of_ble_eq_true rfl) (fun _ k => hrc _ _ _ _ _ _ _ _ ht_p2 e50 k) ?_
      refine rr_imul dX1_gives_248 ?_
      obtain ⟨rfl, rfl⟩ := ab_r2 h
      exact rr_iret dX1_gives_249 rfl hQ
    refine rr_tsw_out (t := 250) dX1_gives_29 (by omega) (by decide) ?_
    refine rr_iconst dX1_gives_250 (by decide) ?_
    obtain ⟨rfl, rfl⟩ := ab_r2 h
    exact rr_iret dX1_gives_251 rfl hQ
  · refine rr_icmp_lt_n (t := 9) dX1_gives_4 (by decide) c1 ?_
    refine rr_iconst dX1_gives_7 (by decide) ?_
    obtain ⟨rfl, rfl⟩ := ab_r2 h
    exact rr_iret dX1_gives_8 rfl hQ
theorem t_X1_gives {L n : Nat} : ∀ (r : Nat) {d : Nat} {p1 : Int} {p2 : Nat} {p3 : Int} {p4 : Int} {σ σr : am_Mem} {rr : Int} {Q : am_Post}, 1 + r < d → tw p2 → f_X1_gives n r p1 p2 p3 p4 σ = some (rr, σr) → Q (some (am_i rr)) (rm_h L σr) → xs_aw d me_X1_gives [am_r 73, am_i p1, am_r p2, am_i p3, am_i p4] (rm_h L σ) Q := by
  intro r
  induction r with
  | zero => intro d p1 p2 p3 p4 σ σr rr Q hd ht_p2 h hQ; cases h
  | succ r ih =>
    intro d p1 p2 p3 p4 σ σr rr Q hd ht_p2 h hQ
    obtain ⟨d, rfl⟩ : ∃ k, d = k + 1 := ⟨d - 1, by omega⟩
    exact te_X1_gives (by omega) (fun _ _ _ _ σ σr rr Q g0 h hQ => ih (by omega) g0 h hQ) ht_p2 h hQ
def nw_X1_gives (p2 : Nat) (a : Nat) : Prop := a ≠ 73 ∧ a ≠ 74
theorem we_X1_gives {n : Nat} {rc : Int → Nat → Int → Int → am_Mem → Option (Int × am_Mem)} {p2 : Nat} {p1 : Int} {p3 : Int} {p4 : Int} {σ σr : am_Mem} {rr : Int} (hrc : ∀ (p1 : Int) (p2 : Nat) (p3 : Int) (p4 : Int) (σ σr : am_Mem) (rr : Int), rc p1 p2 p3 p4 σ = some (rr, σr) → ∀ a : Nat, nw_X1_gives p2 a → σr a = σ a) (h : fe_X1_gives rc n p1 p2 p3 p4 σ = some (rr, σr)) : ∀ a : Nat, nw_X1_gives p2 a → σr a = σ a := by
  unfold fe_X1_gives at h
  have fr : ∀ a : Nat, nw_X1_gives p2 a → σ a = σ a := fun _ _ => rfl
  rcases ab_i h with ⟨c1, h⟩ | ⟨c1, h⟩
  · obtain ⟨σ4, e2, h⟩ := ab_1 h
    have fr := fun (a : Nat) (ha : nw_X1_gives p2 a) => (w_X1_leave e2 a (by unfold nw_X1_gives at ha; unfold nw_X1_leave; omega)).trans (fr a ha)
    obtain ⟨g5, h⟩ := ab_g h
    rcases ab_i h with ⟨c6, h⟩ | ⟨c6, h⟩
    · obtain ⟨q1, q2⟩ := ab_r2 h
      exact fun a ha => (congrFun q2.symm a).trans (fr a ha)
    rcases ab_i h with ⟨c7, h⟩ | ⟨c7, h⟩
    · obtain ⟨r9, σ10, e8, h⟩ := ab_2 h
      have fr := fun (a : Nat) (ha : nw_X1_gives p2 a) => (hrc _ _ _ _ _ _ _ e8 a ha).trans (fr a ha)
      obtain ⟨g11, h⟩ := ab_g h
      obtain ⟨r13, σ14, e12, h⟩ := ab_2 h
      have fr := fun (a : Nat) (ha : nw_X1_gives p2 a) => (hrc _ _ _ _ _ _ _ e12 a ha).trans (fr a ha)
      obtain ⟨q1, q2⟩ := ab_r2 h
      exact fun a ha => (congrFun q2.symm a).trans (fr a ha)
    rcases ab_i h with ⟨c15, h⟩ | ⟨c15, h⟩
    · obtain ⟨r17, σ18, e16, h⟩ := ab_2 h
      have fr := fun (a : Nat) (ha : nw_X1_gives p2 a) => (hrc _ _ _ _ _ _ _ e16 a ha).trans (fr a ha)
      obtain ⟨q1, q2⟩ := ab_r2 h
      exact fun a ha => (congrFun q2.symm a).trans (fr a ha)
    rcases ab_i h with ⟨c19, h⟩ | ⟨c19, h⟩
    · obtain ⟨r21, σ22, e20, h⟩ := ab_2 h
      have fr := fun (a : Nat) (ha : nw_X1_gives p2 a) => (hrc _ _ _ _ _ _ _ e20 a ha).trans (fr a ha)
      obtain ⟨q1, q2⟩ := ab_r2 h
      exact fun a ha => (congrFun q2.symm a).trans (fr a ha)
    rcases ab_i h with ⟨c23, h⟩ | ⟨c23, h⟩
    · obtain ⟨r25, σ26, e24, h⟩ := ab_2 h
      have fr := fun (a : Nat) (ha : nw_X1_gives p2 a) => (hrc _ _ _ _ _ _ _ e24 a ha).trans (fr a ha)
      obtain ⟨q1, q2⟩ := ab_r2 h
      exact fun a ha => (congrFun q2.symm a).trans (fr a ha)
    rcases ab_i h with ⟨c27, h⟩ | ⟨c27, h⟩
    · obtain ⟨q1, q2⟩ := ab_r2 h
      exact fun a ha => (congrFun q2.symm a).trans (fr a ha)
    rcases ab_i h with ⟨c28, h⟩ | ⟨c28, h⟩
    · obtain ⟨q1, q2⟩ := ab_r2 h
      exact fun a ha => (congrFun q2.symm a).trans (fr a ha)
    rcases ab_i h with ⟨c29, h⟩ | ⟨c29, h⟩
    · obtain ⟨q1, q2⟩ := ab_r2 h
      exact fun a ha => (congrFun q2.symm a).trans (fr a ha)
    rcases ab_i h with ⟨c30, h⟩ | ⟨c30, h⟩
    · obtain ⟨q1, q2⟩ := ab_r2 h
      exact fun a ha => (congrFun q2.symm a).trans (fr a ha)
    rcases ab_i h with ⟨c31, h⟩ | ⟨c31, h⟩
    · obtain ⟨q1, q2⟩ := ab_r2 h
      exact fun a ha => (congrFun q2.symm a).trans (fr a ha)
    rcases ab_i h with ⟨c32, h⟩ | ⟨c32, h⟩
    · obtain ⟨q1, q2⟩ := ab_r2 h
      exact fun a ha => (congrFun q2.symm a).trans (fr a ha)
    rcases ab_i h with ⟨c33, h⟩ | ⟨c33, h⟩
    · obtain ⟨r35, σ36, e34, h⟩ := ab_2 h
      have fr := fun (a : Nat) (ha : nw_X1_gives p2 a) => (hrc _ _ _ _ _ _ _ e34 a ha).trans (fr a ha)
      obtain ⟨q1, q2⟩ := ab_r2 h
      exact fun a ha => (congrFun q2.symm a).trans (fr a ha)
    rcases ab_i h with ⟨c37, h⟩ | ⟨c37, h⟩
    · obtain ⟨r39, σ40, e38, h⟩ := ab_2 h
      have fr := fun (a : Nat) (ha : nw_X1_gives p2 a) => (hrc _ _ _ _ _ _ _ e38 a ha).trans (fr a ha)
      obtain ⟨q1, q2⟩ := ab_r2 h
      exact fun a ha => (congrFun q2.symm a).trans (fr a ha)
    rcases ab_i h with ⟨c41, h⟩ | ⟨c41, h⟩
    · obtain ⟨r43, σ44, e42, h⟩ := ab_2 h
      have fr := fun (a : Nat) (ha : nw_X1_gives p2 a) => (hrc _ _ _ _ _ _ _ e42 a ha).trans (fr a ha)
      obtain ⟨g45, h⟩ := ab_g h
      obtain ⟨r47, σ48, e46, h⟩ := ab_2 h
      have fr := fun (a : Nat) (ha : nw_X1_gives p2 a) => (hrc _ _ _ _ _ _ _ e46 a ha).trans (fr a ha)
      obtain ⟨q1, q2⟩ := ab_r2 h
      exact fun a ha => (congrFun q2.symm a).trans (fr a ha)
    rcases ab_i h with ⟨c49, h⟩ | ⟨c49, h⟩
    · obtain ⟨r51, σ52, e50, h⟩ := ab_2 h
      have fr := fun (a : Nat) (ha : nw_X1_gives p2 a) => (hrc _ _ _ _ _ _ _ e50 a ha).trans (fr a ha)
      obtain ⟨q1, q2⟩ := ab_r2 h
      exact fun a ha => (congrFun q2.symm a).trans (fr a ha)
    obtain ⟨q1, q2⟩ := ab_r2 h
    exact fun a ha => (congrFun q2.symm a).trans (fr a ha)
  · obtain ⟨q1, q2⟩ := ab_r2 h
    exact fun a ha => (congrFun q2.symm a).trans (fr a ha)
theorem w_X1_gives {n : Nat} : ∀ (r : Nat) {p1 : Int} {p2 : Nat} {p3 : Int} {p4 : Int} {σ σr : am_Mem} {rr : Int}, f_X1_gives n r p1 p2 p3 p4 σ = some (rr, σr) → ∀ a : Nat, nw_X1_gives p2 a → σr a = σ a := by
  intro r
  induction r with
  | zero => intro p1 p2 p3 p4 σ σr rr h; cases h
  | succ r ih =>
    intro p1 p2 p3 p4 σ σr rr h
    exact we_X1_gives (fun _ _ _ _ σ σr rr h => ih h) h
/-! MoodFare$Asker.answerOf -/
def f_X1_answerOf (n : Nat) (p1 : Nat) (p2 : Int) (p3 : Int) (σ : am_Mem) : Option (Int × am_Mem) :=
  am_b1 (some (am_up σ 73 1 0)) fun σ1 => if (0 : Int) ≤ p2 ∧ p2 < 6 then if p3 = 0 then (if (0 : Int) ≤ σ1 (p1 + 1) p2 ∧ σ1 (p1 + 1) p2 < 6 then am_b2 (f_X1_gives n 17 (σ1 1 (σ1 (p1 + 1) p2)) p1 p2 0 σ1) fun r7 σ8 => some (r7, σ8) else none) else (if (0 : Int) ≤ σ1 (p1 + 1) p2 ∧ σ1 (p1 + 1) p2 < 6 then am_b2 (f_X1_gives n 17 (σ1 2 (σ1 (p1 + 1) p2)) p1 p2 0 σ1) fun r11 σ12 => some (r11, σ12) else none) else none
theorem t_X1_answerOf {L n d : Nat} {Q : am_Post} {p1 : Nat} {p2 : Int} {p3 : Int} {σ σr : am_Mem} {rr : Int} (hd : 19 < d) (ht_p1 : tw p1) (h : f_X1_answerOf n p1 p2 p3 σ = some (rr, σr)) (hQ : Q (some (am_i rr)) (rm_h L σr)) : xs_aw d me_X1_answerOf [am_r 73, am_r p1, am_i p2, am_i p3] (rm_h L σ) Q := by
  obtain ⟨d, rfl⟩ : ∃ k, d = k + 1 := ⟨d - 1, by omega⟩
  have hd : 19 ≤ d := by omega
  unfold f_X1_answerOf at h
  show xs_AW (xs_aw d) me_X1_answerOf Q 0 [some (am_r 73), some (am_r p1), some (am_i p2), some (am_i p3), none, none] [] (rm_h L σ)
  refine rr_aload_n dX1_answerOf_0 rfl ?_
  refine rr_iconst dX1_answerOf_1 (by decide) ?_
  obtain ⟨σ1, e2, h⟩ := ab_1 h
  refine rr_puti (kz := 1) dX1_answerOf_2 fl_1_15 (sh_73 L) ⟨(by decide), by decide⟩ ⟨rfl, rfl⟩ rfl (ab_m e2 ?_)
  refine rr_aload_n dX1_answerOf_5 rfl ?_
  refine rr_getr (t := (p1 + 1)) dX1_answerOf_6 fl_1_19 (tw_sh ht_p1 L) ⟨(tw_ge ht_p1), by decide⟩ rfl rfl ?_
  refine rr_iload_n dX1_answerOf_9 rfl ?_
  obtain ⟨g3, h⟩ := ab_g h
  refine rr_iald (nz := 6) dX1_answerOf_10 (tw_a1 ht_p1 L) rfl g3 ?_
  refine rr_istore (ls' := [some (am_r 73), some (am_r p1), some (am_i p2), some (am_i p3), some (am_i (σ1 (p1 + 1) p2)), none]) dX1_answerOf_11 (Nat.le_of_ble_eq_true rfl) rfl ?_
  refine rr_iload_n dX1_answerOf_13 rfl ?_
  rcases ab_i h with ⟨c4, h⟩ | ⟨c4, h⟩
  · refine rr_if_ne_p (t := 26) dX1_answerOf_14 (by decide) c4 ?_
    refine rr_gst dX1_answerOf_17 gs_1_24 (by decide) ?_
    refine rr_iload dX1_answerOf_20 rfl ?_
    obtain ⟨g5, h⟩ := ab_g h
    refine rr_iald (nz := 6) dX1_answerOf_22 (sh_1 L) rfl g5 ?_
    refine rr_goto (t := 32) dX1_answerOf_23 (by decide) ?_
    refine rr_istore (ls' := [some (am_r 73), some (am_r p1), some (am_i p2), some (am_i p3), some (am_i (σ1 (p1 + 1) p2)), some (am_i (σ1 1 (σ1 (p1 + 1) p2)))]) dX1_answerOf_32 (Nat.le_of_ble_eq_true rfl) rfl ?_
    refine rr_aload_n dX1_answerOf_34 rfl ?_
    refine rr_iload dX1_answerOf_35 rfl ?_
    refine rr_aload_n dX1_answerOf_37 rfl ?_
    refine rr_iload_n dX1_answerOf_38 rfl ?_
    refine rr_iconst dX1_answerOf_39 (by decide) ?_
    obtain ⟨r7, σ8, e6, h⟩ := ab_2 h
    refine rr_Vi (as := [am_i (σ1 1 (σ1 (p1 + 1) p2)), am_r p1, am_i p2, am_i 0]) (rest := []) dX1_answerOf_40 ml_1_30 (sh_73 L) ⟨(by decide), by decide, by decide⟩ rfl rfl rfl (Nat.le_of_ble_eq_true rfl) ⟨rfl, rfl⟩ (Nat.le_of_ble_eq_true rfl) (fun _ k => t_X1_gives 17 (by omega) ht_p1 e6 k) ?_
    obtain ⟨rfl, rfl⟩ := ab_r2 h
    exact rr_iret dX1_answerOf_43 rfl hQ
  · refine rr_if_ne_n (t := 26) dX1_answerOf_14 (by decide) c4 ?_
    refine rr_gst dX1_answerOf_26 gs_1_27 (by decide) ?_
    refine rr_iload dX1_answerOf_29 rfl ?_
    obtain ⟨g9, h⟩ := ab_g h
    refine rr_iald (nz := 6) dX1_answerOf_31 (sh_2 L) rfl g9 ?_
    refine rr_istore (ls' := [some (am_r 73), some (am_r p1), some (am_i p2), some (am_i p3), some (am_i (σ1 (p1 + 1) p2)), some (am_i (σ1 2 (σ1 (p1 + 1) p2)))]) dX1_answerOf_32 (Nat.le_of_ble_eq_true rfl) rfl ?_
    refine rr_aload_n dX1_answerOf_34 rfl ?_
    refine rr_iload dX1_answerOf_35 rfl ?_
    refine rr_aload_n dX1_answerOf_37 rfl ?_
    refine rr_iload_n dX1_answerOf_38 rfl ?_
    refine rr_iconst dX1_answerOf_39 (by decide) ?_
    obtain ⟨r11, σ12, e10, h⟩ := ab_2 h
    refine rr_Vi (as := [am_i (σ1 2 (σ1 (p1 + 1) p2)), am_r p1, am_i p2, am_i 0]) (rest := []) dX1_answerOf_40 ml_1_30 (sh_73 L) ⟨(by decide), by decide, by decide⟩ rfl rfl rfl (Nat.le_of_ble_eq_true rfl) ⟨rfl, rfl⟩ (Nat.le_of_ble_eq_true rfl) (fun _ k => t_X1_gives 17 (by omega) ht_p1 e10 k) ?_
    obtain ⟨rfl, rfl⟩ := ab_r2 h
    exact rr_iret dX1_answerOf_43 rfl hQ
def nw_X1_answerOf (p1 : Nat) (a : Nat) : Prop := a ≠ 73 ∧ a ≠ 74
theorem w_X1_answerOf {n : Nat} {p1 : Nat} {p2 : Int} {p3 : Int} {σ σr : am_Mem} {rr : Int} (h : f_X1_answerOf n p1 p2 p3 σ = some (rr, σr)) : ∀ a : Nat, nw_X1_answerOf p1 a → σr a = σ a := by
  unfold f_X1_answerOf at h
  have fr : ∀ a : Nat, nw_X1_answerOf p1 a → σ a = σ a := fun _ _ => rfl
  obtain ⟨σ1, e2, h⟩ := ab_1 h
  have fr := fun (a : Nat) (ha : nw_X1_answerOf p1 a) => (ab_fu e2 (show a ≠ 73 by unfold nw_X1_answerOf at ha; omega)).trans (fr a ha)
  obtain ⟨g3, h⟩ := ab_g h
  rcases ab_i h with ⟨c4, h⟩ | ⟨c4, h⟩
  · obtain ⟨g5, h⟩ := ab_g h
    obtain ⟨r7, σ8, e6, h⟩ := ab_2 h
    have fr := fun (a : Nat) (ha : nw_X1_answerOf p1 a) => (w_X1_gives 17 e6 a (by unfold nw_X1_answerOf at ha; unfold nw_X1_gives; omega)).trans (fr a ha)
    obtain ⟨q1, q2⟩ := ab_r2 h
    exact fun a ha => (congrFun q2.symm a).trans (fr a ha)
  · obtain ⟨g9, h⟩ := ab_g h
    obtain ⟨r11, σ12, e10, h⟩ := ab_2 h
    have fr := fun (a : Nat) (ha : nw_X1_answerOf p1 a) => (w_X1_gives 17 e10 a (by unfold nw_X1_answerOf at ha; unfold nw_X1_gives; omega)).trans (fr a ha)
    obtain ⟨q1, q2⟩ := ab_r2 h
    exact fun a ha => (congrFun q2.symm a).trans (fr a ha)
/-! MoodFare$Rows.howMany -/
def fb_X2_howMany_4 (n : Nat) (kh4 : Int → Int → am_Mem → Option (Int × am_Mem)) (x1 : Int) (x2 : Int) (σ : am_Mem) : Option (Int × am_Mem) :=
  if x2 < 8 then (am_b2 (f_X2_isMissing n x2 σ) fun r3 σ4 => if r3 = 0 then (kh4 (am_w (x1 + 1)) (am_w (x2 + 1)) σ4) else (kh4 x1 (am_w (x2 + 1)) σ4)) else (some (x1, σ))
def fl_X2_howMany_4 (n : Nat) : Nat → Int → Int → am_Mem → Option (Int × am_Mem)
  | 0, _, _, _ => none
  | m + 1, x1, x2, σ => fb_X2_howMany_4 n (fun yx1 yx2 σ => fl_X2_howMany_4 n m yx1 yx2 σ) x1 x2 σ
def f_X2_howMany (n : Nat) (σ : am_Mem) : Option (Int × am_Mem) :=
  fl_X2_howMany_4 n n 0 0 σ
theorem tb_X2_howMany_4 {L n d : Nat} {Q : am_Post} {kh4 : Int → Int → am_Mem → Option (Int × am_Mem)} {x1 : Int} {x2 : Int} {σ σr : am_Mem} {rr : Int} (hd : 1 ≤ d) (hk4 : ∀ (y1 : Int) (y2 : Int) (σ : am_Mem), kh4 y1 y2 σ = some (rr, σr) → xs_AW (xs_aw d) me_X2_howMany Q 4 [some (am_r 4), some (am_i y1), some (am_i y2)] [] (rm_h L σ)) (hQ : Q (some (am_i rr)) (rm_h L σr)) (h : fb_X2_howMany_4 n kh4 x1 x2 σ = some (rr, σr)) : xs_AW (xs_aw d) me_X2_howMany Q 4 [some (am_r 4), some (am_i x1), some (am_i x2)] [] (rm_h L σ) := by
  unfold fb_X2_howMany_4 at h
  refine rr_iload_n dX2_howMany_4 rfl ?_
  refine rr_bipush dX2_howMany_5 (by decide) ?_
  rcases ab_i h with ⟨c1, h⟩ | ⟨c1, h⟩
  · refine rr_icmp_ge_p (t := 27) dX2_howMany_7 (by decide) c1 ?_
    refine rr_aload_n dX2_howMany_10 rfl ?_
    refine rr_iload_n dX2_howMany_11 rfl ?_
    obtain ⟨r3, σ4, e2, h⟩ := ab_2 h
    refine rr_Vi (as := [am_i x2]) (rest := []) dX2_howMany_12 ml_2_23 (sh_4 L) ⟨(by decide), by decide, by decide⟩ rfl rfl rfl (Nat.le_of_ble_eq_true rfl) ⟨rfl, rfl⟩ (Nat.le_of_ble_eq_true rfl) (fun _ k => t_X2_isMissing (by omega) e2 k) ?_
    rcases ab_i h with ⟨c5, h⟩ | ⟨c5, h⟩
    · refine rr_if_ne_p (t := 21) dX2_howMany_15 (by decide) c5 ?_
      refine rr_iinc (ls' := [some (am_r 4), some (am_i (am_w (x1 + 1))), some (am_i x2)]) dX2_howMany_18 rfl (Nat.le_of_ble_eq_true rfl) rfl ?_
      refine rr_iinc (ls' := [some (am_r 4), some (am_i (am_w (x1 + 1))), some (am_i (am_w (x2 + 1)))]) dX2_howMany_21 rfl (Nat.le_of_ble_eq_true rfl) rfl ?_
      refine rr_goto (t := 4) dX2_howMany_24 (by decide) ?_
      exact hk4 _ _ _ h
    · refine rr_if_ne_n (t := 21) dX2_howMany_15 (by decide) c5 ?_
      refine rr_iinc (ls' := [some (am_r 4), some (am_i x1), some (am_i (am_w (x2 + 1)))]) dX2_howMany_21 rfl (Nat.le_of_ble_eq_true rfl) rfl ?_
      refine rr_goto (t := 4) dX2_howMany_24 (by decide) ?_
      exact hk4 _ _ _ h
  · refine rr_icmp_ge_n (t := 27) dX2_howMany_7 (by decide) c1 ?_
    refine rr_iload_n dX2_howMany_27 rfl ?_
    obtain ⟨rfl, rfl⟩ := ab_r2 h
    exact rr_iret dX2_howMany_28 rfl hQ
theorem tl_X2_howMany_4 {L n d : Nat} {Q : am_Post} {σr : am_Mem} {rr : Int} (hd : 1 ≤ d) (hQ : Q (some (am_i rr)) (rm_h L σr)) : ∀ (m : Nat) (x1 : Int) (x2 : Int) (σ : am_Mem), fl_X2_howMany_4 n m x1 x2 σ = some (rr, σr) → xs_AW (xs_aw d) me_X2_howMany Q 4 [some (am_r 4), some (am_i x1), some (am_i x2)] [] (rm_h L σ) := by
  intro m
  induction m with
  | zero => intro x1 x2 σ h; cases h
  | succ m ih =>
    intro x1 x2 σ h
    exact tb_X2_howMany_4 hd (fun x1 x2 σ h => ih x1 x2 σ h) hQ h
theorem t_X2_howMany {L n d : Nat} {Q : am_Post} {σ σr : am_Mem} {rr : Int} (hd : 1 < d) (h : f_X2_howMany n σ = some (rr, σr)) (hQ : Q (some (am_i rr)) (rm_h L σr)) : xs_aw d me_X2_howMany [am_r 4] (rm_h L σ) Q := by
  obtain ⟨d, rfl⟩ : ∃ k, d = k + 1 := ⟨d - 1, by omega⟩
  have hd : 1 ≤ d := by omega
  unfold f_X2_howMany at h
  show xs_AW (xs_aw d) me_X2_howMany Q 0 [some (am_r 4), none, none] [] (rm_h L σ)
  refine rr_iconst dX2_howMany_0 (by decide) ?_
  refine rr_istore_n (ls' := [some (am_r 4), some (am_i 0), none]) dX2_howMany_1 (Nat.le_of_ble_eq_true rfl) rfl ?_
  refine rr_iconst dX2_howMany_2 (by decide) ?_
  refine rr_istore_n (ls' := [some (am_r 4), some (am_i 0), some (am_i 0)]) dX2_howMany_3 (Nat.le_of_ble_eq_true rfl) rfl ?_
  exact tl_X2_howMany_4 hd hQ n _ _ _ h
theorem ub_X2_howMany_4 {n : Nat} {kh4 : Int → Int → am_Mem → Option (Int × am_Mem)} {x1 : Int} {x2 : Int} {σ σr : am_Mem} {rr : Int} (hk4 : ∀ (y1 : Int) (y2 : Int) (σ : am_Mem), kh4 y1 y2 σ = some (rr, σr) → σr = σ) (h : fb_X2_howMany_4 n kh4 x1 x2 σ = some (rr, σr)) : σr = σ := by
  unfold fb_X2_howMany_4 at h
  have fr : σ = σ := rfl
  rcases ab_i h with ⟨c1, h⟩ | ⟨c1, h⟩
  · obtain ⟨r3, σ4, e2, h⟩ := ab_2 h
    have fr := (u_X2_isMissing e2).trans fr
    rcases ab_i h with ⟨c5, h⟩ | ⟨c5, h⟩
    · exact (hk4 _ _ _ h).trans fr
    · exact (hk4 _ _ _ h).trans fr
  · obtain ⟨q1, q2⟩ := ab_r2 h
    exact q2.symm.trans fr
theorem ul_X2_howMany_4 {n : Nat} {σr : am_Mem} {rr : Int} : ∀ (m : Nat) (x1 : Int) (x2 : Int) (σ : am_Mem), fl_X2_howMany_4 n m x1 x2 σ = some (rr, σr) → σr = σ := by
  intro m
  induction m with
  | zero => intro x1 x2 σ h; cases h
  | succ m ih =>
    intro x1 x2 σ h
    exact ub_X2_howMany_4 (fun x1 x2 σ h => ih x1 x2 σ h) h
theorem u_X2_howMany {n : Nat} {σ σr : am_Mem} {rr : Int} (h : f_X2_howMany n σ = some (rr, σr)) : σr = σ := by
  unfold f_X2_howMany at h
  have fr : σ = σ := rfl
  exact (ul_X2_howMany_4 n _ _ _ h).trans fr
