/-! what was read is a town; the class's whole reading -/
def mt_W (v : Int → Int) : Prop :=
  (0 ≤ v 6 ∧ v 6 ≤ 6 ∧ 0 ≤ v 25 ∧ v 25 ≤ 8 ∧ 1 ≤ v 0 ∧ v 0 ≤ 9 ∧ 0 ≤ v 1 ∧ v 1 ≤ 9 ∧ v 2 = 0 ∧ v 3 = 0 ∧ v 4 = 0 ∧ v 5 = 2 ^ (v 25).toNat - 1)
  ∧ (∀ c : Int, 0 ≤ c → c < v 6 → 1 ≤ v (7 + 3 * c) ∧ v (7 + 3 * c) ≤ 5 ∧ 0 ≤ v (8 + 3 * c) ∧ v (8 + 3 * c) ≤ 9 ∧ 0 ≤ v (9 + 3 * c) ∧ v (9 + 3 * c) ≤ 9)
  ∧ (∀ x : Int, 0 ≤ x → x < v 25 → 0 ≤ v (26 + 2 * x) ∧ v (26 + 2 * x) < v 6 ∧ 0 ≤ v (27 + 2 * x) ∧ v (27 + 2 * x) < v 6)
theorem mt_or_dec : ∀ x : Fin 8, am_or ((2 : Int) ^ x.val - 1) (am_shl 1 (x.val : Int)) = (2 : Int) ^ (x.val + 1) - 1 := by decide +kernel
theorem mt_shl_dec : ∀ x : Fin 9, am_w (am_shl 1 (x.val : Int) - 1) = (2 : Int) ^ x.val - 1 := by decide +kernel
theorem mt_W_WF {v : Int → Int} (h : mt_W v) (h6 : 0 < v 6) : mv_WF v := by
  obtain ⟨⟨a1, a2, a3, a4, a5, a6, a7, a8, a9, a10, a11, a12⟩, b, c⟩ := h
  have p : (1 : Int) ≤ 2 ^ (v 25).toNat := by
    have : v 25 = 0 ∨ v 25 = 1 ∨ v 25 = 2 ∨ v 25 = 3 ∨ v 25 = 4 ∨ v 25 = 5 ∨ v 25 = 6 ∨ v 25 = 7 ∨ v 25 = 8 := by omega
    rcases this with h | h | h | h | h | h | h | h | h <;> rw [h] <;> decide
  refine ⟨⟨a1, a2, a3, a4, by omega, a6, a7, a8, by omega, by omega, by omega, by omega, by omega⟩, by omega, fun _ => by omega, by omega, b, c⟩
theorem mt_kind_in (c : Int) : 0 ≤ mt_kind c ∧ mt_kind c ≤ 5 := by
  unfold mt_kind
  repeat' split
  all_goals omega
theorem mt_addc_W {v : Int → Int} {kd mu fe : Int} (h : mt_W v) (h5 : v 6 ≤ 5) (k1 : 1 ≤ kd) (k5 : kd ≤ 5) (m0 : 0 ≤ mu) (m9 : mu ≤ 9) (f0 : 0 ≤ fe) (f9 : fe ≤ 9) : mt_W (mt_addc v kd mu fe) := by
  obtain ⟨⟨a1, a2, a3, a4, a5, a6, a7, a8, a9, a10, a11, a12⟩, b, c⟩ := h
  have ne : ∀ k : Int, k ≠ 6 → k ≠ 7 + 3 * v 6 → k ≠ 8 + 3 * v 6 → k ≠ 9 + 3 * v 6 → mt_addc v kd mu fe k = v k := by
    intro k a b c d
    unfold mt_addc
    rw [mv_set_ne a, mv_set_ne d, mv_set_ne c, mv_set_ne b]
  have at6 : mt_addc v kd mu fe 6 = v 6 + 1 := mv_set_eq
  unfold mt_W
  rw [at6, ne 25 (by decide) (by omega) (by omega) (by omega), ne 0 (by decide) (by omega) (by omega) (by omega), ne 1 (by decide) (by omega) (by omega) (by omega), ne 2 (by decide) (by omega) (by omega) (by omega), ne 3 (by decide) (by omega) (by omega) (by omega), ne 4 (by decide) (by omega) (by omega) (by omega), ne 5 (by decide) (by omega) (by omega) (by omega)]
  refine ⟨⟨by omega, by omega, a3, a4, a5, a6, a7, a8, a9, a10, a11, a12⟩, fun c' c0 c1 => ?_, fun x x0 x1 => ?_⟩
  · by_cases e : c' = v 6
    · subst e
      have e1 : mt_addc v kd mu fe (7 + 3 * v 6) = kd := by
        unfold mt_addc
        rw [mv_set_ne (by omega), mv_set_ne (by omega), mv_set_ne (by omega), mv_set_eq]
      have e2 : mt_addc v kd mu fe (8 + 3 * v 6) = mu := by
        unfold mt_addc
        rw [mv_set_ne (by omega), mv_set_ne (by omega), mv_set_eq]
      have e3 : mt_addc v kd mu fe (9 + 3 * v 6) = fe := by
        unfold mt_addc
        rw [mv_set_ne (by omega), mv_set_eq]
      rw [e1, e2, e3]
      exact ⟨k1, k5, m0, m9, f0, f9⟩
    · rw [ne _ (by omega) (by omega) (by omega) (by omega), ne _ (by omega) (by omega) (by omega) (by omega), ne _ (by omega) (by omega) (by omega) (by omega)]
      exact b c' c0 (by omega)
  · rw [ne _ (by omega) (by omega) (by omega) (by omega), ne _ (by omega) (by omega) (by omega) (by omega)]
    have := c x x0 x1
    omega
theorem mt_adds_W {v : Int → Int} {f t : Int} (h : mt_W v) (h7 : v 25 ≤ 7) (f0 : 0 ≤ f) (f1 : f < v 6) (t0 : 0 ≤ t) (t1 : t < v 6) : mt_W (mt_adds v f t) := by
  obtain ⟨⟨a1, a2, a3, a4, a5, a6, a7, a8, a9, a10, a11, a12⟩, b, c⟩ := h
  have ne : ∀ k : Int, k ≠ 5 → k ≠ 25 → k ≠ 26 + 2 * v 25 → k ≠ 27 + 2 * v 25 → mt_adds v f t k = v k := by
    intro k a b c d
    unfold mt_adds
    rw [mv_set_ne b, mv_set_ne a, mv_set_ne d, mv_set_ne c]
  have at25 : mt_adds v f t 25 = v 25 + 1 := mv_set_eq
  have at5 : mt_adds v f t 5 = 2 ^ (v 25 + 1).toNat - 1 := by
    unfold mt_adds
    rw [mv_set_ne (by decide), mv_set_eq, a12]
    have q := mt_or_dec ⟨(v 25).toNat, by omega⟩
    have q : am_or ((2 : Int) ^ (v 25).toNat - 1) (am_shl 1 ((v 25).toNat : Int)) = (2 : Int) ^ ((v 25).toNat + 1) - 1 := q
    rw [Int.toNat_of_nonneg a3] at q
    rw [q, show (v 25 + 1).toNat = (v 25).toNat + 1 by omega]
  unfold mt_W
  rw [at25, at5, ne 6 (by decide) (by decide) (by omega) (by omega), ne 0 (by decide) (by decide) (by omega) (by omega), ne 1 (by decide) (by decide) (by omega) (by omega), ne 2 (by decide) (by decide) (by omega) (by omega), ne 3 (by decide) (by decide) (by omega) (by omega), ne 4 (by decide) (by decide) (by omega) (by omega)]
  refine ⟨⟨a1, a2, by omega, by omega, a5, a6, a7, a8, a9, a10, a11, rfl⟩, fun c' c0 c1 => ?_, fun x x0 x1 => ?_⟩
  · rw [ne _ (by omega) (by omega) (by omega) (by omega), ne _ (by omega) (by omega) (by omega) (by omega), ne _ (by omega) (by omega) (by omega) (by omega)]
    exact b c' c0 c1
  · by_cases e : x = v 25
    · subst e
      have e1 : mt_adds v f t (26 + 2 * v 25) = f := by
        unfold mt_adds
        rw [mv_set_ne (by omega), mv_set_ne (by omega), mv_set_ne (by omega), mv_set_eq]
      have e2 : mt_adds v f t (27 + 2 * v 25) = t := by
        unfold mt_adds
        rw [mv_set_ne (by omega), mv_set_ne (by omega), mv_set_eq]
      rw [e1, e2]
      exact ⟨f0, f1, t0, t1⟩
    · rw [ne _ (by omega) (by omega) (by omega) (by omega), ne _ (by omega) (by omega) (by omega) (by omega)]
      exact c x x0 (by omega)
theorem mt_bd_inr {α β : Type} {x : mt_S α} {f : α → mt_S β} {b : β} (h : mt_bd x f = .inr b) : ∃ a, x = .inr a ∧ f a = .inr b := by
  cases x with
  | inl e => cases h
  | inr a => exact ⟨a, rfl, h⟩
theorem mt_bd_inl {α β : Type} {x : mt_S α} {f : α → mt_S β} {e : Int × Int} (h : mt_bd x f = .inl e) : x = .inl e ∨ ∃ a, x = .inr a ∧ f a = .inl e := by
  cases x with
  | inl e' => cases h; exact Or.inl rfl
  | inr a => exact Or.inr ⟨a, rfl, h⟩
theorem mt_law_inr {T : Int → Int} {N : Int} {q : Int × Int × Int} (h : mt_law T N = .inr q) : 1 ≤ q.1 ∧ q.1 ≤ 9 ∧ 0 ≤ q.2.1 ∧ q.2.1 ≤ 9 := by
  unfold mt_law at h
  obtain ⟨j1, a1, h⟩ := mt_bd_inr h
  obtain ⟨q1, a2, h⟩ := mt_bd_inr h
  obtain ⟨j2, a3, h⟩ := mt_bd_inr h
  obtain ⟨q2, a4, h⟩ := mt_bd_inr h
  obtain ⟨j3, a5, h⟩ := mt_bd_inr h
  cases h
  have b2 := mt_fig_inr a2
  have b4 := mt_fig_inr a4
  exact ⟨b2.1, b2.2.1, b4.1, b4.2.1⟩
theorem mt_corner_inr {T : Int → Int} {N i : Int} {q : Int × Int × Int} (h : mt_corner T N i = .inr q) : 0 ≤ q.1 ∧ q.1 ≤ 9 ∧ 0 ≤ q.2.1 ∧ q.2.1 ≤ 9 := by
  unfold mt_corner at h
  obtain ⟨q1, a2, h⟩ := mt_bd_inr h
  obtain ⟨j2, a3, h⟩ := mt_bd_inr h
  obtain ⟨q2, a4, h⟩ := mt_bd_inr h
  obtain ⟨j3, a5, h⟩ := mt_bd_inr h
  cases h
  have b2 := mt_fig_inr a2
  have b4 := mt_fig_inr a4
  exact ⟨b2.1, b2.2.1, b4.1, b4.2.1⟩
theorem mt_corners_W {T : Int → Int} {N : Int} : ∀ (m : Nat) (v : Int → Int) (i : Int) (q : (Int → Int) × Int), mt_W v → v 6 + m = 7 → mt_corners T N m v i = .inr q → mt_W q.1 ∧ 0 < q.1 6 := by
  intro m
  induction m with
  | zero =>
    intro v i q w hm h
    have := w.1.2.1
    omega
  | succ m ih =>
    intro v i q w hm h
    have w1 := w.1
    unfold mt_corners at h
    by_cases hk : mt_kind (mt_ch T N i) = 0
    · rw [if_pos hk] at h
      by_cases h0 : v 6 ≤ 0
      · rw [if_pos h0] at h
        cases h
      · rw [if_neg h0] at h
        cases h
        exact ⟨w, by show 0 < v 6; omega⟩
    · rw [if_neg hk] at h
      by_cases h6 : v 6 = 6
      · rw [if_pos h6] at h
        cases h
      · rw [if_neg h6] at h
        obtain ⟨q1, a, h⟩ := mt_bd_inr h
        have b := mt_corner_inr a
        have kk := mt_kind_in (mt_ch T N i)
        have e6 : mt_addc v (mt_kind (mt_ch T N i)) q1.1 q1.2.1 6 = v 6 + 1 := mv_set_eq
        exact ih _ _ q (mt_addc_W w (by omega) (by omega) (by omega) b.1 b.2.1 b.2.2.1 b.2.2.2) (by omega) h
theorem mt_ends_inr {T : Int → Int} {N i : Int} {v : Int → Int} {q : Int × Int × Int} (h : mt_ends T N v i = .inr q) : 0 ≤ q.1 ∧ q.1 < v 6 ∧ 0 ≤ q.2.1 ∧ q.2.1 < v 6 := by
  unfold mt_ends at h
  obtain ⟨q1, a2, h⟩ := mt_bd_inr h
  obtain ⟨j2, a3, h⟩ := mt_bd_inr h
  obtain ⟨q2, a4, h⟩ := mt_bd_inr h
  by_cases g : q1.1 = q2.1 ∨ mt_told v q1.1 q2.1 (v 25).toNat 0 = 1
  · rw [if_pos g] at h
    cases h
  · rw [if_neg g] at h
    obtain ⟨j3, a5, h⟩ := mt_bd_inr h
    cases h
    have b2 := mt_fig_inr a2
    have b4 := mt_fig_inr a4
    exact ⟨b2.1, by have := b2.2.1; show q1.1 < v 6; omega, b4.1, by have := b4.2.1; show q2.1 < v 6; omega⟩
theorem mt_adds_6 {v : Int → Int} {f t : Int} (x0 : 0 ≤ v 25) : mt_adds v f t 6 = v 6 := by
  unfold mt_adds
  rw [mv_set_ne (by decide), mv_set_ne (by decide), mv_set_ne (by omega), mv_set_ne (by omega)]
theorem mt_streets_W {T : Int → Int} {N : Int} : ∀ (m : Nat) (v : Int → Int) (i : Int) (q : (Int → Int) × Int), mt_W v → v 25 + m = 9 → mt_streets T N m v i = .inr q → mt_W q.1 ∧ q.1 6 = v 6 := by
  intro m
  induction m with
  | zero =>
    intro v i q w hm h
    have := w.1.2.2.2.1
    omega
  | succ m ih =>
    intro v i q w hm h
    have w1 := w.1
    unfold mt_streets at h
    by_cases hi : i < N
    · rw [if_pos hi] at h
      by_cases hx : mt_ch T N i = 120
      · rw [if_pos hx] at h
        by_cases h8 : v 25 = 8
        · rw [if_pos h8] at h
          cases h
        · rw [if_neg h8] at h
          obtain ⟨q1, a, h⟩ := mt_bd_inr h
          have b := mt_ends_inr a
          have e25 : mt_adds v q1.1 q1.2.1 25 = v 25 + 1 := mv_set_eq
          have r := ih _ _ q (mt_adds_W w (by omega) b.1 b.2.1 b.2.2.1 b.2.2.2) (by omega) h
          rw [mt_adds_6 w1.2.2.1] at r
          exact r
      · rw [if_neg hx] at h
        cases h
    · rw [if_neg hi] at h
      cases h
      exact ⟨w, rfl⟩
theorem mt_v0_W {ra mo : Int} (h1 : 1 ≤ ra) (h2 : ra ≤ 9) (h3 : 0 ≤ mo) (h4 : mo ≤ 9) : mt_W (mv_set (mv_set (fun _ => 0) 0 ra) 1 mo) := by
  have e : ∀ k : Int, k ≠ 0 → k ≠ 1 → mv_set (mv_set (fun _ => (0 : Int)) 0 ra) 1 mo k = 0 := fun k a b => by rw [mv_set_ne b, mv_set_ne a]
  have e0 : mv_set (mv_set (fun _ => (0 : Int)) 0 ra) 1 mo 0 = ra := by rw [mv_set_ne (by decide), mv_set_eq]
  have e1 : mv_set (mv_set (fun _ => (0 : Int)) 0 ra) 1 mo 1 = mo := mv_set_eq
  unfold mt_W
  rw [e 6 (by decide) (by decide), e 25 (by decide) (by decide), e0, e1, e 2 (by decide) (by decide), e 3 (by decide) (by decide), e 4 (by decide) (by decide), e 5 (by decide) (by decide)]
  exact ⟨⟨by omega, by omega, by omega, by omega, h1, h2, h3, h4, rfl, rfl, rfl, rfl⟩, fun c c0 c1 => by omega, fun x x0 x1 => by omega⟩
theorem mt_text_W {T : Int → Int} {N : Int} {v : Int → Int} (h : mt_text T N = .inr v) : mt_W v ∧ 0 < v 6 := by
  unfold mt_text at h
  obtain ⟨q1, a1, h⟩ := mt_bd_inr h
  obtain ⟨q2, a2, h⟩ := mt_bd_inr h
  obtain ⟨q3, a3, h⟩ := mt_bd_inr h
  cases h
  have b1 := mt_law_inr a1
  have b2 := mt_corners_W 7 _ _ q2 (mt_v0_W b1.1 b1.2.1 b1.2.2.1 b1.2.2.2) rfl a2
  have c25 : ∀ (m : Nat) (v : Int → Int) (i : Int) (q : (Int → Int) × Int), mt_corners T N m v i = .inr q → v 6 + m = 7 → 0 ≤ v 6 → q.1 25 = v 25 := by
    intro m
    induction m with
    | zero => intro v i q h _ _; cases h; rfl
    | succ m ih =>
      intro v i q h hm h0
      unfold mt_corners at h
      by_cases hk : mt_kind (mt_ch T N i) = 0
      · rw [if_pos hk] at h
        by_cases h0 : v 6 ≤ 0
        · rw [if_pos h0] at h
          cases h
        · rw [if_neg h0] at h
          cases h
          rfl
      · rw [if_neg hk] at h
        by_cases h6 : v 6 = 6
        · rw [if_pos h6] at h
          cases h
        · rw [if_neg h6] at h
          obtain ⟨q1, a, h⟩ := mt_bd_inr h
          have e6 : mt_addc v (mt_kind (mt_ch T N i)) q1.1 q1.2.1 6 = v 6 + 1 := mv_set_eq
          rw [ih _ _ q h (by omega) (by omega)]
          unfold mt_addc
          rw [mv_set_ne (by decide), mv_set_ne (by omega), mv_set_ne (by omega), mv_set_ne (by omega)]
  have d25 := c25 7 _ _ q2 a2 rfl (Int.le_refl _)
  have b3 := mt_streets_W 9 _ _ q3 b2.1 (by rw [d25]; rfl) a3
  exact ⟨b3.1, by rw [b3.2]; exact b2.2⟩
theorem mt_corners_25 {T : Int → Int} {N : Int} : ∀ (m : Nat) (v : Int → Int) (i : Int) (q : (Int → Int) × Int), mt_corners T N m v i = .inr q → v 6 + m = 7 → 0 ≤ v 6 → q.1 25 = v 25 := by
  intro m
  induction m with
  | zero => intro v i q h _ _; cases h; rfl
  | succ m ih =>
    intro v i q h hm h0
    unfold mt_corners at h
    by_cases hk : mt_kind (mt_ch T N i) = 0
    · rw [if_pos hk] at h
      by_cases h0 : v 6 ≤ 0
      · rw [if_pos h0] at h
        cases h
      · rw [if_neg h0] at h
        cases h
        rfl
    · rw [if_neg hk] at h
      by_cases h6 : v 6 = 6
      · rw [if_pos h6] at h
        cases h
      · rw [if_neg h6] at h
        obtain ⟨q1, a, h⟩ := mt_bd_inr h
        have e6 : mt_addc v (mt_kind (mt_ch T N i)) q1.1 q1.2.1 6 = v 6 + 1 := mv_set_eq
        rw [ih _ _ q h (by omega) (by omega)]
        unfold mt_addc
        rw [mv_set_ne (by decide), mv_set_ne (by omega), mv_set_ne (by omega), mv_set_ne (by omega)]
theorem mt_cread {n : Nat} {T : Int → Int} {N : Int} {σ : am_Mem} (hn : 10000000000 ≤ n) (hT : mt_TN T N) (hN : σ 16 1 = N) (hB : ∀ k : Int, 0 ≤ k → k < N → σ 17 k = T k) : mt_CR (mt_text T N) (f_X4_readInto n 24 σ) (fun v σ' => mv_TR σ' 24 v) := by
  unfold mt_text f_X4_readInto f_X5_clear
  simp only [am_b1_some]
  have h0 : mt_CS T N (am_up (am_up (am_up (am_up (am_up (am_up (am_up (am_up (am_up σ 24 5 0) 24 6 0) 24 7 0) 24 8 0) 24 9 0) 24 10 0) 24 11 0) 24 12 0) 16 4 0) 0 := by
    refine ⟨mv_up_eq, ?_, fun k k0 k1 => ?_⟩
    · simp (disch := decide) only [mv_up_j, ah_up_ne]; exact hN
    · simp (disch := decide) only [ah_up_ne]; exact hB k k0 k1
  have t0 : mt_TC (am_up (am_up (am_up (am_up (am_up (am_up (am_up (am_up (am_up σ 24 5 0) 24 6 0) 24 7 0) 24 8 0) 24 9 0) 24 10 0) 24 11 0) 24 12 0) 16 4 0) (fun _ => 0) := by
    refine ⟨⟨?_, ?_, ?_, ?_, ?_, ?_, ?_, ?_⟩, fun c c0 c1 => ?_, fun x x0 x1 => ?_⟩
    all_goals first | (simp (disch := decide) only [mv_up_j, ah_up_ne, mv_up_eq]; done) | skip
    · have : c < 0 := c1
      omega
    · have : x < 0 := x1
      omega
  have L := mt_claw (n := n) hn hT h0 t0
  cases a1 : mt_law T N with
  | inl e =>
    rw [a1] at L
    obtain ⟨σ', e1, b1⟩ := L
    rw [e1, am_b2_some, if_pos rfl]
    exact ⟨σ', rfl, b1⟩
  | inr q1 =>
    rw [a1] at L
    obtain ⟨σ1, e1, c1, d1, i0, iN⟩ := L
    have b1 := mt_law_inr a1
    have w1 := mt_v0_W b1.1 b1.2.1 b1.2.2.1 b1.2.2.2
    rw [e1, am_b2_some, if_neg (show ¬ (1 : Int) = 0 by decide)]
    show mt_CR (mt_bd (mt_corners T N 7 (mv_set (mv_set (fun _ => 0) 0 q1.1) 1 q1.2.1) q1.2.2) _) _ _
    have C := mt_ccorners (n := n) hn hT 7 n (mv_set (mv_set (fun _ => 0) 0 q1.1) 1 q1.2.1) q1.2.2 σ1 w1.1.1 rfl (by omega) i0 iN c1 d1
    have eC : f_X4_readCorners n 24 σ1 = fl_X4_readCorners_2 n 24 n (mv_set (mv_set (fun _ => 0) 0 q1.1) 1 q1.2.1 6) σ1 := rfl
    rw [eC]
    cases a2 : mt_corners T N 7 (mv_set (mv_set (fun _ => 0) 0 q1.1) 1 q1.2.1) q1.2.2 with
    | inl e =>
      rw [a2] at C
      obtain ⟨σ', e2, b2⟩ := C
      rw [e2, am_b2_some, if_pos rfl]
      exact ⟨σ', rfl, b2⟩
    | inr q2 =>
      rw [a2] at C
      obtain ⟨σ2, e2, c2, d2, i0', iN'⟩ := C
      have b2 := mt_corners_W 7 _ _ q2 w1 rfl a2
      have e25 : q2.1 25 = 0 := mt_corners_25 7 _ _ q2 a2 rfl (Int.le_refl _)
      rw [e2, am_b2_some, if_neg (show ¬ (1 : Int) = 0 by decide)]
      show mt_CR (mt_bd (mt_streets T N 9 q2.1 q2.2) _) _ _
      have D := mt_cstreets (n := n) hn hT 9 n q2.1 q2.2 σ2 b2.1.1.1 b2.1.1.2.1 b2.1.1.2.2.1 (by rw [e25]; rfl) (by omega) i0' iN' c2 d2
      rw [e25] at D
      have eD : f_X4_readStreets n 24 σ2 = fl_X4_readStreets_2 n 24 n 0 σ2 := rfl
      rw [eD]
      cases a3 : mt_streets T N 9 q2.1 q2.2 with
      | inl e =>
        rw [a3] at D
        obtain ⟨σ', e3, b3⟩ := D
        rw [e3, am_b2_some, if_pos rfl]
        exact ⟨σ', rfl, b3⟩
      | inr q3 =>
        rw [a3] at D
        obtain ⟨σ3, e3, d3⟩ := D
        have b3 := mt_streets_W 9 _ _ q3 b2.1 (by rw [e25]; rfl) a3
        have w3 := b3.1.1
        rw [e3, am_b2_some, if_neg (show ¬ (1 : Int) = 0 by decide)]
        obtain ⟨⟨k1, k2, k3, k4, k5, k6, k7, k8⟩, m1, m2⟩ := d3
        have q := mt_shl_dec ⟨(q3.1 25).toNat, by omega⟩
        have q : am_w (am_shl 1 (((q3.1 25).toNat : Nat) : Int) - 1) = (2 : Int) ^ (q3.1 25).toNat - 1 := q
        rw [Int.toNat_of_nonneg w3.2.2.1] at q
        rw [k2, q, ← w3.2.2.2.2.2.2.2.2.2.2.2]
        refine ⟨_, rfl, ⟨?_, ?_, ?_, ?_, ?_, ?_, ?_, ?_⟩, fun c c0 c1 => ?_, fun x x0 x1 => ?_⟩
        · rw [mv_up_j (by decide)]; exact k1
        · rw [mv_up_j (by decide)]; exact k2
        · rw [mv_up_j (by decide)]; exact k3
        · rw [mv_up_eq]
        · rw [mv_up_j (by decide)]; exact k5
        · rw [mv_up_j (by decide)]; exact k6
        · rw [mv_up_j (by decide)]; exact k7
        · rw [mv_up_j (by decide)]; exact k8
        · rw [ah_up_ne _ _ _ (by decide), ah_up_ne _ _ _ (by decide), ah_up_ne _ _ _ (by decide)]
          exact m1 c c0 c1
        · rw [ah_up_ne _ _ _ (by decide), ah_up_ne _ _ _ (by decide)]
          exact m2 x x0 x1
