/-! shut: sums over sets, and the common divisor -/
def mh_g (O c x : Nat) (b : Bool) : Nat := if O.testBit x = true then (if b = true then 10 - c else c) else (if b = true then 0 else 1)
def mh_P (O c s : Nat) : Nat → Nat
  | 0 => 1
  | m + 1 => mh_P O c s m * mh_g O c m (s.testBit m)
def mh_pc (s : Nat) : Nat → Nat
  | 0 => 0
  | m + 1 => mh_pc s m + (if s.testBit m = true then 1 else 0)
def mh_S (F : Nat → Nat) : Nat → Nat
  | 0 => 0
  | k + 1 => mh_S F k + F k
theorem mh_S_add (F : Nat → Nat) (a : Nat) : ∀ b : Nat, mh_S F (a + b) = mh_S F a + mh_S (fun k => F (a + k)) b
  | 0 => rfl
  | b + 1 => by
    show mh_S F (a + b) + F (a + b) = mh_S F a + (mh_S (fun k => F (a + k)) b + F (a + b))
    rw [mh_S_add F a b]
    omega
theorem mh_S_congr {F G : Nat → Nat} : ∀ {k : Nat}, (∀ s, s < k → F s = G s) → mh_S F k = mh_S G k
  | 0, _ => rfl
  | k + 1, h => by
    show mh_S F k + F k = mh_S G k + G k
    rw [mh_S_congr (fun s hs => h s (by omega)), h k (by omega)]
theorem mh_S_le {F G : Nat → Nat} : ∀ {k : Nat}, (∀ s, s < k → F s ≤ G s) → mh_S F k ≤ mh_S G k
  | 0, _ => Nat.le_refl _
  | k + 1, h => by
    show mh_S F k + F k ≤ mh_S G k + G k
    have a := mh_S_le (F := F) (G := G) (k := k) (fun s hs => h s (by omega))
    have b := h k (by omega)
    omega
theorem mh_S_mul (F : Nat → Nat) (c : Nat) : ∀ k : Nat, mh_S (fun s => F s * c) k = mh_S F k * c
  | 0 => (Nat.zero_mul c).symm
  | k + 1 => by
    show mh_S (fun s => F s * c) k + F k * c = (mh_S F k + F k) * c
    rw [mh_S_mul F c k, Nat.add_mul]
theorem mh_S_mono {F : Nat → Nat} {k m : Nat} (h : k ≤ m) : mh_S F k ≤ mh_S F m := by
  obtain ⟨d, rfl⟩ : ∃ d, m = k + d := ⟨m - k, by omega⟩
  rw [mh_S_add]
  omega
theorem mh_P_hi {O c s m : Nat} : ∀ {k : Nat}, k ≤ m → mh_P O c (2 ^ m + s) k = mh_P O c s k
  | 0, _ => rfl
  | k + 1, h => by
    show mh_P O c (2 ^ m + s) k * mh_g O c k ((2 ^ m + s).testBit k) = mh_P O c s k * mh_g O c k (s.testBit k)
    rw [mh_P_hi (k := k) (by omega), Nat.testBit_two_pow_add_gt (by omega)]
theorem mh_total (O c : Nat) (hc : c ≤ 10) : ∀ m : Nat, mh_S (fun s => mh_P O c s m) (2 ^ m) = 10 ^ mh_pc O m
  | 0 => rfl
  | m + 1 => by
    have ih := mh_total O c hc m
    rw [show 2 ^ (m + 1) = 2 ^ m + 2 ^ m by rw [Nat.pow_succ]; omega, mh_S_add]
    have e1 : mh_S (fun s => mh_P O c s (m + 1)) (2 ^ m) = mh_S (fun s => mh_P O c s m) (2 ^ m) * mh_g O c m false := by
      rw [← mh_S_mul]
      refine mh_S_congr (fun s hs => ?_)
      show mh_P O c s m * mh_g O c m (s.testBit m) = _
      rw [Nat.testBit_lt_two_pow hs]
    have e2 : mh_S (fun k => mh_P O c (2 ^ m + k) (m + 1)) (2 ^ m) = mh_S (fun s => mh_P O c s m) (2 ^ m) * mh_g O c m true := by
      rw [← mh_S_mul]
      refine mh_S_congr (fun s hs => ?_)
      show mh_P O c (2 ^ m + s) m * mh_g O c m ((2 ^ m + s).testBit m) = _
      rw [mh_P_hi (Nat.le_refl m), Nat.testBit_two_pow_add_eq, Nat.testBit_lt_two_pow hs]
      rfl
    rw [e1, e2, ih, ← Nat.mul_add]
    show _ = 10 ^ (mh_pc O m + (if O.testBit m = true then 1 else 0))
    unfold mh_g
    by_cases h : O.testBit m = true
    · rw [if_pos h, if_pos h, if_pos h, if_neg (by decide), if_pos rfl, Nat.pow_succ, show c + (10 - c) = 10 by omega]
    · rw [if_neg h, if_neg h, if_neg h, if_neg (by decide), if_pos rfl]
      exact Nat.mul_one _
/-- as sets of streets -/
def mh_sub (k s : Nat) : Prop := ∀ x : Nat, x < 8 → k.testBit x = true → s.testBit x = true
theorem mh_pc_le {s O : Nat} (h : mh_sub s O) : ∀ {m : Nat}, m ≤ 8 → mh_pc s m ≤ mh_pc O m
  | 0, _ => Nat.le_refl _
  | m + 1, hm => by
    show mh_pc s m + (if s.testBit m = true then 1 else 0) ≤ mh_pc O m + (if O.testBit m = true then 1 else 0)
    have a := mh_pc_le h (m := m) (by omega)
    by_cases b : s.testBit m = true
    · rw [if_pos b, if_pos (h m (by omega) b)]
      omega
    · rw [if_neg b]
      omega
theorem mh_pc_m (s : Nat) : ∀ m : Nat, mh_pc s m ≤ m
  | 0 => Nat.le_refl _
  | m + 1 => by
    show mh_pc s m + (if s.testBit m = true then 1 else 0) ≤ m + 1
    have a := mh_pc_m s m
    split <;> omega
theorem mh_P_pow {s O c : Nat} (h : mh_sub s O) : ∀ {m : Nat}, m ≤ 8 → mh_P O c s m = (10 - c) ^ mh_pc s m * c ^ (mh_pc O m - mh_pc s m)
  | 0, _ => rfl
  | m + 1, hm => by
    have a := mh_pc_le h (m := m) (by omega)
    show mh_P O c s m * mh_g O c m (s.testBit m) = (10 - c) ^ (mh_pc s m + (if s.testBit m = true then 1 else 0)) * c ^ (mh_pc O m + (if O.testBit m = true then 1 else 0) - (mh_pc s m + (if s.testBit m = true then 1 else 0)))
    rw [mh_P_pow h (m := m) (by omega)]
    unfold mh_g
    by_cases b : s.testBit m = true
    · rw [if_pos b, if_pos (h m (by omega) b), if_pos b, if_pos (h m (by omega) b), show mh_pc O m + 1 - (mh_pc s m + 1) = mh_pc O m - mh_pc s m by omega, Nat.pow_succ, Nat.mul_assoc, Nat.mul_assoc, Nat.mul_comm (c ^ _)]
    · simp only [if_neg b]
      by_cases o : O.testBit m = true
      · rw [if_pos o, if_pos o, show mh_pc O m + 1 - (mh_pc s m + 0) = (mh_pc O m - mh_pc s m) + 1 by omega, Nat.pow_succ c, Nat.mul_assoc]
        rfl
      · rw [if_neg o, if_neg o, Nat.mul_one]
        rfl
theorem mh_P_le {s O c : Nat} (hc : c ≤ 10) : ∀ m : Nat, mh_P O c s m ≤ 10 ^ m
  | 0 => Nat.le_refl _
  | m + 1 => by
    show mh_P O c s m * mh_g O c m (s.testBit m) ≤ 10 ^ (m + 1)
    rw [Nat.pow_succ]
    refine Nat.mul_le_mul (mh_P_le hc m) ?_
    unfold mh_g
    split <;> split <;> omega
/-- behind the last street nothing changes -/
theorem mh_P_end {s O c k : Nat} (h : mh_sub s O) (hO : O < 2 ^ k) : ∀ {m : Nat}, k + m ≤ 8 → mh_P O c s (k + m) = mh_P O c s k
  | 0, _ => rfl
  | m + 1, hm => by
    show mh_P O c s (k + m) * mh_g O c (k + m) (s.testBit (k + m)) = _
    have o : O.testBit (k + m) = false := Nat.testBit_lt_two_pow (Nat.lt_of_lt_of_le hO (Nat.pow_le_pow_right (by decide) (by omega)))
    have b : ¬ s.testBit (k + m) = true := fun q => by
      have := h (k + m) (by omega) q
      rw [o] at this
      exact absurd this (by decide)
    unfold mh_g
    rw [mh_P_end h hO (m := m) (by omega), o, if_neg (by decide), if_neg b, Nat.mul_one]
theorem mh_pc_end {O k : Nat} (hO : O < 2 ^ k) : ∀ {m : Nat}, mh_pc O (k + m) = mh_pc O k
  | 0 => rfl
  | m + 1 => by
    show mh_pc O (k + m) + (if O.testBit (k + m) = true then 1 else 0) = _
    have o : O.testBit (k + m) = false := Nat.testBit_lt_two_pow (Nat.lt_of_lt_of_le hO (Nat.pow_le_pow_right (by decide) (by omega)))
    rw [mh_pc_end hO (m := m), o]
    rfl
/-- one set less a street -/
theorem mh_less_dec : ∀ s : Fin 256, ∀ y : Fin 8, s.val.testBit y.val = true → s.val - 2 ^ y.val < s.val ∧ ∀ z : Fin 8, (s.val - 2 ^ y.val).testBit z.val = (s.val.testBit z.val && decide (z.val ≠ y.val)) := by decide +kernel
theorem mh_less {s y z : Nat} (hs : s < 256) (hy : y < 8) (hz : z < 8) (b : s.testBit y = true) : (s - 2 ^ y).testBit z = (s.testBit z && decide (z ≠ y)) := (mh_less_dec ⟨s, hs⟩ ⟨y, hy⟩ b).2 ⟨z, hz⟩
theorem mh_eq {k s : Nat} (hk : k < 256) (hs : s < 256) (h : ∀ x, x < 8 → k.testBit x = s.testBit x) : k = s := by
  refine Nat.eq_of_testBit_eq (fun i => ?_)
  by_cases hi : i < 8
  · exact h i hi
  · rw [Nat.testBit_lt_two_pow (Nat.lt_of_lt_of_le hk (Nat.pow_le_pow_right (n := 2) (i := 8) (by decide) (by omega))), Nat.testBit_lt_two_pow (Nat.lt_of_lt_of_le hs (Nat.pow_le_pow_right (n := 2) (i := 8) (by decide) (by omega)))]
/-- closed upwards -/
def mh_up (mk : Nat → Prop) (s : Nat) : Prop := ∃ k : Nat, k < 256 ∧ mh_sub k s ∧ mk k
theorem mh_up_step {mk : Nat → Prop} {s : Nat} (hs : s < 256) : mh_up mk s ↔ mk s ∨ ∃ y, y < 8 ∧ s.testBit y = true ∧ mh_up mk (s - 2 ^ y) := by
  constructor
  · rintro ⟨k, hk, hsub, hm⟩
    by_cases e : k = s
    · exact Or.inl (e ▸ hm)
    · by_cases q : ∃ y, y < 8 ∧ s.testBit y = true ∧ k.testBit y = false
      · obtain ⟨y, hy, b, kb⟩ := q
        refine Or.inr ⟨y, hy, b, k, hk, fun z hz kz => ?_, hm⟩
        rw [mh_less hs hy hz b, hsub z hz kz]
        have : z ≠ y := fun q => by
          subst q
          rw [kb] at kz
          exact absurd kz (by decide)
        simp [this]
      · refine absurd (mh_eq hk hs (fun x hx => ?_)) e
        cases hkx : k.testBit x with
        | true => exact (hsub x hx hkx).symm
        | false =>
          cases hsx : s.testBit x with
          | false => rfl
          | true => exact absurd ⟨x, hx, hsx, hkx⟩ q
  · rintro (h | ⟨y, hy, b, k, hk, hsub, hm⟩)
    · exact ⟨s, hs, fun _ _ h => h, h⟩
    · refine ⟨k, hk, fun z hz kz => ?_, hm⟩
      have := hsub z hz kz
      rw [mh_less hs hy hz b] at this
      simp at this
      exact this.1
theorem mh_sub_le {s O : Nat} (hs : s < 256) (hO : O < 256) (h : mh_sub s O) : s ≤ O := by
  have e : s &&& O = s := by
    refine mh_eq (Nat.lt_of_le_of_lt Nat.and_le_left hs) hs (fun x hx => ?_)
    rw [Nat.testBit_and]
    cases b : s.testBit x with
    | false => rfl
    | true => rw [h x hx b]; rfl
  rw [← e]
  exact Nat.and_le_right
/-- Euclid's way, both sides -/
theorem mh_gcd7 {n : Nat} {σ : am_Mem} {w a b : Int} : ∀ (y fu x : Nat), y < fu → 0 < x + y → fl_X7_shut_245 n (fu + 1) w a b (x : Int) (y : Int) σ = some ((if w = 0 then am_w (Int.tdiv a (Nat.gcd x y : Nat)) else am_w (Int.tdiv b (Nat.gcd x y : Nat))), σ) := by
  intro y
  induction y using Nat.strongRecOn with
  | _ y ih =>
    intro fu x hf hpos
    show fb_X7_shut_245 n (fun y4 y5 y6 y7 y8 σ => fl_X7_shut_245 n fu y4 y5 y6 y7 y8 σ) w a b (x : Int) (y : Int) σ = _
    unfold fb_X7_shut_245
    by_cases hy : y = 0
    · subst hy
      rw [if_pos (show ((0 : Nat) : Int) = 0 from rfl), if_pos (show (x : Int) ≠ 0 by omega), if_pos (show (x : Int) ≠ 0 by omega), Nat.gcd_zero_right]
      by_cases hw : w = 0
      · rw [if_pos hw, if_pos hw]
      · rw [if_neg hw, if_neg hw]
    · obtain ⟨fu, rfl⟩ : ∃ q, fu = q + 1 := ⟨fu - 1, by omega⟩
      have hlt : x % y < y := Nat.mod_lt _ (by omega)
      rw [if_neg (show ¬ (y : Int) = 0 by omega), if_pos (show (y : Int) ≠ 0 by omega), show Int.tmod (x : Int) (y : Int) = ((x % y : Nat) : Int) from rfl]
      show fl_X7_shut_245 n (fu + 1) w a b (y : Int) ((x % y : Nat) : Int) σ = _
      rw [ih (x % y) hlt fu y (by omega) (by omega), Nat.gcd_comm x y, Nat.gcd_rec y x, Nat.gcd_comm y (x % y)]
theorem mh_gcd6 {n : Nat} {σ : am_Mem} : ∀ (k fu h l t : Nat), 2 * k + 1 < fu → l < 2 ^ k → t + 2 * k ≤ 64 → fl_X6_commonDivisor_7 n fu (h : Int) (l : Int) (t : Int) σ = some (((Nat.gcd h l : Nat) : Int), σ) := by
  intro k
  induction k with
  | zero =>
    intro fu h l t hf hl ht
    obtain ⟨fu, rfl⟩ : ∃ q, fu = q + 1 := ⟨fu - 1, by omega⟩
    have hl0 : l = 0 := by omega
    subst hl0
    show fb_X6_commonDivisor_7 n _ (h : Int) ((0 : Nat) : Int) (t : Int) σ = _
    unfold fb_X6_commonDivisor_7
    rw [Nat.gcd_zero_right, if_pos (show ((0 : Nat) : Int) = 0 from rfl)]
    split <;> rfl
  | succ k ih =>
    intro fu h l t hf hl ht
    obtain ⟨fu, rfl⟩ : ∃ q, fu = q + 2 := ⟨fu - 2, by omega⟩
    show fb_X6_commonDivisor_7 n (fun y2 y3 y4 σ => fl_X6_commonDivisor_7 n (fu + 1) y2 y3 y4 σ) (h : Int) (l : Int) (t : Int) σ = _
    unfold fb_X6_commonDivisor_7
    rw [if_pos (show (t : Int) < 64 by omega)]
    by_cases h0 : l = 0
    · subst h0
      rw [if_pos (show ((0 : Nat) : Int) = 0 from rfl), Nat.gcd_zero_right]
    · rw [if_neg (show ¬ (l : Int) = 0 by omega), if_pos (show (l : Int) ≠ 0 by omega), show Int.tmod (h : Int) (l : Int) = ((h % l : Nat) : Int) from rfl, am_w_id (z := (t : Int) + 1) (by omega)]
      show fb_X6_commonDivisor_7 n (fun y2 y3 y4 σ => fl_X6_commonDivisor_7 n fu y2 y3 y4 σ) (l : Int) ((h % l : Nat) : Int) ((t : Int) + 1) σ = _
      unfold fb_X6_commonDivisor_7
      rw [if_pos (show (t : Int) + 1 < 64 by omega)]
      have e : Nat.gcd h l = Nat.gcd l (h % l) := by rw [Nat.gcd_comm h l, Nat.gcd_rec l h, Nat.gcd_comm l (h % l)]
      have hlt : h % l < l := Nat.mod_lt _ (by omega)
      by_cases h1 : h % l = 0
      · rw [e, h1, if_pos (show ((0 : Nat) : Int) = 0 from rfl), Nat.gcd_zero_right]
      · have e2 : Nat.gcd l (h % l) = Nat.gcd (h % l) (l % (h % l)) := by rw [Nat.gcd_comm l (h % l), Nat.gcd_rec (h % l) l, Nat.gcd_comm (h % l) _]
        have hlt2 : l % (h % l) < h % l := Nat.mod_lt _ (by omega)
        have hhalf : 2 * (l % (h % l)) < l := by
          have := Nat.div_add_mod l (h % l)
          have hd : 1 ≤ l / (h % l) := Nat.div_pos (Nat.le_of_lt hlt) (by omega)
          have hm : (h % l) * 1 ≤ (h % l) * (l / (h % l)) := Nat.mul_le_mul_left _ hd
          omega
        rw [Nat.pow_succ] at hl
        rw [if_neg (show ¬ ((h % l : Nat) : Int) = 0 by omega), if_pos (show ((h % l : Nat) : Int) ≠ 0 by omega), show Int.tmod (l : Int) ((h % l : Nat) : Int) = ((l % (h % l) : Nat) : Int) from rfl, am_w_id (z := (t : Int) + 1 + 1) (by omega), e, e2, show (t : Int) + 1 + 1 = ((t + 2 : Nat) : Int) by omega]
        exact ih fu (h % l) (l % (h % l)) (t + 2) (by omega) (by omega) (by omega)
theorem mh_power {n : Nat} {σ : am_Mem} {b T : Nat} (hb : b ≤ 10) (hT : T ≤ 8) : ∀ (m fu t : Nat), t + m = T → m < fu → fl_X6_power_4 n fu (b : Int) (T : Int) ((b ^ t : Nat) : Int) (t : Int) σ = some (((b ^ T : Nat) : Int), σ) := by
  intro m
  induction m with
  | zero =>
    intro fu t ht hf
    obtain ⟨fu, rfl⟩ : ∃ q, fu = q + 1 := ⟨fu - 1, by omega⟩
    show fb_X6_power_4 n _ (b : Int) (T : Int) ((b ^ t : Nat) : Int) (t : Int) σ = _
    unfold fb_X6_power_4
    rw [if_neg (show ¬ (t : Int) < T by omega), show t = T by omega]
  | succ m ih =>
    intro fu t ht hf
    obtain ⟨fu, rfl⟩ : ∃ q, fu = q + 1 := ⟨fu - 1, by omega⟩
    show fb_X6_power_4 n (fun y0 y1 y2 y3 σ => fl_X6_power_4 n fu y0 y1 y2 y3 σ) (b : Int) (T : Int) ((b ^ t : Nat) : Int) (t : Int) σ = _
    unfold fb_X6_power_4
    have hle : b ^ (t + 1) ≤ 10 ^ 8 := Nat.le_trans (Nat.pow_le_pow_left hb _) (Nat.pow_le_pow_right (by decide) (by omega))
    have e : ((b ^ t : Nat) : Int) * (b : Int) = ((b ^ (t + 1) : Nat) : Int) := by rw [Nat.pow_succ]; exact (Int.natCast_mul _ _).symm
    have h8 : (10 : Nat) ^ 8 = 100000000 := by decide
    rw [if_pos (show (t : Int) < T by omega), e, am_w_id (z := ((b ^ (t + 1) : Nat) : Int)) (by omega), am_w_id (z := (t : Int) + 1) (by omega), show (t : Int) + 1 = ((t + 1 : Nat) : Int) by omega]
    exact ih fu (t + 1) (by omega) (by omega)
