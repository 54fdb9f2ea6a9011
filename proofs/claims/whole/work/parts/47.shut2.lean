/-! shut: bits of sets; what a tree has -/
theorem mh_bit_dec : ∀ s : Fin 256, ∀ x : Fin 8, (am_and (am_shr (s.val : Int) (x.val : Int)) 1 = 1 ↔ s.val.testBit x.val = true) := by decide +kernel
theorem mh_or_dec : ∀ u : Fin 256, ∀ x : Fin 8, am_or (u.val : Int) (am_shl 1 (x.val : Int)) = ((u.val ||| 2 ^ x.val : Nat) : Int) := by decide +kernel
theorem mh_del_dec : ∀ s : Fin 256, ∀ x : Fin 8, am_and (s.val : Int) (am_xor (am_shl 1 (x.val : Int)) (-1)) = ((if s.val.testBit x.val = true then s.val - 2 ^ x.val else s.val : Nat) : Int) := by decide +kernel
theorem mh_and_dec : ∀ s : Fin 256, ∀ O : Fin 256, (am_and (s.val : Int) (am_xor (O.val : Int) (-1)) = 0 ↔ s.val &&& O.val = s.val) := by decide +kernel
def mh_bcf (p : Int) : Int := ((f_J6_bitCount_0f7a4 0 p (fun _ _ => 0)).map Prod.fst).getD 0
theorem mh_bc_eq (n : Nat) (p : Int) (σ : am_Mem) : f_J6_bitCount_0f7a4 n p σ = some (mh_bcf p, σ) := rfl
theorem mh_bc_dec : ∀ s : Fin 256, mh_bcf (s.val : Int) = ((mh_pc s.val 8 : Nat) : Int) := by decide +kernel
theorem mh_bit {s x : Nat} (hs : s < 256) (hx : x < 8) : am_and (am_shr (s : Int) (x : Int)) 1 = 1 ↔ s.testBit x = true := mh_bit_dec ⟨s, hs⟩ ⟨x, hx⟩
theorem mh_or {s x : Nat} (hs : s < 256) (hx : x < 8) : am_or (s : Int) (am_shl 1 (x : Int)) = ((s ||| 2 ^ x : Nat) : Int) := mh_or_dec ⟨s, hs⟩ ⟨x, hx⟩
theorem mh_del {s x : Nat} (hs : s < 256) (hx : x < 8) : am_and (s : Int) (am_xor (am_shl 1 (x : Int)) (-1)) = ((if s.testBit x = true then s - 2 ^ x else s : Nat) : Int) := mh_del_dec ⟨s, hs⟩ ⟨x, hx⟩
theorem mh_bc {n s : Nat} {σ : am_Mem} (hs : s < 256) : f_J6_bitCount_0f7a4 n (s : Int) σ = some (((mh_pc s 8 : Nat) : Int), σ) := by
  rw [mh_bc_eq]
  exact congrArg (fun z => some (z, σ)) (mh_bc_dec ⟨s, hs⟩)
theorem mh_and {s O : Nat} (hs : s < 256) (hO : O < 256) : am_and (s : Int) (am_xor (O : Int) (-1)) = 0 ↔ mh_sub s O := by
  refine (mh_and_dec ⟨s, hs⟩ ⟨O, hO⟩).trans ⟨fun h x hx b => ?_, fun h => ?_⟩
  · have h : s &&& O = s := h
    rw [← h, Nat.testBit_and] at b
    simp at b
    exact b.2
  · show s &&& O = s
    refine mh_eq (Nat.lt_of_le_of_lt Nat.and_le_left hs) hs (fun x hx => ?_)
    rw [Nat.testBit_and]
    cases b : s.testBit x with
    | false => rfl
    | true => rw [h x hx b]; rfl
theorem mh_or_sub {u x S : Nat} (hx : x < 8) : mh_sub (u ||| 2 ^ x) S ↔ mh_sub u S ∧ S.testBit x = true := by
  constructor
  · intro h
    refine ⟨fun y hy b => h y hy ?_, h x hx ?_⟩
    · rw [Nat.testBit_or, b]; rfl
    · rw [Nat.testBit_or, Nat.testBit_two_pow_self]; simp
  · rintro ⟨h1, h2⟩ y hy b
    rw [Nat.testBit_or, Nat.testBit_two_pow] at b
    simp at b
    rcases b with b | b
    · exact h1 y hy b
    · exact b ▸ h2
/-- some node has P -/
def mh_E (v : Int → Int) (P : Int → Int → Int → Prop) : Nat → Int → Int → Int → Int → Int → Prop
  | 0, _, p, _, gr, us => P p gr us
  | l + 1, d, p, mo, gr, us => P p gr us ∨ ∃ x : Int, 0 ≤ x ∧ x < v 25 ∧ mv_goesi v x p = 1 ∧ mh_E v P l (d + 1) (v (27 + 2 * x)) (mv_passed v (v (27 + 2 * x)) mo (v 3 + d)) (gr + mv_cost v (v (27 + 2 * x)) mo (v 3 + d)) (am_or us (am_shl 1 x))
theorem mh_tree {A : Type} {v : Int → Int} {f : A → Int → Int → Int → Int → Int → (Int → Int) → A} {P : Int → Int → Int → Prop} {Φ : A → Prop} (w : mv_WF v) (hf : ∀ (a : A) (d p mo gr us : Int) (pa : Int → Int), mg_N v d p mo gr us → (Φ (f a d p mo gr us pa) ↔ Φ a ∨ P p gr us)) : ∀ (l : Nat) (a : A) (d p mo gr us : Int) (pa : Int → Int), mg_N v d p mo gr us → d + l ≤ 8 → (Φ (mg_tree v f l a d p mo gr us pa) ↔ Φ a ∨ mh_E v P l d p mo gr us) := by
  have w1 := w.1
  intro l
  induction l with
  | zero => intro a d p mo gr us pa hN _; exact hf a d p mo gr us pa hN
  | succ l ih =>
    intro a d p mo gr us pa hN hd
    have K : ∀ (m : Nat) (x : Int) (b : A), 0 ≤ x → x + m = v 25 → (Φ (mg_kids v p (fun a x => mg_tree v f l a (d + 1) (v (27 + 2 * x)) (mv_passed v (v (27 + 2 * x)) mo (v 3 + d)) (gr + mv_cost v (v (27 + 2 * x)) mo (v 3 + d)) (am_or us (am_shl 1 x)) (mv_set pa d x)) m x b) ↔ Φ b ∨ ∃ y : Int, x ≤ y ∧ y < v 25 ∧ mv_goesi v y p = 1 ∧ mh_E v P l (d + 1) (v (27 + 2 * y)) (mv_passed v (v (27 + 2 * y)) mo (v 3 + d)) (gr + mv_cost v (v (27 + 2 * y)) mo (v 3 + d)) (am_or us (am_shl 1 y))) := by
      intro m
      induction m with
      | zero =>
        intro x b x0 hx
        refine ⟨fun h => Or.inl h, ?_⟩
        rintro (h | ⟨y, h1, h2, _⟩)
        · exact h
        · omega
      | succ m ihm =>
        intro x b x0 hx
        unfold mg_kids
        rw [ihm (x + 1) _ (by omega) (by omega)]
        rcases mv_goesi01 v x p with hg | hg
        · rw [if_neg (by omega)]
          constructor
          · rintro (h | ⟨y, h1, h2, h3⟩)
            · exact Or.inl h
            · exact Or.inr ⟨y, by omega, h2, h3⟩
          · rintro (h | ⟨y, h1, h2, h3, h4⟩)
            · exact Or.inl h
            · by_cases e : y = x
              · rw [e, hg] at h3
                exact absurd h3 (by decide)
              · exact Or.inr ⟨y, by omega, h2, h3, h4⟩
        · rw [if_pos hg, ih b (d + 1) _ _ _ _ _ (mg_N_kid w hN (by omega) x0 (by omega)) (by omega)]
          constructor
          · rintro ((h | h) | ⟨y, h1, h2, h3⟩)
            · exact Or.inl h
            · exact Or.inr ⟨x, by omega, by omega, hg, h⟩
            · exact Or.inr ⟨y, by omega, h2, h3⟩
          · rintro (h | ⟨y, h1, h2, h3, h4⟩)
            · exact Or.inl (Or.inl h)
            · by_cases e : y = x
              · subst e
                exact Or.inl (Or.inr h4)
              · exact Or.inr ⟨y, by omega, h2, h3, h4⟩
    show Φ (mg_kids v p _ (v 25).toNat 0 (f a d p mo gr us pa)) ↔ _
    rw [K (v 25).toNat 0 _ (by omega) (by omega), hf a d p mo gr us pa hN, or_assoc]
    exact Iff.rfl
theorem mh_E_mono {v : Int → Int} {P Q : Int → Int → Int → Prop} (h : ∀ p gr us, P p gr us → Q p gr us) : ∀ (l : Nat) (d p mo gr us : Int), mh_E v P l d p mo gr us → mh_E v Q l d p mo gr us := by
  intro l
  induction l with
  | zero => intro d p mo gr us k; exact h _ _ _ k
  | succ l ih =>
    intro d p mo gr us k
    rcases k with k | ⟨x, h1, h2, h3, h4⟩
    · exact Or.inl (h _ _ _ k)
    · exact Or.inr ⟨x, h1, h2, h3, ih _ _ _ _ _ h4⟩
theorem mh_us {u x : Int} {S : Nat} (u0 : 0 ≤ u) (u1 : u < 256) (x0 : 0 ≤ x) (x1 : x < 8) : mh_sub (am_or u (am_shl 1 x)).toNat S ↔ mh_sub u.toNat S ∧ S.testBit x.toNat = true := by
  have e : am_or u (am_shl 1 x) = ((u.toNat ||| 2 ^ x.toNat : Nat) : Int) := by
    have q := mh_or (s := u.toNat) (x := x.toNat) (by omega) (by omega)
    rw [Int.toNat_of_nonneg u0, Int.toNat_of_nonneg x0] at q
    exact q
  rw [e, Int.toNat_natCast]
  exact mh_or_sub (by omega)
theorem mh_E_us {v : Int → Int} {P : Int → Int → Prop} {S : Nat} (w : mv_WF v) : ∀ (l : Nat) (d p mo gr us : Int), mg_N v d p mo gr us → d + l ≤ 8 → mh_E v (fun p gr us => P p gr ∧ mh_sub us.toNat S) l d p mo gr us → mh_sub us.toNat S := by
  have w1 := w.1
  intro l
  induction l with
  | zero => intro d p mo gr us hN _ k; exact k.2
  | succ l ih =>
    intro d p mo gr us hN hd k
    rcases k with k | ⟨x, h1, h2, h3, h4⟩
    · exact k.2
    · have q := ih _ _ _ _ _ (mg_N_kid w hN (by omega) h1 h2) (by omega) h4
      obtain ⟨hN1, hN2, hN3, hN4, hN5, hN6, hN7, hN8, hN9, hN10⟩ := hN
      exact ((mh_us hN9 hN10 h1 (by omega)).1 q).1
theorem mh_E_ex {v : Int → Int} {P : Int → Int → Prop} {S : Nat} (w : mv_WF v) : ∀ (l : Nat) (d p mo gr us : Int), mg_N v d p mo gr us → d + l ≤ 8 → (mh_E v (fun p gr us => P p gr ∧ mh_sub us.toNat S) l d p mo gr us ↔ ∃ k : Nat, k < 256 ∧ mh_sub k S ∧ mh_E v (fun p gr us => P p gr ∧ us = (k : Int)) l d p mo gr us) := by
  have w1 := w.1
  intro l d p mo gr us hN hd
  constructor
  · revert d p mo gr us
    induction l with
    | zero =>
      intro d p mo gr us hN hd k
      obtain ⟨hN1, hN2, hN3, hN4, hN5, hN6, hN7, hN8, hN9, hN10⟩ := hN
      exact ⟨us.toNat, by omega, k.2, k.1, by omega⟩
    | succ l ih =>
      intro d p mo gr us hN hd k
      rcases k with k | ⟨x, h1, h2, h3, h4⟩
      · obtain ⟨hN1, hN2, hN3, hN4, hN5, hN6, hN7, hN8, hN9, hN10⟩ := hN
        exact ⟨us.toNat, by omega, k.2, Or.inl ⟨k.1, by omega⟩⟩
      · obtain ⟨k, k1, k2, k3⟩ := ih _ _ _ _ _ (mg_N_kid w hN (by omega) h1 h2) (by omega) h4
        exact ⟨k, k1, k2, Or.inr ⟨x, h1, h2, h3, k3⟩⟩
  · rintro ⟨k, k1, k2, k3⟩
    refine mh_E_mono (fun p gr us h => ⟨h.1, ?_⟩) l d p mo gr us k3
    rw [h.2, Int.toNat_natCast]
    exact k2
theorem mh_WF {v : Int → Int} {S : Int} (w : mv_WF v) (h0 : 0 ≤ S) (h1 : S < 2 ^ (v 25).toNat) : mv_WF (mv_set v 5 S) := by
  have e : ∀ k : Int, k ≠ 5 → mv_set v 5 S k = v k := fun k h => mv_set_ne h
  obtain ⟨⟨a1, a2, a3, a4, a5, a6, a7, a8, a9, a10, a11, a12, a13⟩, b, c, d, f, g⟩ := w
  unfold mv_WF
  rw [e 6 (by decide), e 25 (by decide), e 0 (by decide), e 1 (by decide), e 2 (by decide), e 3 (by decide), e 4 (by decide), mv_set_eq]
  refine ⟨⟨a1, a2, a3, a4, a5, a6, a7, a8, a9, a10, a11, a12, h0⟩, b, c, h1, fun c c0 c1 => ?_, fun x x0 x1 => ?_⟩
  · rw [e _ (by omega), e _ (by omega), e _ (by omega)]
    exact f c c0 c1
  · rw [e _ (by omega), e _ (by omega)]
    exact g x x0 x1
theorem mh_goes {v : Int → Int} {x p : Int} {S O : Nat} (w : mv_WF v) (hO : v 5 = O) (hO1 : O < 256) (hS : mh_sub S O) (hS1 : S < 256) : mv_goesi (mv_set v 5 S) x p = 1 ↔ (mv_goesi v x p = 1 ∧ S.testBit x.toNat = true) := by
  have w1 := w.1
  rw [mv_goesi1, mv_goesi1]
  have e : ∀ k : Int, k ≠ 5 → mv_set v 5 S k = v k := fun k h => mv_set_ne h
  rw [e 25 (by decide), mv_set_eq, hO]
  constructor
  · rintro ⟨h1, h2, h3, h4⟩
    rw [e _ (by omega)] at h4
    rw [show x = ((x.toNat : Nat) : Int) by omega] at h3
    have b := (mh_bit hS1 (show x.toNat < 8 by omega)).1 h3
    have o := (mh_bit hO1 (show x.toNat < 8 by omega)).2 (hS _ (by omega) b)
    rw [show ((x.toNat : Nat) : Int) = x by omega] at o
    exact ⟨⟨h1, h2, o, h4⟩, b⟩
  · rintro ⟨⟨h1, h2, h3, h4⟩, b⟩
    have o := (mh_bit hS1 (show x.toNat < 8 by omega)).2 b
    rw [show ((x.toNat : Nat) : Int) = x by omega] at o
    rw [e _ (by omega)]
    exact ⟨h1, h2, o, h4⟩
theorem mh_E_set {v : Int → Int} {P : Int → Int → Prop} {S O : Nat} (w : mv_WF v) (hO : v 5 = O) (hO1 : O < 256) (hS : mh_sub S O) (hS1 : S < 256) : ∀ (l : Nat) (d p mo gr us : Int), mg_N v d p mo gr us → d + l ≤ 8 → mh_sub us.toNat S → (mh_E (mv_set v 5 S) (fun p gr _ => P p gr) l d p mo gr us ↔ mh_E v (fun p gr us => P p gr ∧ mh_sub us.toNat S) l d p mo gr us) := by
  have w1 := w.1
  have e : ∀ k : Int, k ≠ 5 → mv_set v 5 S k = v k := fun k h => mv_set_ne h
  intro l
  induction l with
  | zero => intro d p mo gr us hN _ hs; exact ⟨fun k => ⟨k, hs⟩, fun k => k.1⟩
  | succ l ih =>
    intro d p mo gr us hN hd hs
    have hN' := hN
    obtain ⟨hN1, hN2, hN3, hN4, hN5, hN6, hN7, hN8, hN9, hN10⟩ := hN'
    have ep : ∀ x : Int, 0 ≤ x → x < v 25 → mv_passed (mv_set v 5 S) (v (27 + 2 * x)) mo (v 3 + d) = mv_passed v (v (27 + 2 * x)) mo (v 3 + d) ∧ mv_cost (mv_set v 5 S) (v (27 + 2 * x)) mo (v 3 + d) = mv_cost v (v (27 + 2 * x)) mo (v 3 + d) := by
      intro x x0 x1
      have wx := w.2.2.2.2.2 x x0 x1
      exact ⟨mv_passed_eq (e _ (by omega)) (e _ (by omega)), mv_cost_eq (e _ (by decide)) (e _ (by omega)) (e _ (by omega)) (e _ (by omega))⟩
    constructor
    · rintro (k | ⟨x, h1, h2, h3, h4⟩)
      · exact Or.inl ⟨k, hs⟩
      · rw [e 25 (by decide)] at h2
        obtain ⟨g1, g2⟩ := (mh_goes w hO hO1 hS hS1).1 h3
        rw [e (27 + 2 * x) (by omega), e 3 (by decide), (ep x h1 h2).1, (ep x h1 h2).2] at h4
        exact Or.inr ⟨x, h1, h2, g1, (ih _ _ _ _ _ (mg_N_kid w hN (by omega) h1 h2) (by omega) ((mh_us hN9 hN10 h1 (by omega)).2 ⟨hs, g2⟩)).1 h4⟩
    · rintro (k | ⟨x, h1, h2, h3, h4⟩)
      · exact Or.inl k.1
      · have q := mh_E_us w l _ _ _ _ _ (mg_N_kid w hN (by omega) h1 h2) (by omega) h4
        have g2 := ((mh_us hN9 hN10 h1 (by omega)).1 q).2
        refine Or.inr ⟨x, h1, by rw [e 25 (by decide)]; exact h2, (mh_goes w hO hO1 hS hS1).2 ⟨h3, g2⟩, ?_⟩
        rw [e (27 + 2 * x) (by omega), e 3 (by decide), (ep x h1 h2).1, (ep x h1 h2).2]
        exact (ih _ _ _ _ _ (mg_N_kid w hN (by omega) h1 h2) (by omega) q).2 h4
theorem mh_fc {v : Int → Int} {c q : Int} (a : mg_A) (d p mo gr us : Int) (pa : Int → Int) (hN : mg_N v d p mo gr us) : (0 ≤ (mg_fc c a d p mo gr us pa).1 ∧ (mg_fc c a d p mo gr us pa).2.1 ≤ q) ↔ (0 ≤ a.1 ∧ a.2.1 ≤ q) ∨ (p = c ∧ gr ≤ q) := by
  have h1 := hN.1
  unfold mg_fc
  by_cases h : p = c ∧ (a.1 < 0 ∨ gr < a.2.1 ∨ (gr = a.2.1 ∧ d < a.1))
  · rw [if_pos h]
    show (0 ≤ d ∧ gr ≤ q) ↔ _
    omega
  · rw [if_neg h]
    omega
/-- the class's marks -/
def mg_fw (ai q : Int) (a : Int → Int) (_d p _mo gr us : Int) (_pa : Int → Int) : Int → Int := if p = ai ∧ gr ≤ q then mv_set a us 1 else a
theorem mh_fw {v : Int → Int} {c q : Int} {k : Int} (a : Int → Int) (d p mo gr us : Int) (pa : Int → Int) (_hN : mg_N v d p mo gr us) : mg_fw c q a d p mo gr us pa k ≠ 0 ↔ a k ≠ 0 ∨ ((p = c ∧ gr ≤ q) ∧ us = k) := by
  unfold mg_fw
  by_cases h : p = c ∧ gr ≤ q
  · rw [if_pos h]
    by_cases e : k = us
    · rw [e, mv_set_eq]
      exact ⟨fun _ => Or.inr ⟨h, rfl⟩, fun _ => by decide⟩
    · rw [mv_set_ne e]
      exact ⟨fun x => Or.inl x, fun x => x.elim id (fun y => absurd y.2.symm e)⟩
  · rw [if_neg h]
    exact ⟨fun x => Or.inl x, fun x => x.elim id (fun y => absurd y.1 h)⟩
/-- what the model finds over a set, and what the class has marked -/
theorem mh_found {v : Int → Int} {c q : Int} {S O : Nat} (w : mv_WF v) (h6 : 0 < v 6) (hO : v 5 = O) (hO1 : O < 256) (hS : mh_sub S O) (hS1 : S < 256) : (0 ≤ (mg_tree (mv_set v 5 S) (mg_fc c) 8 mg_a0 0 (v 4) (v 1) 0 0 (fun _ => 0)).1 ∧ (mg_tree (mv_set v 5 S) (mg_fc c) 8 mg_a0 0 (v 4) (v 1) 0 0 (fun _ => 0)).2.1 ≤ q) ↔ mh_up (fun k => mg_tree v (mg_fw c q) 8 (fun _ => 0) 0 (v 4) (v 1) 0 0 (fun _ => 0) (k : Int) ≠ 0) S := by
  have hN := mg_root w h6
  have hSO := mh_sub_le hS1 hO1 hS
  have w4 : (S : Int) < 2 ^ (v 25).toNat := by
    have := w.2.2.2.1
    omega
  have wS := mh_WF w (S := (S : Int)) (by omega) w4
  have hNS : mg_N (mv_set v 5 S) 0 (v 4) (v 1) 0 0 := mg_root wS h6
  have A := mh_tree (v := mv_set v 5 S) (f := mg_fc c) (P := fun p gr _ => p = c ∧ gr ≤ q) (Φ := fun a => 0 ≤ a.1 ∧ a.2.1 ≤ q) wS mh_fc 8 mg_a0 0 (v 4) (v 1) 0 0 (fun _ => 0) hNS (by decide)
  have B := mh_E_set (P := fun p gr => p = c ∧ gr ≤ q) w hO hO1 hS hS1 8 0 (v 4) (v 1) 0 0 hN (by decide) (fun x hx b => by
    rw [show (0 : Int).toNat = 0 from rfl, Nat.zero_testBit] at b
    exact absurd b (by decide))
  have D := mh_E_ex (P := fun p gr => p = c ∧ gr ≤ q) (S := S) w 8 0 (v 4) (v 1) 0 0 hN (by decide)
  have F : ∀ k : Nat, mg_tree v (mg_fw c q) 8 (fun _ => 0) 0 (v 4) (v 1) 0 0 (fun _ => 0) (k : Int) ≠ 0 ↔ mh_E v (fun p gr us => (p = c ∧ gr ≤ q) ∧ us = (k : Int)) 8 0 (v 4) (v 1) 0 0 := by
    intro k
    have := mh_tree (v := v) (f := mg_fw c q) (P := fun p gr us => (p = c ∧ gr ≤ q) ∧ us = (k : Int)) (Φ := fun a => a (k : Int) ≠ 0) w mh_fw 8 (fun _ => 0) 0 (v 4) (v 1) 0 0 (fun _ => 0) hN (by decide)
    rw [this]
    exact ⟨fun h => h.elim (fun h => absurd rfl h) id, Or.inr⟩
  have A' : (0 ≤ (mg_tree (mv_set v 5 S) (mg_fc c) 8 mg_a0 0 (v 4) (v 1) 0 0 (fun _ => 0)).1 ∧ (mg_tree (mv_set v 5 S) (mg_fc c) 8 mg_a0 0 (v 4) (v 1) 0 0 (fun _ => 0)).2.1 ≤ q) ↔ mh_E (mv_set v 5 S) (fun p gr _ => p = c ∧ gr ≤ q) 8 0 (v 4) (v 1) 0 0 := A.trans ⟨fun h => h.elim (fun h => absurd h.1 (by decide)) id, Or.inr⟩
  rw [A', B, D]
  unfold mh_up
  constructor
  · rintro ⟨k, k1, k2, k3⟩
    exact ⟨k, k1, k2, (F k).2 k3⟩
  · rintro ⟨k, k1, k2, k3⟩
    exact ⟨k, k1, k2, (F k).1 k3⟩
