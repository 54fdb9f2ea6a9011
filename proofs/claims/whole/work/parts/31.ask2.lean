/-! ask -/
def mk_log (kd what : Int) : List Int := if what = 0 then (if kd = 1 then [11, 10, 21, 20] else if kd = 2 then [12, 11, 10, 24, 21, 20] else if kd = 3 then [11, 10, 22, 21, 20] else if kd = 4 then [13, 10] else [14, 13, 10]) else (if kd = 1 then [21, 20] else if kd = 2 then [24, 21, 20] else if kd = 3 then [22, 21, 20] else if kd = 4 then [23, 20, 13, 10] else [23, 20, 14, 13, 10])
def mk_val (kd mu fe p what : Int) : Int := if what = 0 then (if kd = 1 then fe + (p + mu) else if kd = 2 then -(fe + 2 * (p + mu)) else if kd = 3 then fe + (p + mu - 1000) else if kd = 4 then fe - 100 else 2 * (fe - 100)) else (if kd = 1 then p + mu else if kd = 2 then 2 * (p + mu) else if kd = 3 then p + mu - 1000 else if kd = 4 then p - (fe - 100) else p - 2 * (fe - 100))
def mk_T (v : Int → Int) (f : am_Mem → Option (Int × am_Mem)) (z : Int) (M : List Int) : Prop := ∀ (σ : am_Mem) (L : List Int), L.length + M.length ≤ 16 → mv_V0 σ 81 v → mk_l7 σ L → ∃ σ', f σ = some (z, σ') ∧ mk_l7 σ' (L ++ M) ∧ ∀ a : Nat, a ≠ 75 → a ≠ 93 → σ' a = σ a
theorem mk_V_fr {σ τ : am_Mem} {v : Int → Int} (h : mv_V0 σ 81 v) (e : ∀ a : Nat, a ≠ 75 → a ≠ 93 → τ a = σ a) : mv_V0 τ 81 v := by
  unfold mv_V0
  rw [e 81 (by decide) (by decide)]
  exact h
theorem mk_T_leave {n : Nat} {v : Int → Int} {f : am_Mem → Option (Int × am_Mem)} {b z : Int} {M : List Int} (H : mk_T v f z M) : mk_T v (fun σ => am_b1 (f_X7_leaves n b σ) f) z (b :: M) := by
  intro σ L hl r hL
  have hl : L.length + (M.length + 1) ≤ 16 := hl
  obtain ⟨σ1, e1, l1, f1⟩ := mk_leave7 (n := n) (b := b) hL (by omega)
  obtain ⟨σ2, e2, l2, f2⟩ := H σ1 (L ++ [b]) (by rw [List.length_append]; show L.length + 1 + M.length ≤ 16; omega) (mk_V_fr r f1) l1
  refine ⟨σ2, ?_, by rw [List.append_assoc] at l2; exact l2, fun a h1 h2 => by rw [f2 a h1 h2, f1 a h1 h2]⟩
  show am_b1 (f_X7_leaves n b σ) f = _
  rw [e1, am_b1_some, e2]
theorem mk_T_ret {v : Int → Int} {f : am_Mem → Option (Int × am_Mem)} {z : Int} (H : ∀ σ : am_Mem, mv_V0 σ 81 v → f σ = some (z, σ)) : mk_T v f z [] := by
  intro σ L _ r hL
  exact ⟨σ, H σ r, by rw [List.append_nil]; exact hL, fun _ _ _ => rfl⟩
theorem mk_T_map {v : Int → Int} {f : am_Mem → Option (Int × am_Mem)} {g : Int → Int} {z : Int} {M : List Int} (H : mk_T v f z M) : mk_T v (fun σ => am_b2 (f σ) fun r σ' => some (g r, σ')) (g z) M := by
  intro σ L hl r hL
  obtain ⟨σ2, e2, l2, f2⟩ := H σ L hl r hL
  refine ⟨σ2, ?_, l2, f2⟩
  show am_b2 (f σ) _ = _
  rw [e2, am_b2_some]
theorem mk_T_eq {v : Int → Int} {f g : am_Mem → Option (Int × am_Mem)} {z : Int} {M : List Int} (H : mk_T v f z M) (e : ∀ σ : am_Mem, mv_V0 σ 81 v → g σ = f σ) : mk_T v g z M := by
  intro σ L hl r hL
  rw [e σ r]
  exact H σ L hl r hL
theorem mk_jm27 {n : Nat} {v : Int → Int} {p x : Int} (w : mv_WF v) (h : 0 ≤ p ∧ p < v 6) : mk_T v (fb_X7_joyMark_27 n p x) (if x = 2 then 2 * (p + v (8 + 3 * p)) else if x = 3 then p + v (8 + 3 * p) - 1000 else p + v (8 + 3 * p)) [21, 20] := by
  have w1 := w.1
  have wk := w.2.2.2.2.1 p h.1 h.2
  refine mk_T_leave (f := fun σ7 => am_b1 (f_X7_leaves n 20 σ7) fun σ10 => if (0 : Int) ≤ am_w ((am_w (7 + (am_w (3 * p)))) + 1) ∧ am_w ((am_w (7 + (am_w (3 * p)))) + 1) < 42 then if x = 2 then (some (am_w (2 * (am_w (p + (σ10 81 (am_w ((am_w (7 + (am_w (3 * p)))) + 1)))))), σ10)) else (if x = 3 then (some (am_w ((am_w (p + (σ10 81 (am_w ((am_w (7 + (am_w (3 * p)))) + 1))))) - 1000), σ10)) else (some (am_w (p + (σ10 81 (am_w ((am_w (7 + (am_w (3 * p)))) + 1)))), σ10))) else none) (mk_T_leave (mk_T_ret ?_))
  intro σ r
  have k := mv_at r (k' := 8 + 3 * p) (show 7 + 3 * p + 1 = 8 + 3 * p by omega) (by omega)
  rw [am_w_id (z := 3 * p) (by omega), am_w_id (z := 7 + 3 * p) (by omega), am_w_id (z := 7 + 3 * p + 1) (by omega), if_pos (show (0 : Int) ≤ 7 + 3 * p + 1 ∧ 7 + 3 * p + 1 < 42 by omega), k, am_w_id (z := p + v (8 + 3 * p)) (by omega), am_w_id (z := 2 * (p + v (8 + 3 * p))) (by omega), am_w_id (z := p + v (8 + 3 * p) - 1000) (by omega)]
  repeat' split
  all_goals rfl
theorem mk_gs25 {n : Nat} {v : Int → Int} {p x : Int} (w : mv_WF v) (h : 0 ≤ p ∧ p < v 6) : mk_T v (fb_X7_griefSize_25 n p x) (if x = 0 then v (9 + 3 * p) - 100 else 2 * (v (9 + 3 * p) - 100)) [13, 10] := by
  have w1 := w.1
  have wk := w.2.2.2.2.1 p h.1 h.2
  refine mk_T_leave (f := fun σ10 => am_b1 (f_X7_leaves n 10 σ10) fun σ13 => if (0 : Int) ≤ am_w ((am_w (7 + (am_w (3 * p)))) + 2) ∧ am_w ((am_w (7 + (am_w (3 * p)))) + 2) < 42 then if x = 0 then (some (am_w ((σ13 81 (am_w ((am_w (7 + (am_w (3 * p)))) + 2))) - 100), σ13)) else (some (am_w (2 * (am_w ((σ13 81 (am_w ((am_w (7 + (am_w (3 * p)))) + 2))) - 100))), σ13)) else none) (mk_T_leave (mk_T_ret ?_))
  intro σ r
  have k := mv_at r (k' := 9 + 3 * p) (show 7 + 3 * p + 2 = 9 + 3 * p by omega) (by omega)
  rw [am_w_id (z := 3 * p) (by omega), am_w_id (z := 7 + 3 * p) (by omega), am_w_id (z := 7 + 3 * p + 2) (by omega), if_pos (show (0 : Int) ≤ 7 + 3 * p + 2 ∧ 7 + 3 * p + 2 < 42 by omega), k, am_w_id (z := v (9 + 3 * p) - 100) (by omega), am_w_id (z := 2 * (v (9 + 3 * p) - 100)) (by omega)]
  repeat' split
  all_goals rfl
theorem mk_jm {n : Nat} {v : Int → Int} {p : Int} (w : mv_WF v) (h : 0 ≤ p ∧ p < v 6) (hk : v (7 + 3 * p) ≤ 3) : mk_T v (f_X7_joyMark n p) (mk_val (v (7 + 3 * p)) (v (8 + 3 * p)) (v (9 + 3 * p)) p 1) (mk_log (v (7 + 3 * p)) 1) := by
  have wk := w.2.2.2.2.1 p h.1 h.2
  have J := fun x => mk_jm27 (n := n) (x := x) w h
  have hc : v (7 + 3 * p) = 1 ∨ v (7 + 3 * p) = 2 ∨ v (7 + 3 * p) = 3 := by omega
  rcases hc with hc | hc | hc
  · have J1 := J 1
    rw [hc]
    refine mk_T_eq J1 (fun σ r => ?_)
    unfold f_X7_joyMark
    rw [mv_kindIn r w h, am_b2_some, hc, if_pos rfl]
  · have J1 := mk_T_leave (n := n) (b := 24) (J 2)
    rw [hc]
    refine mk_T_eq J1 (fun σ r => ?_)
    unfold f_X7_joyMark
    rw [mv_kindIn r w h, am_b2_some, hc, if_neg (by decide), if_pos rfl]
  · have J1 := mk_T_leave (n := n) (b := 22) (J 3)
    rw [hc]
    refine mk_T_eq J1 (fun σ r => ?_)
    unfold f_X7_joyMark
    rw [mv_kindIn r w h, am_b2_some, hc, if_neg (by decide), if_neg (by decide)]
theorem mk_gs {n : Nat} {v : Int → Int} {p : Int} (w : mv_WF v) (h : 0 ≤ p ∧ p < v 6) (hk : 4 ≤ v (7 + 3 * p)) : mk_T v (f_X7_griefSize n p) (mk_val (v (7 + 3 * p)) (v (8 + 3 * p)) (v (9 + 3 * p)) p 0) (mk_log (v (7 + 3 * p)) 0) := by
  have wk := w.2.2.2.2.1 p h.1 h.2
  have J := fun x => mk_gs25 (n := n) (x := x) w h
  have hc : v (7 + 3 * p) = 4 ∨ v (7 + 3 * p) = 5 := by omega
  rcases hc with hc | hc
  · have J1 := J 0
    rw [hc]
    refine mk_T_eq J1 (fun σ r => ?_)
    unfold f_X7_griefSize
    rw [mv_kindIn r w h, am_b2_some, hc, if_neg (by decide)]
  · have J1 := mk_T_leave (n := n) (b := 14) (J 1)
    rw [hc]
    refine mk_T_eq J1 (fun σ r => ?_)
    unfold f_X7_griefSize
    rw [mv_kindIn r w h, am_b2_some, hc, if_pos rfl]
theorem mk_gm {n : Nat} {v : Int → Int} {p : Int} (w : mv_WF v) (h : 0 ≤ p ∧ p < v 6) (hk : 4 ≤ v (7 + 3 * p)) : mk_T v (f_X7_griefMark n p) (mk_val (v (7 + 3 * p)) (v (8 + 3 * p)) (v (9 + 3 * p)) p 1) (mk_log (v (7 + 3 * p)) 1) := by
  have w1 := w.1
  have wk := w.2.2.2.2.1 p h.1 h.2
  have J := mk_T_leave (n := n) (b := 23) (mk_T_leave (n := n) (b := 20) (mk_T_map (g := fun r => am_w (p - r)) (mk_gs (n := n) w h hk)))
  have hc : v (7 + 3 * p) = 4 ∨ v (7 + 3 * p) = 5 := by omega
  have ez : am_w (p - mk_val (v (7 + 3 * p)) (v (8 + 3 * p)) (v (9 + 3 * p)) p 0) = mk_val (v (7 + 3 * p)) (v (8 + 3 * p)) (v (9 + 3 * p)) p 1 := by
    rcases hc with hc | hc
    · rw [hc]
      exact am_w_id (show -2147483648 ≤ p - (v (9 + 3 * p) - 100) ∧ p - (v (9 + 3 * p) - 100) ≤ 2147483647 by omega)
    · rw [hc]
      exact am_w_id (show -2147483648 ≤ p - 2 * (v (9 + 3 * p) - 100) ∧ p - 2 * (v (9 + 3 * p) - 100) ≤ 2147483647 by omega)
  have el : 23 :: 20 :: mk_log (v (7 + 3 * p)) 0 = mk_log (v (7 + 3 * p)) 1 := by
    rcases hc with hc | hc <;> rw [hc] <;> rfl
  rw [← el, ← ez]
  exact J
theorem mk_js {n : Nat} {v : Int → Int} {p : Int} (w : mv_WF v) (h : 0 ≤ p ∧ p < v 6) (hk : v (7 + 3 * p) ≤ 3) : mk_T v (f_X7_joySize n p) (mk_val (v (7 + 3 * p)) (v (8 + 3 * p)) (v (9 + 3 * p)) p 0) (mk_log (v (7 + 3 * p)) 0) := by
  have w1 := w.1
  have wk := w.2.2.2.2.1 p h.1 h.2
  have hc : v (7 + 3 * p) = 1 ∨ v (7 + 3 * p) = 2 ∨ v (7 + 3 * p) = 3 := by omega
  have J := fun x : Int => mk_T_leave (n := n) (b := 11) (mk_T_leave (n := n) (b := 10) (mk_T_map (g := fun r => if x = 0 then am_w (v (9 + 3 * p) + r) else am_w (-(am_w (v (9 + 3 * p) + r)))) (mk_jm (n := n) w h hk)))
  have E : ∀ x : Int, mk_T v (fb_X7_joySize_25 n p x) (if x = 0 then am_w (v (9 + 3 * p) + mk_val (v (7 + 3 * p)) (v (8 + 3 * p)) (v (9 + 3 * p)) p 1) else am_w (-(am_w (v (9 + 3 * p) + mk_val (v (7 + 3 * p)) (v (8 + 3 * p)) (v (9 + 3 * p)) p 1)))) (11 :: 10 :: mk_log (v (7 + 3 * p)) 1) := by
    intro x σ L hl r hL
    obtain ⟨σ', e, q1, q2⟩ := J x σ L hl r hL
    refine ⟨σ', ?_, q1, q2⟩
    rw [← e]
    have hl : L.length + ((mk_log (v (7 + 3 * p)) 1).length + 1 + 1) ≤ 16 := hl
    obtain ⟨σ1, e1, l1, f1⟩ := mk_leave7 (n := n) (b := 11) hL (by omega)
    obtain ⟨σ2, e2, l2, f2⟩ := mk_leave7 (n := n) (b := 10) l1 (by rw [List.length_append]; show L.length + 1 < 16; omega)
    have rr := mk_V_fr (mk_V_fr r f1) f2
    have k := mv_at rr (k' := 9 + 3 * p) (show 7 + 3 * p + 2 = 9 + 3 * p by omega) (by omega)
    show fb_X7_joySize_25 n p x σ = am_b1 (f_X7_leaves n 11 σ) _
    unfold fb_X7_joySize_25
    rw [e1, am_b1_some, am_b1_some, e2, am_b1_some, am_b1_some, am_w_id (z := 3 * p) (by omega), am_w_id (z := 7 + 3 * p) (by omega), am_w_id (z := 7 + 3 * p + 2) (by omega), if_pos (show (0 : Int) ≤ 7 + 3 * p + 2 ∧ 7 + 3 * p + 2 < 42 by omega), k]
    congr 1
    funext r s
    split <;> rfl
  rcases hc with hc | hc | hc
  · have E0 := E 0
    rw [hc] at E0
    rw [hc]
    have e0 : am_w (v (9 + 3 * p) + mk_val 1 (v (8 + 3 * p)) (v (9 + 3 * p)) p 1) = mk_val 1 (v (8 + 3 * p)) (v (9 + 3 * p)) p 0 := am_w_id (show -2147483648 ≤ v (9 + 3 * p) + (p + v (8 + 3 * p)) ∧ v (9 + 3 * p) + (p + v (8 + 3 * p)) ≤ 2147483647 by omega)
    rw [if_pos rfl, e0] at E0
    refine mk_T_eq E0 (fun σ r => ?_)
    unfold f_X7_joySize
    rw [mv_kindIn r w h, am_b2_some, hc, if_neg (by decide)]
  · have E0 := mk_T_leave (n := n) (b := 12) (E 1)
    rw [hc] at E0
    rw [hc]
    have e0 : am_w (v (9 + 3 * p) + mk_val 2 (v (8 + 3 * p)) (v (9 + 3 * p)) p 1) = v (9 + 3 * p) + 2 * (p + v (8 + 3 * p)) := am_w_id (show -2147483648 ≤ v (9 + 3 * p) + 2 * (p + v (8 + 3 * p)) ∧ v (9 + 3 * p) + 2 * (p + v (8 + 3 * p)) ≤ 2147483647 by omega)
    rw [if_neg (by decide), e0, am_w_id (by omega)] at E0
    refine mk_T_eq E0 (fun σ r => ?_)
    unfold f_X7_joySize
    rw [mv_kindIn r w h, am_b2_some, hc, if_pos rfl]
  · have E0 := E 0
    rw [hc] at E0
    rw [hc]
    have e0 : am_w (v (9 + 3 * p) + mk_val 3 (v (8 + 3 * p)) (v (9 + 3 * p)) p 1) = mk_val 3 (v (8 + 3 * p)) (v (9 + 3 * p)) p 0 := am_w_id (show -2147483648 ≤ v (9 + 3 * p) + (p + v (8 + 3 * p) - 1000) ∧ v (9 + 3 * p) + (p + v (8 + 3 * p) - 1000) ≤ 2147483647 by omega)
    rw [if_pos rfl, e0] at E0
    refine mk_T_eq E0 (fun σ r => ?_)
    unfold f_X7_joySize
    rw [mv_kindIn r w h, am_b2_some, hc, if_neg (by decide)]
theorem mk_ask7 {n : Nat} {v : Int → Int} {p q : Int} {σ : am_Mem} (w : mv_WF v) (h : 0 ≤ p ∧ p < v 6) (hq : q = 0 ∨ q = 1) (r : mv_V0 σ 81 v) : ∃ σ', f_X7_ask n p q σ = some (mk_val (v (7 + 3 * p)) (v (8 + 3 * p)) (v (9 + 3 * p)) p q, σ') ∧ mk_l7 σ' (mk_log (v (7 + 3 * p)) q) ∧ ∀ a : Nat, a ≠ 75 → a ≠ 93 → σ' a = σ a := by
  have wk := w.2.2.2.2.1 p h.1 h.2
  have r1 : mv_V0 (am_up σ 75 31 0) 81 v := by
    unfold mv_V0
    rw [ah_up_ne _ _ _ (by decide)]
    exact r
  have l1 : mk_l7 (am_up σ 75 31 0) [] := ⟨mv_up_eq, fun i hi => absurd hi (Nat.not_lt_zero i)⟩
  have ll : ([] : List Int).length + (mk_log (v (7 + 3 * p)) q).length ≤ 16 := by
    have hc : v (7 + 3 * p) = 1 ∨ v (7 + 3 * p) = 2 ∨ v (7 + 3 * p) = 3 ∨ v (7 + 3 * p) = 4 ∨ v (7 + 3 * p) = 5 := by omega
    rcases hc with hc | hc | hc | hc | hc <;> rcases hq with hq | hq <;> rw [hc, hq] <;> decide
  have K : ∀ f : am_Mem → Option (Int × am_Mem), mk_T v f (mk_val (v (7 + 3 * p)) (v (8 + 3 * p)) (v (9 + 3 * p)) p q) (mk_log (v (7 + 3 * p)) q) → f_X7_ask n p q σ = am_b2 (f (am_up σ 75 31 0)) (fun r s => some (r, s)) → ∃ σ', f_X7_ask n p q σ = some (mk_val (v (7 + 3 * p)) (v (8 + 3 * p)) (v (9 + 3 * p)) p q, σ') ∧ mk_l7 σ' (mk_log (v (7 + 3 * p)) q) ∧ ∀ a : Nat, a ≠ 75 → a ≠ 93 → σ' a = σ a := by
    intro f hf e
    obtain ⟨σ', e1, g1, g2⟩ := hf _ _ ll r1 l1
    refine ⟨σ', ?_, g1, fun a h1 h2 => by rw [g2 a h1 h2, ah_up_ne _ _ _ h1]⟩
    rw [e, e1, am_b2_some]
  have A : f_X7_ask n p q σ = (if v (7 + 3 * p) < 4 then fb_X7_ask_39 n p q 0 (am_up σ 75 31 0) else fb_X7_ask_39 n p q 1 (am_up σ 75 31 0)) := by
    unfold f_X7_ask
    rw [mv_misC r w, am_b2_some, if_pos h, if_neg (by decide), mv_in, am_b2_some, if_pos (show 0 ≤ q ∧ q ≤ 1 by omega), if_neg (by decide), am_b1_some, mv_kindIn r1 w h, am_b2_some]
  by_cases hk : v (7 + 3 * p) < 4
  · rw [if_pos hk] at A
    rcases hq with hq | hq
    · subst hq
      exact K _ (mk_js (n := n) w h (by omega)) (by rw [A]; rfl)
    · subst hq
      exact K _ (mk_jm (n := n) w h (by omega)) (by rw [A]; rfl)
  · rw [if_neg hk] at A
    rcases hq with hq | hq
    · subst hq
      exact K _ (mk_gs (n := n) w h (by omega)) (by rw [A]; rfl)
    · subst hq
      exact K _ (mk_gm (n := n) w h (by omega)) (by rw [A]; rfl)
theorem mk_all {n : Nat} {p kd mu fe sb mb q : Int} (hp : 0 ≤ p ∧ p < 6) (hk : 1 ≤ kd ∧ kd ≤ 5) (hm : 0 ≤ mu ∧ mu ≤ 9) (hf : 0 ≤ fe ∧ fe ≤ 9) (hq : q = 0 ∨ q = 1) (hs : sb = (if kd = 1 then 11 else if kd = 2 then 12 else if kd = 3 then 11 else if kd = 4 then 13 else 14)) (hb : mb = (if kd = 1 then 21 else if kd = 2 then 24 else if kd = 3 then 22 else 23)) : ∃ k : Nat, k ≤ 10 ∧ mk_S n p kd mu fe sb mb (if q = 0 then sb else mb) k (mk_val kd mu fe p q) (mk_log kd q) := by
  have hc : kd = 1 ∨ kd = 2 ∨ kd = 3 ∨ kd = 4 ∨ kd = 5 := by omega
  rcases hc with hc | hc | hc | hc | hc
  · subst hc
    have hs : sb = 11 := hs
    have hb : mb = 21 := hb
    subst hs
    subst hb
    rcases hq with hq | hq
    · subst hq; exact ⟨3, by decide, mk_11 mk_21 (by decide) (by omega)⟩
    · subst hq; exact ⟨2, by decide, mk_21⟩
  · subst hc
    have hs : sb = 12 := hs
    have hb : mb = 24 := hb
    subst hs
    subst hb
    rcases hq with hq | hq
    · subst hq; exact ⟨5, by decide, mk_12 mk_24 (by decide) (by omega)⟩
    · subst hq; exact ⟨3, by decide, mk_24⟩
  · subst hc
    have hs : sb = 11 := hs
    have hb : mb = 22 := hb
    subst hs
    subst hb
    rcases hq with hq | hq
    · subst hq; exact ⟨4, by decide, mk_11 mk_22 (by decide) (by omega)⟩
    · subst hq; exact ⟨3, by decide, mk_22⟩
  · subst hc
    have hs : sb = 13 := hs
    have hb : mb = 23 := hb
    subst hs
    subst hb
    rcases hq with hq | hq
    · subst hq; exact ⟨2, by decide, mk_13⟩
    · subst hq; exact ⟨3, by decide, mk_23 mk_13 (by decide) (by omega)⟩
  · subst hc
    have hs : sb = 14 := hs
    have hb : mb = 23 := hb
    subst hs
    subst hb
    rcases hq with hq | hq
    · subst hq; exact ⟨3, by decide, mk_14⟩
    · subst hq; exact ⟨4, by decide, mk_23 mk_14 (by decide) (by omega)⟩
theorem mk_ask6 {n : Nat} {v : Int → Int} {p q : Int} {σ : am_Mem} (w : mv_WF v) (h : 0 ≤ p ∧ p < v 6) (hq : q = 0 ∨ q = 1) (r : mv_TR σ 18 v) (c : mr_cst σ) : ∃ σ', f_X6_ask n p q σ = some (mk_val (v (7 + 3 * p)) (v (8 + 3 * p)) (v (9 + 3 * p)) p q, σ') ∧ mk_l6 σ' (mk_log (v (7 + 3 * p)) q) ∧ ∀ a : Nat, a ≠ 73 → a ≠ 74 → σ' a = σ a := by
  have w1 := w.1
  have wk := w.2.2.2.2.1 p h.1 h.2
  obtain ⟨t1, t2, t3⟩ := r.2.1 p h.1 h.2
  obtain ⟨_, ⟨s0, s1, s2, s3, s4, s5⟩, ⟨m0, m1, m2, m3, m4, m5⟩⟩ := c
  have hc : v (7 + 3 * p) = 1 ∨ v (7 + 3 * p) = 2 ∨ v (7 + 3 * p) = 3 ∨ v (7 + 3 * p) = 4 ∨ v (7 + 3 * p) = 5 := by omega
  have es : σ 1 (v (7 + 3 * p)) = (if v (7 + 3 * p) = 1 then 11 else if v (7 + 3 * p) = 2 then 12 else if v (7 + 3 * p) = 3 then 11 else if v (7 + 3 * p) = 4 then 13 else 14) := by
    rcases hc with hc | hc | hc | hc | hc <;> rw [hc]
    · exact s1
    · exact s2
    · exact s3
    · exact s4
    · exact s5
  have em : σ 2 (v (7 + 3 * p)) = (if v (7 + 3 * p) = 1 then 21 else if v (7 + 3 * p) = 2 then 24 else if v (7 + 3 * p) = 3 then 22 else 23) := by
    rcases hc with hc | hc | hc | hc | hc <;> rw [hc]
    · exact m1
    · exact m2
    · exact m3
    · exact m4
    · exact m5
  obtain ⟨k, k10, H⟩ := mk_all (n := n) (p := p) (kd := v (7 + 3 * p)) (mu := v (8 + 3 * p)) (fe := v (9 + 3 * p)) (sb := σ 1 (v (7 + 3 * p))) (mb := σ 2 (v (7 + 3 * p))) (q := q) (by omega) (by omega) (by omega) (by omega) hq es em
  have U : ∀ a : Nat, a ≠ 73 → am_up σ 73 1 0 a = σ a := fun a ha => ah_up_ne _ _ _ ha
  have C : mk_C (am_up σ 73 1 0) p (v (7 + 3 * p)) (v (8 + 3 * p)) (v (9 + 3 * p)) (σ 1 (v (7 + 3 * p))) (σ 2 (v (7 + 3 * p))) := by
    unfold mk_C
    rw [U 19 (by decide), U 20 (by decide), U 21 (by decide), U 1 (by decide), U 2 (by decide)]
    exact ⟨by omega, by omega, ⟨t1, t2, t3⟩, ⟨rfl, rfl⟩, by omega, by omega⟩
  have l1 : mk_l6 (am_up σ 73 1 0) [] := ⟨mv_up_eq, fun i hi => absurd hi (Nat.not_lt_zero i)⟩
  have ll : ([] : List Int).length + (mk_log (v (7 + 3 * p)) q).length ≤ 16 := by
    rcases hc with hc | hc | hc | hc | hc <;> rcases hq with hq | hq <;> rw [hc, hq] <;> decide
  obtain ⟨σ', e, g1, g2⟩ := H 17 0 _ _ (by omega) (by omega) (by omega) ll C l1
  refine ⟨σ', ?_, g1, fun a h1 h2 => by rw [g2 a h1 h2, U a h1]⟩
  have t1' : am_up σ 73 1 0 19 p = v (7 + 3 * p) := by rw [U 19 (by decide)]; exact t1
  unfold f_X6_ask f_X1_answerOf
  rw [mv_hasC r, am_b2_some, if_pos h, if_neg (by decide), if_neg (show ¬ q < 0 by omega), if_pos (show q ≤ 1 by omega), am_b1_some, if_pos (show (0 : Int) ≤ p ∧ p < 6 by omega)]
  show am_b2 (if q = 0 then (if (0 : Int) ≤ am_up σ 73 1 0 19 p ∧ am_up σ 73 1 0 19 p < 6 then am_b2 (f_X1_gives n 17 (am_up σ 73 1 0 1 (am_up σ 73 1 0 19 p)) 18 p 0 (am_up σ 73 1 0)) fun r7 σ8 => some (r7, σ8) else none) else (if (0 : Int) ≤ am_up σ 73 1 0 19 p ∧ am_up σ 73 1 0 19 p < 6 then am_b2 (f_X1_gives n 17 (am_up σ 73 1 0 2 (am_up σ 73 1 0 19 p)) 18 p 0 (am_up σ 73 1 0)) fun r11 σ12 => some (r11, σ12) else none)) (fun r8 σ9 => some (r8, σ9)) = _
  rw [t1', U 1 (by decide), U 2 (by decide)]
  rcases hq with hq | hq
  · subst hq
    rw [if_pos rfl] at e
    rw [if_pos rfl, if_pos (show (0 : Int) ≤ v (7 + 3 * p) ∧ v (7 + 3 * p) < 6 by omega), e, am_b2_some, am_b2_some]
  · subst hq
    rw [if_neg (by decide)] at e
    rw [if_neg (by decide), if_pos (show (0 : Int) ≤ v (7 + 3 * p) ∧ v (7 + 3 * p) < 6 by omega), e, am_b2_some, am_b2_some]
theorem ma_ask {n : Nat} {σ : am_Mem} {v : Int → Int} {p1 p2 : Int} (R1 : mr_town σ v) (R2 : mr_tr σ) (R3 : mr_cst σ) : ∃ r σ1 σ2, f_X6_ask n p1 p2 σ = some (r, σ1) ∧ f_X7_ask n p1 p2 σ1 = some (r, σ2) ∧ mr_tr σ2 := by
  obtain ⟨w, w3, r1, r2⟩ := R1
  have w1 := w.1
  by_cases h : 0 ≤ p1 ∧ p1 < v 6
  · by_cases h2 : 0 ≤ p2 ∧ p2 ≤ 1
    · have hq : p2 = 0 ∨ p2 = 1 := by omega
      obtain ⟨σ1, e1, l1, f1⟩ := mk_ask6 (n := n) w h hq r1 R3
      have r2' : mv_V0 σ1 81 v := by
        unfold mv_V0
        rw [f1 81 (by decide) (by decide)]
        exact r2
      obtain ⟨σ2, e2, l2, f2⟩ := mk_ask7 (n := n) w h hq r2'
      refine ⟨_, σ1, σ2, e1, e2, ?_⟩
      have wk := w.2.2.2.2.1 p1 h.1 h.2
      have ll : (mk_log (v (7 + 3 * p1)) p2).length ≤ 16 := by
        have hc : v (7 + 3 * p1) = 1 ∨ v (7 + 3 * p1) = 2 ∨ v (7 + 3 * p1) = 3 ∨ v (7 + 3 * p1) = 4 ∨ v (7 + 3 * p1) = 5 := by omega
        rcases hc with hc | hc | hc | hc | hc <;> rcases hq with hq | hq <;> rw [hc, hq] <;> decide
      refine ⟨?_, ?_, ?_, ?_⟩
      · rw [f2 73 (by decide) (by decide), l1.1, l2.1]
      · rw [l2.1]; omega
      · rw [l2.1]; omega
      · intro i i0 i1
        rw [l2.1] at i1
        have a := l1.2 i.toNat (by omega)
        have b := l2.2 i.toNat (by omega)
        rw [Int.toNat_of_nonneg i0] at a b
        rw [f2 74 (by decide) (by decide), a, b]
    · refine ⟨-1000001, σ, σ, ?_, ?_, R2⟩
      · unfold f_X6_ask
        rw [mv_hasC r1, am_b2_some, if_pos h, if_neg (by decide)]
        by_cases h3 : p2 < 0
        · rw [if_pos h3]
        · rw [if_neg h3, if_neg (show ¬ p2 ≤ 1 by omega)]
      · unfold f_X7_ask
        rw [mv_misC r2 w, am_b2_some, if_pos h, if_neg (by decide), mv_in, am_b2_some, if_neg h2, if_pos rfl]
  · refine ⟨-1000001, σ, σ, ?_, ?_, R2⟩
    · unfold f_X6_ask
      rw [mv_hasC r1, am_b2_some, if_neg h, if_pos rfl]
    · unfold f_X7_ask
      rw [mv_misC r2 w, am_b2_some, if_neg h, if_pos rfl]
