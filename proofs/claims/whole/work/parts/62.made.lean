/-! what is made: rows -/
/-- memory while the constructors run: old cells stay, new ones hold 0, but two rows -/
def mk_I (σ0 : am_Mem) (N : Nat) (A B : Int) (σ : am_Mem) : Prop := (∀ a : Nat, a < 3 → σ a = σ0 a) ∧ (∀ a : Nat, 3 ≤ a → a < N → a ≠ 6 → a ≠ 76 → ∀ k : Int, σ a k = 0) ∧ (∀ k : Int, 0 ≤ k → k < A → σ 6 k = -1) ∧ (∀ k : Int, 0 ≤ k → k < B → σ 76 k = -1000000)
theorem mk_clr {σ0 σ : am_Mem} {N m : Nat} {A B : Int} (I : mk_I σ0 N A B σ) (h3 : 3 ≤ N) (hA : 6 < N ∨ A ≤ 0) (hB : 76 < N ∨ B ≤ 0) : mk_I σ0 (N + m) A B (am_clr σ N m) := by
  obtain ⟨h1, h2, h4, h5⟩ := I
  have old : ∀ a : Nat, a < N → am_clr σ N m a = σ a := fun a ha => by
    funext k
    unfold am_clr
    rw [if_neg (by omega)]
  refine ⟨fun a ha => (old a (by omega)).trans (h1 a ha), fun a a3 aN n6 n76 k => ?_, fun k k0 k1 => ?_, fun k k0 k1 => ?_⟩
  · by_cases g : a < N
    · rw [old a g]
      exact h2 a a3 g n6 n76 k
    · unfold am_clr
      rw [if_pos (by omega)]
  · rw [old 6 (by omega)]
    exact h4 k k0 k1
  · rw [old 76 (by omega)]
    exact h5 k k0 k1
theorem mk_up0 {σ0 σ : am_Mem} {N a : Nat} {A B j : Int} (I : mk_I σ0 N A B σ) (h3 : 3 ≤ a ∧ a ≠ 6 ∧ a ≠ 76) : mk_I σ0 N A B (am_up σ a j 0) := by
  obtain ⟨h1, h2, h4, h5⟩ := I
  refine ⟨fun b hb => ?_, fun b b3 bN n6 n76 k => ?_, fun k k0 k1 => ?_, fun k k0 k1 => ?_⟩
  · rw [ah_up_ne _ _ _ (by omega)]
    exact h1 b hb
  · unfold am_up
    split
    · rfl
    · exact h2 b b3 bN n6 n76 k
  · rw [ah_up_ne _ _ _ (Ne.symm h3.2.1)]
    exact h4 k k0 k1
  · rw [ah_up_ne _ _ _ (Ne.symm h3.2.2)]
    exact h5 k k0 k1
theorem mk_up6 {σ0 σ : am_Mem} {N : Nat} {A B : Int} (I : mk_I σ0 N A B σ) : mk_I σ0 N (A + 1) B (am_up σ 6 A (-1)) := by
  obtain ⟨h1, h2, h4, h5⟩ := I
  refine ⟨fun b hb => ?_, fun b b3 bN n6 n76 k => ?_, fun k k0 k1 => ?_, fun k k0 k1 => ?_⟩
  · rw [ah_up_ne _ _ _ (by omega)]
    exact h1 b hb
  · rw [ah_up_ne _ _ _ n6]
    exact h2 b b3 bN n6 n76 k
  · by_cases e : k = A
    · rw [e, mv_up_eq]
    · rw [mv_up_j e]
      exact h4 k k0 (by omega)
  · rw [ah_up_ne _ _ _ (by decide)]
    exact h5 k k0 k1
theorem mk_up76 {σ0 σ : am_Mem} {N : Nat} {A B : Int} (I : mk_I σ0 N A B σ) : mk_I σ0 N A (B + 1) (am_up σ 76 B (-1000000)) := by
  obtain ⟨h1, h2, h4, h5⟩ := I
  refine ⟨fun b hb => ?_, fun b b3 bN n6 n76 k => ?_, fun k k0 k1 => ?_, fun k k0 k1 => ?_⟩
  · rw [ah_up_ne _ _ _ (by omega)]
    exact h1 b hb
  · rw [ah_up_ne _ _ _ n76]
    exact h2 b b3 bN n6 n76 k
  · rw [ah_up_ne _ _ _ (by decide)]
    exact h4 k k0 k1
  · by_cases e : k = B
    · rw [e, mv_up_eq]
    · rw [mv_up_j e]
      exact h5 k k0 (by omega)
section
variable {d : Nat} {M : am_M} {Q : am_Post} {pc : Nat} {ls : am_L} {st : List am_V} {z : Int} {σ σ0 : am_Mem} {S S' : List am_SE} {c s N a k : Nat} {A B : Int} {h : am_H}
theorem rc_obj {ix na : Nat} {M' : am_M} (hd : decode M.2.2.1 pc = .ok (.invokespecial ix, 3)) (hm : xr_mth M.1 ix = some (4, M', na)) (hw : am_words st ≤ 8) (K : xs_AW (xs_aw d) M Q (pc + 3) ls st h) : xs_AW (xs_aw d) M Q pc ls (am_r a :: st) h := ar_go hd rfl (by
  simp only [xs_do, am_do, am_opt, hm]
  rw [if_pos True.intro]
  exact if_pos hw) K
theorem rc_new {ix ci : Nat} (hd : decode M.2.2.1 pc = .ok (.new ix, 3)) (hn : xr_new M.1 ix = some ci) (h100 : ci < 100) (hk : xr_num ci = k) (hl : S.length = N) (hS : S ++ [(ci, k, List.replicate k 0)] = S') (hc : c + 1 ≤ M.2.2.2.2.2.1 ∧ s + k ≤ M.2.2.2.2.2.2) (h3 : 3 ≤ N) (hA : 6 < N ∨ A ≤ 0) (hB : 76 < N ∨ B ≤ 0) (I : mk_I σ0 N A B σ) (K : ∀ σ', mk_I σ0 (N + 1) A B σ' → xs_AW (xs_aw d) M Q (pc + 3) ls (am_r N :: st) (S', c + 1, s + k, σ')) : xs_AW (xs_aw d) M Q pc ls st (S, c, s, σ) := by
  subst hl hS hk
  refine ar_go hd rfl ?_ (K _ (mk_clr I h3 hA hB))
  simp only [xs_do, am_do, am_opt, hn]
  exact (if_pos h100).trans (if_pos hc)
theorem rc_newi (hd : decode M.2.2.1 pc = .ok (.newarray .int, 2)) (hz : z = (k : Int)) (hk : k ≤ 100000) (hl : S.length = N) (hS : S ++ [(100, k, [])] = S') (hc : c + 1 ≤ M.2.2.2.2.2.1 ∧ s + k ≤ M.2.2.2.2.2.2) (h3 : 3 ≤ N) (hA : 6 < N ∨ A ≤ 0) (hB : 76 < N ∨ B ≤ 0) (I : mk_I σ0 N A B σ) (K : ∀ σ', mk_I σ0 (N + 1) A B σ' → xs_AW (xs_aw d) M Q (pc + 2) ls (am_r N :: st) (S', c + 1, s + k, σ')) : xs_AW (xs_aw d) M Q pc ls (am_i z :: st) (S, c, s, σ) := by
  subst hl hS hz
  refine ar_go hd rfl ?_ (K _ (mk_clr I h3 hA hB))
  simp only [xs_do, am_do, am_pI, Int.toNat_natCast]
  exact (if_pos (show (0 : Int) ≤ k ∧ (k : Int) ≤ 100000 by omega)).trans (if_pos hc)
theorem rc_newz (hd : decode M.2.2.1 pc = .ok (.newarray .boolean, 2)) (hz : z = (k : Int)) (hk : k ≤ 100000) (hl : S.length = N) (hS : S ++ [(101, k, [])] = S') (hc : c + 1 ≤ M.2.2.2.2.2.1 ∧ s + k ≤ M.2.2.2.2.2.2) (h3 : 3 ≤ N) (hA : 6 < N ∨ A ≤ 0) (hB : 76 < N ∨ B ≤ 0) (I : mk_I σ0 N A B σ) (K : ∀ σ', mk_I σ0 (N + 1) A B σ' → xs_AW (xs_aw d) M Q (pc + 2) ls (am_r N :: st) (S', c + 1, s + k, σ')) : xs_AW (xs_aw d) M Q pc ls (am_i z :: st) (S, c, s, σ) := by
  subst hl hS hz
  refine ar_go hd rfl ?_ (K _ (mk_clr I h3 hA hB))
  simp only [xs_do, am_do, am_pI, Int.toNat_natCast]
  exact (if_pos (show (0 : Int) ≤ k ∧ (k : Int) ≤ 100000 by omega)).trans (if_pos hc)
theorem rc_newr {ix : Nat} (hd : decode M.2.2.1 pc = .ok (.anewarray ix, 3)) (hn : xr_new M.1 ix = some 5) (hz : z = (k : Int)) (hk : k ≤ 100000) (hl : S.length = N) (hS : S ++ [(102, k, List.replicate k 0)] = S') (hc : c + 1 ≤ M.2.2.2.2.2.1 ∧ s + k ≤ M.2.2.2.2.2.2) (h3 : 3 ≤ N) (hA : 6 < N ∨ A ≤ 0) (hB : 76 < N ∨ B ≤ 0) (I : mk_I σ0 N A B σ) (K : ∀ σ', mk_I σ0 (N + 1) A B σ' → xs_AW (xs_aw d) M Q (pc + 3) ls (am_r N :: st) (S', c + 1, s + k, σ')) : xs_AW (xs_aw d) M Q pc ls (am_i z :: st) (S, c, s, σ) := by
  subst hl hS hz
  refine ar_go hd rfl ?_ (K _ (mk_clr I h3 hA hB))
  simp only [xs_do, am_do, am_pI, Int.toNat_natCast]
  exact (if_pos (show (0 : Int) ≤ k ∧ (k : Int) ≤ 100000 ∧ xr_new M.1 ix = some 5 from ⟨by omega, by omega, hn⟩)).trans (if_pos hc)
theorem rc_new2 {ix m : Nat} {x y : Int} (hd : decode M.2.2.1 pc = .ok (.multianewarray ix 2, 4)) (hn : xr_new M.1 ix = some 103) (hx : x = (m : Int)) (hy : y = (k : Int)) (hm : m ≤ 100000) (hk : k ≤ 100000) (hl : S.length = N) (hS : S ++ ((103, m, (List.range m).map (fun i => S.length + 2 + i)) :: List.replicate m (100, k, [])) = S') (hc : c + (1 + m) ≤ M.2.2.2.2.2.1 ∧ s + (m + m * k) ≤ M.2.2.2.2.2.2) (h3 : 3 ≤ N) (hA : 6 < N ∨ A ≤ 0) (hB : 76 < N ∨ B ≤ 0) (I : mk_I σ0 N A B σ) (K : ∀ σ', mk_I σ0 (N + (1 + m)) A B σ' → xs_AW (xs_aw d) M Q (pc + 4) ls (am_r N :: st) (S', c + (1 + m), s + (m + m * k), σ')) : xs_AW (xs_aw d) M Q pc ls (am_i y :: am_i x :: st) (S, c, s, σ) := by
  subst hl hS hx hy
  refine ar_go hd rfl ?_ (K _ (mk_clr I h3 hA hB))
  simp only [xs_do, am_do, am_pII, Int.toNat_natCast]
  exact (if_pos (show (0 : Int) ≤ m ∧ (0 : Int) ≤ k ∧ (m : Int) ≤ 100000 ∧ (k : Int) ≤ 100000 ∧ xr_new M.1 ix = some 103 from ⟨by omega, by omega, by omega, by omega, hn⟩)).trans (if_pos hc)
theorem rc_putr {ix ci f n t : Nat} {rs : List Nat} (hd : decode M.2.2.1 pc = .ok (.putfield ix, 3)) (hf : xr_fld M.1 ix = some (ci, f)) (hsh : S[a]? = some (ci, n, rs)) (hq : 3 ≤ a ∧ f < xr_num ci ∧ M.2.1.name = "<init>" ∧ ci = M.1) (hr : xr_ref ci f = true ∧ f < rs.length) (hS : S.set a (ci, n, rs.set f (t + 1)) = S') (K : xs_AW (xs_aw d) M Q (pc + 3) ls st (S', c, s, σ)) : xs_AW (xs_aw d) M Q pc ls (am_r t :: am_r a :: st) (S, c, s, σ) := by
  subst hS
  refine ar_go hd rfl ?_ K
  simp only [xs_do, am_do, am_putf, am_pRV, am_opt, hf, am_sh, hsh]
  exact (if_pos (show 3 ≤ a ∧ True ∧ f < xr_num ci ∧ (xr_fin ci f = true → M.2.1.name = "<init>" ∧ ci = M.1) from ⟨hq.1, True.intro, hq.2.1, fun _ => hq.2.2⟩)).trans (if_pos hr)
theorem rc_puti0 {ix ci f n : Nat} {rs : List Nat} (hd : decode M.2.2.1 pc = .ok (.putfield ix, 3)) (hf : xr_fld M.1 ix = some (ci, f)) (hsh : S[a]? = some (ci, n, rs)) (hq : 3 ≤ a ∧ f < xr_num ci ∧ M.2.1.name = "<init>" ∧ ci = M.1) (hr : xr_ref ci f = false) (h6 : a ≠ 6 ∧ a ≠ 76) (I : mk_I σ0 N A B σ) (K : ∀ σ', mk_I σ0 N A B σ' → xs_AW (xs_aw d) M Q (pc + 3) ls st (S, c, s, σ')) : xs_AW (xs_aw d) M Q pc ls (am_i 0 :: am_r a :: st) (S, c, s, σ) := by
  refine ar_go hd rfl ?_ (K _ (mk_up0 (a := a) (j := (f : Int)) I ⟨hq.1, h6⟩))
  simp only [xs_do, am_do, am_putf, am_pRV, am_opt, hf, am_sh, hsh]
  exact (if_pos (show 3 ≤ a ∧ True ∧ f < xr_num ci ∧ (xr_fin ci f = true → M.2.1.name = "<init>" ∧ ci = M.1) from ⟨hq.1, True.intro, hq.2.1, fun _ => hq.2.2⟩)).trans (if_pos hr)
theorem rc_getr {ix ci f n t : Nat} {rs : List Nat} (hd : decode M.2.2.1 pc = .ok (.getfield ix, 3)) (hf : xr_fld M.1 ix = some (ci, f)) (hsh : S[a]? = some (ci, n, rs)) (hq : 3 ≤ a ∧ f < xr_num ci) (hr : xr_ref ci f = true) (ht : rs[f]? = some (t + 1)) (K : xs_AW (xs_aw d) M Q (pc + 3) ls (am_r t :: st) (S, c, s, σ)) : xs_AW (xs_aw d) M Q pc ls (am_r a :: st) (S, c, s, σ) := by
  refine ar_go hd rfl ?_ K
  simp only [xs_do, am_do, am_getf, am_pR, am_opt, hf, am_sh, hsh, am_rfs, ht]
  exact (if_pos (show 3 ≤ a ∧ True ∧ f < xr_num ci from ⟨hq.1, True.intro, hq.2⟩)).trans (if_pos hr)
theorem rc_aast {n v kn : Nat} {rs rv : List Nat} {j : Int} (hd : decode M.2.2.1 pc = .ok (.aastore, 1)) (hsh : S[a]? = some (102, n, rs)) (hsv : S[v]? = some (5, kn, rv)) (hq : 3 ≤ a ∧ 3 ≤ v ∧ 0 ≤ j ∧ j < n ∧ n = rs.length) (hS : S.set a (102, n, rs.set j.toNat (v + 1)) = S') (K : xs_AW (xs_aw d) M Q (pc + 1) ls st (S', c, s, σ)) : xs_AW (xs_aw d) M Q pc ls (am_r v :: am_i j :: am_r a :: st) (S, c, s, σ) := by
  subst hS
  refine ar_go hd rfl ?_ K
  simp only [xs_do, am_do, am_pRIR, am_sh, hsh, hsv]
  exact if_pos ⟨hq.1, hq.2.1, True.intro, True.intro, hq.2.2.1, hq.2.2.2.1, hq.2.2.2.2⟩
theorem rc_iast6 {n : Nat} {rs : List Nat} (hd : decode M.2.2.1 pc = .ok (.iastore, 1)) (hsh : S[6]? = some (100, n, rs)) (hj : 0 ≤ A ∧ A < n) (I : mk_I σ0 N A B σ) (K : ∀ σ', mk_I σ0 N (A + 1) B σ' → xs_AW (xs_aw d) M Q (pc + 1) ls st (S, c, s, σ')) : xs_AW (xs_aw d) M Q pc ls (am_i (-1) :: am_i A :: am_r 6 :: st) (S, c, s, σ) := by
  refine ar_go hd rfl ?_ (K _ (mk_up6 I))
  simp only [xs_do, am_do, am_pRII, am_sh, hsh]
  exact if_pos ⟨by decide, True.intro, hj.1, hj.2⟩
theorem rc_iast76 {n : Nat} {rs : List Nat} (hd : decode M.2.2.1 pc = .ok (.iastore, 1)) (hsh : S[76]? = some (100, n, rs)) (hj : 0 ≤ B ∧ B < n) (I : mk_I σ0 N A B σ) (K : ∀ σ', mk_I σ0 N A (B + 1) σ' → xs_AW (xs_aw d) M Q (pc + 1) ls st (S, c, s, σ')) : xs_AW (xs_aw d) M Q pc ls (am_i (-1000000) :: am_i B :: am_r 76 :: st) (S, c, s, σ) := by
  refine ar_go hd rfl ?_ (K _ (mk_up76 I))
  simp only [xs_do, am_do, am_pRII, am_sh, hsh]
  exact if_pos ⟨by decide, True.intro, hj.1, hj.2⟩
theorem rc_call {ix N' c' s' : Nat} {A' B' : Int} {M' : am_M} (hd : decode M.2.2.1 pc = .ok (.invokespecial ix, 3)) (hm : xr_mth M.1 ix = some (2, M', 1)) (hw : am_words st ≤ 8) (hc : c + M'.2.2.2.2.2.1 ≤ M.2.2.2.2.2.1 ∧ s + M'.2.2.2.2.2.2 ≤ M.2.2.2.2.2.2 ∧ 1 ≤ M'.2.2.2.1) (hC : ∀ Q' : am_Post, (∀ σ', mk_I σ0 N' A' B' σ' → Q' none (S', c', s', σ')) → xs_aw d M' [am_r a] (S, 0, 0, σ) Q') (K : ∀ σ', mk_I σ0 N' A' B' σ' → xs_AW (xs_aw d) M Q (pc + 3) ls st (S', c + M'.2.2.2.2.2.1, s + M'.2.2.2.2.2.2, σ')) : xs_AW (xs_aw d) M Q pc ls (am_r a :: st) (S, c, s, σ) := by
  refine ar_call (as := [am_r a]) (rest := st) (M' := M') (na := 1) hd rfl ?_ rfl rfl hw hc.1 hc.2.1 hc.2.2 (hC _ (fun σ' I' => K σ' I'))
  simp only [xs_do, am_do, am_opt, hm]
  rw [if_neg (by decide)]
  exact if_pos (by decide)
theorem rc_ret (hd : decode M.2.2.1 pc = .ok (.return_, 1)) (hr : M.2.2.2.2.1 = none) (hc : c ≤ M.2.2.2.2.2.1 ∧ s ≤ M.2.2.2.2.2.2) (K : Q none (S, c, s, σ)) : xs_AW (xs_aw d) M Q pc ls [] (S, c, s, σ) := ar_ret hd rfl (if_pos ⟨hc.1, hc.2, hr⟩) K
end
