/-! ===== calls and ends ===== -/
section
variable {p : Program} {l : Launch} {e : Env} {R : Room} {s : State} {m : MethodId} {args : Array Value} {below : List Frame} {meth : Method} {c : Code} {w : am_W} {M : am_M} {d : Nat} {Qf : State → Prop} {C : am_Cal} {Q : am_Post} {pc : Nat} {ls : am_L} {st : List am_V} {h : am_H}
theorem as_cpyf {σ : am_Mem} {a b : Nat} {i j n : Int} (hi : 0 ≤ i) (hj : 0 ≤ j) (hn : 0 ≤ n) : (fun q : Nat => Int32.ofInt (am_cpy σ a i b j n b q)) = va_cpy (fun q : Nat => Int32.ofInt (σ a q)) (fun q : Nat => Int32.ofInt (σ b q)) i.toNat j.toNat n.toNat := by
  funext q
  unfold am_cpy va_cpy
  by_cases hq : j ≤ (q : Int) ∧ (q : Int) < j + n
  · rw [if_pos ⟨rfl, hq⟩, if_pos (by omega)]
    congr 2
    omega
  · rw [if_neg (fun z => hq z.2), if_neg (by omega)]
theorem as_acp {ix na : Nat} {M' : am_M} {js : List Nat} (hc : as_Cx p R s m args meth c w M d) (hd : decode M.2.2.1 pc = .ok (.invokestatic ix, 3)) (hj : xr_mthC (M.1, ix, 5, M', na, js) = true) (hs : am_stp C (as_X p l e R s m args below meth c w M Qf) Q (am_acp pc ls st h)) : as_X p l e R s m args below meth c w M Qf pc ls st h := by
  obtain ⟨hx, hb, hml, hown, hts, hK, hR, hnm⟩ := hc
  unfold am_acp at hs
  obtain ⟨a, i, b, j, n, r, rfl, hs2⟩ := ai_pCp hs
  obtain ⟨ka, na, ra, hsa, hs3⟩ := ai_sh hs2
  obtain ⟨kb, nb, rb, hsb, hs4⟩ := ai_sh hs3
  obtain ⟨⟨h3a, h3b, rfl, rfl, hi, hj0, hn0, hia, hjb, hwd⟩, hs5⟩ := ai_if hs4
  intro lsC H locs hn hl hH hL hv
  obtain ⟨hvn, hvA⟩ := List.forall_mem_cons.mp hv
  obtain ⟨hvj, hvB⟩ := List.forall_mem_cons.mp hvA
  obtain ⟨-, hvD⟩ := List.forall_mem_cons.mp hvB
  obtain ⟨hvi, hvE⟩ := List.forall_mem_cons.mp hvD
  obtain ⟨-, hvF⟩ := List.forall_mem_cons.mp hvE
  have hvn : am_ok n := hvn
  have hvj : am_ok j := hvj
  have hvi : am_ok i := hvi
  have hc0 := (hH.1 a _ h3a hsa).1
  rw [ah_en_arr (show ¬ 100 < 100 by decide) (show 100 < 102 by decide)] at hc0
  have hc1 := (hH.1 b _ h3b hsb).1
  rw [ah_en_arr (show ¬ 100 < 100 by decide) (show 100 < 102 by decide)] at hc1
  have hc0 : H[am_ad w a]? = some (vp_cell (aw_cy w 100) (na, .inl (fun k => Int32.ofInt (h.2.2.2 a k)))) := hc0
  have hc1 : H[am_ad w b]? = some (vp_cell (aw_cy w 100) (nb, .inl (fun k => Int32.ofInt (h.2.2.2 b k)))) := hc1
  intro T hT X
  obtain ⟨-, k0, hk0, cm0, hkk0⟩ := (hK.1.2 0 _ rfl).1 na (fun k => .int (Int32.ofInt (h.2.2.2 a k)))
  obtain ⟨-, k1, hk1, cm1, hkk1⟩ := (hK.1.2 0 _ rfl).1 nb (fun k => .int (Int32.ofInt (h.2.2.2 b k)))
  have ei := an_id hvi
  have ej := an_id hvj
  have en := an_id hvn
  have hpc := xs_m5 hj
  obtain ⟨vm', X', step⟩ := X.arraycopy hx hown (hts _ hpc) (hts _ (as_misc (by decide +kernel))) (hts _ (as_misc (by decide +kernel))) (hts _ (as_misc (by decide +kernel))) (src := am_ad w a) (dst := am_ad w b) (cs := vp_cell (aw_cy w 100) (na, .inl (fun k => Int32.ofInt (h.2.2.2 a k)))) (cd := vp_cell (aw_cy w 100) (nb, .inl (fun k => Int32.ofInt (h.2.2.2 b k)))) (srcPos := Int32.ofInt i) (destPos := Int32.ofInt j) (n := Int32.ofInt n) (by rw [hT]; exact hc0) (by rw [hT]; exact hc1)
    (fun _ h => by cases h) (fun _ h => by cases h) (fun h => by cases h) (fun h => by cases h) hk0 hk1 hkk0 hkk1 (by rfl) (fun q => by rw [an_lt0 hvi] at q; omega) (fun q => by rw [an_lt0 hvj] at q; omega) (fun q => by rw [an_lt0 hvn] at q; omega)
    (by rw [ei, en]; show ¬ _ > ((arrV _ na _).slots.size : Int); rw [arrV_size]; omega)
    (by rw [ej, en]; show ¬ _ > ((arrV _ nb _).slots.size : Int); rw [arrV_size]; omega)
    (fun vm₁ _ q hq => by
      rw [an_cl hvn] at hq
      have e9 : (vp_cell (aw_cy w 100) (na, .inl (fun k => Int32.ofInt (h.2.2.2 a k)))).slots.getD ((Int32.ofInt i).toNatClampNeg + q) .null = .int (Int32.ofInt (h.2.2.2 a (((Int32.ofInt i).toNatClampNeg + q : Nat) : Int))) := by
        show (arrV _ na _).slots.getD _ _ = _
        rw [Array.getD_eq_getD_getElem?, arrV_read _ _ (by rw [an_cl hvi]; omega)]
        rfl
      refine ⟨?_, ?_⟩
      · rw [e9]; rfl
      · rw [e9]; exact trivial)
    (g := F0 m pc lsC ((am_i n :: am_i j :: am_r b :: am_i i :: am_r a :: r).map (am_cv w))) rfl (by show lsC.size = _; rw [hml, hl.1.1]; exact hn) (rest := r.map (am_cv w)) rfl (by rw [hb]; exact hd) (by have := hR.1; omega) (by
      have h1 := hR.2.1
      have h2 := as_words (w := w) r
      have h3 : nativeFrameWords "java/lang/System" "arraycopy" 5 ≤ 30 := by decide +kernel
      show 2 * 0 + _ + _ ≤ _
      rw [h2]
      omega)
  have e1 : copied (vp_cell (aw_cy w 100) (na, .inl (fun k => Int32.ofInt (h.2.2.2 a k)))) (vp_cell (aw_cy w 100) (nb, .inl (fun k => Int32.ofInt (h.2.2.2 b k)))) (Int32.ofInt i) (Int32.ofInt j) (Int32.ofInt n) = vp_cell (aw_cy w 100) (nb, .inl (fun k => Int32.ofInt (am_cpy h.2.2.2 a i b j n b k))) := by
    have h4 : (Int32.ofInt i).toNatClampNeg + (Int32.ofInt n).toNatClampNeg ≤ na := by rw [an_cl hvi, an_cl hvn]; omega
    rw [as_cpyf hi hj0 hn0, ← an_cl hvi, ← an_cl hvj, ← an_cl hvn]
    exact va_copied (fun z => .int z) (aw_cy w 100) (aw_cy w 100) (fun k : Nat => Int32.ofInt (h.2.2.2 a k)) (fun k : Nat => Int32.ofInt (h.2.2.2 b k)) h4
  rw [e1] at X' step
  have hlt : am_ad w b < H.size := (Array.getElem?_eq_some_iff.mp hc1).1
  have hheap : ((T.setVm vm').setCell (am_ad w b) (vp_cell (aw_cy w 100) (nb, .inl (fun k => Int32.ofInt (am_cpy h.2.2.2 a i b j n b k))))).heap = H.setIfInBounds (am_ad w b) (vp_cell (aw_cy w 100) (nb, .inl (fun k => Int32.ofInt (am_cpy h.2.2.2 a i b j n b k)))) := by rw [← hT]; rfl
  obtain ⟨t, a1, b1⟩ := hs5 lsC _ _ hn hl (ah_set' (σ' := am_cpy h.2.2.2 a i b j n) hH h3b hsb (H' := H.setIfInBounds (am_ad w b) (vp_cell (aw_cy w 100) (nb, .inl (fun k => Int32.ofInt (am_cpy h.2.2.2 a i b j n b k))))) (by simp) (fun q hq => by simp [Array.getElem?_setIfInBounds, Ne.symm hq]) (by
      rw [ah_en_arr (show ¬ 100 < 100 by decide) (show 100 < 102 by decide)]
      show (H.setIfInBounds _ _)[_]? = some (vp_cell _ _)
      simp [Array.getElem?_setIfInBounds, hlt]) (fun q hq => by
      funext k
      unfold am_cpy
      rw [if_neg (fun z => hq z.1)]) (fun k => by
      unfold am_cpy
      split
      · exact hH.2.2.2.2 _ _
      · exact hH.2.2.2.2 _ _)) (fun q hq => by
      rcases List.mem_append.mp hq with h9 | h9
      · exact hL q h9
      · obtain ⟨z, -, hz⟩ := List.mem_map.mp h9
        rw [← hz]
        exact as_ge h3b) hvF _ hheap X'
  exact ⟨t, step t a1, b1⟩
theorem as_math {ix : Nat} {q : Nat × am_M × Nat} (hc : as_Cx p R s m args meth c w M d) (hd : decode M.2.2.1 pc = .ok (.invokestatic ix, 3)) (hq : xr_mth M.1 ix = some q) (h678 : q.1 = 6 ∨ q.1 = 7 ∨ q.1 = 8)
    (hs : am_stp C (as_X p l e R s m args below meth c w M Qf) Q (if q.1 = 6 then am_pII st fun x y r => am_mth M h r <| am_go (pc + 3) ls (am_i (if x < y then y else x) :: r) h
      else if q.1 = 7 then am_pII st fun x y r => am_mth M h r <| am_go (pc + 3) ls (am_i (if y < x then y else x) :: r) h
      else am_pI st fun x r => am_mth M h r <| am_go (pc + 3) ls (am_i (if 0 ≤ x then x else am_w (0 - x)) :: r) h)) : as_X p l e R s m args below meth c w M Qf pc ls st h := by
  obtain ⟨hx, hb, hml, hown, hts, hK, hR, hnm⟩ := hc
  obtain ⟨js, hj, -⟩ := xs_mth hq
  have hini := hts _ (as_misc (w := .initialized "java/lang/Math") (by decide +kernel))
  obtain ⟨kd, M', na⟩ := q
  dsimp only at hs h678 hj
  rcases h678 with rfl | rfl | rfl
  · rw [if_pos rfl] at hs
    obtain ⟨x, y, r, rfl, hs2⟩ := ai_pII hs
    unfold am_mth at hs2
    obtain ⟨⟨hcc, hss, hwd⟩, hs3⟩ := ai_if hs2
    intro lsC H locs hn hl hH hL hv
    obtain ⟨hvy, hvA⟩ := List.forall_mem_cons.mp hv
    obtain ⟨hvx, hvB⟩ := List.forall_mem_cons.mp hvA
    have hvy : am_ok y := hvy
    have hvx : am_ok x := hvx
    refine va_mmax hx hb (by rw [hml, ← hn]; exact hl.1.1.symm) hown (hts _ (xs_m6 hj)) (hts _ (as_misc (by decide +kernel))) hini (hts _ xr_mmax) (by have := hR.1; omega) (by rw [as_words]; have := hR.2.1; omega) (by rw [hR.2.2.1]; exact hcc) (by rw [hR.2.2.2]; exact hss) hd ?_
    have k := hs3 lsC H locs hn hl hH hL (List.forall_mem_cons.mpr ⟨(by show am_ok _; split <;> assumption), hvB⟩)
    by_cases hlt : x < y
    · rw [if_pos ((an_lt hvx hvy).mpr hlt)]
      rw [if_pos hlt] at k
      exact k
    · rw [if_neg (fun z => hlt ((an_lt hvx hvy).mp z))]
      rw [if_neg hlt] at k
      exact k
  · rw [if_neg (by decide), if_pos rfl] at hs
    obtain ⟨x, y, r, rfl, hs2⟩ := ai_pII hs
    unfold am_mth at hs2
    obtain ⟨⟨hcc, hss, hwd⟩, hs3⟩ := ai_if hs2
    intro lsC H locs hn hl hH hL hv
    obtain ⟨hvy, hvA⟩ := List.forall_mem_cons.mp hv
    obtain ⟨hvx, hvB⟩ := List.forall_mem_cons.mp hvA
    have hvy : am_ok y := hvy
    have hvx : am_ok x := hvx
    refine va_mmin hx hb (by rw [hml, ← hn]; exact hl.1.1.symm) hown (hts _ (xs_m7 hj)) (hts _ (as_misc (by decide +kernel))) hini (hts _ xr_mmin) (by have := hR.1; omega) (by rw [as_words]; have := hR.2.1; omega) (by rw [hR.2.2.1]; exact hcc) (by rw [hR.2.2.2]; exact hss) hd ?_
    have k := hs3 lsC H locs hn hl hH hL (List.forall_mem_cons.mpr ⟨(by show am_ok _; split <;> assumption), hvB⟩)
    by_cases hlt : y < x
    · rw [if_pos ((an_lt hvy hvx).mpr hlt)]
      rw [if_pos hlt] at k
      exact k
    · rw [if_neg (fun z => hlt ((an_lt hvy hvx).mp z))]
      rw [if_neg hlt] at k
      exact k
  · rw [if_neg (by decide), if_neg (by decide)] at hs
    obtain ⟨x, r, rfl, hs2⟩ := ai_pI hs
    unfold am_mth at hs2
    obtain ⟨⟨hcc, hss, hwd⟩, hs3⟩ := ai_if hs2
    intro lsC H locs hn hl hH hL hv
    obtain ⟨hvx, hvB⟩ := List.forall_mem_cons.mp hv
    have hvx : am_ok x := hvx
    refine va_mabs hx hb (by rw [hml, ← hn]; exact hl.1.1.symm) hown (hts _ (xs_m8 hj)) (hts _ (as_misc (by decide +kernel))) hini (hts _ xr_mabs) (by have := hR.1; omega) (by rw [as_words]; have := hR.2.1; omega) (by rw [hR.2.2.1]; exact hcc) (by rw [hR.2.2.2]; exact hss) hd ?_
    have k := hs3 lsC H locs hn hl hH hL (List.forall_mem_cons.mpr ⟨(by show am_ok _; split <;> first | assumption | exact an_okw _), hvB⟩)
    have h0 : (0 : Int32) ≤ Int32.ofInt x ↔ 0 ≤ x := an_le an_ok0 hvx
    by_cases hlt : 0 ≤ x
    · rw [if_pos (h0.mpr hlt)]
      rw [if_pos hlt] at k
      exact k
    · rw [if_neg (fun z => hlt (h0.mp z))]
      rw [if_neg hlt] at k
      rw [show (0 : Int32) - Int32.ofInt x = Int32.ofInt (am_w (0 - x)) from (an_sub 0 x).symm]
      exact k
end
