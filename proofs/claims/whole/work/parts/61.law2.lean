/-! the law's loop, cells made already -/
abbrev rn_h (L kc ks : Nat) (σ : am_Mem) : am_H := (xr_Sh L, kc, ks, σ)
section
variable {d : Nat} {M : am_M} {Q : am_Post} {pc : Nat} {ls : am_L} {st : List am_V} {x y z : Int} {σ : am_Mem} {L kc ks : Nat}
theorem rq_iald {a n : Nat} {j nz : Int} {rs : List Nat} (hd : decode M.2.2.1 pc = .ok (.iaload, 1)) (hsh : (xr_Sh L)[a]? = some (100, n, rs)) (hz : (n : Int) = nz) (hj : 0 ≤ j ∧ j < nz) (K : xs_AW (xs_aw d) M Q (pc + 1) ls (am_i (σ a j) :: st) (rn_h L kc ks σ)) : xs_AW (xs_aw d) M Q pc ls (am_i j :: am_r a :: st) (rn_h L kc ks σ) := ar_go hd rfl (by
  show am_sh (rn_h L kc ks σ) a (fun ki n _ => am_if (ki = 100 ∧ 0 ≤ j ∧ j < n) <| am_go (pc + 1) ls (am_i (σ a j) :: st) (rn_h L kc ks σ)) = _
  unfold am_sh
  rw [show (rn_h L kc ks σ).1[a]? = _ from hsh]
  exact if_pos ⟨rfl, hj.1, by rw [hz]; exact hj.2⟩) K
theorem rq_alen {a n : Nat} {nz : Int} {rs : List Nat} (hd : decode M.2.2.1 pc = .ok (.arraylength, 1)) (hsh : (xr_Sh L)[a]? = some (100, n, rs)) (hz : (n : Int) = nz) (hn : n ≤ 2147483647) (K : xs_AW (xs_aw d) M Q (pc + 1) ls (am_i nz :: st) (rn_h L kc ks σ)) : xs_AW (xs_aw d) M Q pc ls (am_r a :: st) (rn_h L kc ks σ) := ar_go hd rfl (by
  show am_sh (rn_h L kc ks σ) a (fun ki n _ => am_if ((ki = 100 ∨ (3 ≤ a ∧ ki = 101)) ∧ n ≤ 2147483647) <| am_go (pc + 1) ls (am_i n :: st) (rn_h L kc ks σ)) = _
  unfold am_sh
  rw [show (rn_h L kc ks σ).1[a]? = _ from hsh, ← hz]
  exact if_pos ⟨Or.inl rfl, hn⟩) K
theorem rq_zret (hkc : kc ≤ 600000) (hks : ks ≤ 7302250) (hd : decode me_L_law.2.2.1 pc = .ok (.ireturn, 1)) (hr : me_L_law.2.2.2.2.1 = some .boolean) (hz : z = 0 ∨ z = 1) (K : Q (some (am_i z)) (rn_h L kc ks σ)) : xs_AW (xs_aw d) me_L_law Q pc ls [am_i z] (rn_h L kc ks σ) := ar_ret hd rfl (if_pos ⟨hkc, hks, Or.inr ⟨hr, hz⟩⟩) K
theorem rq_Vi {ix na a n : Nat} {rs : List Nat} {M' : am_M} {as rest : List am_V} (hkc : kc ≤ 600000) (hks : ks ≤ 7302250) (hd : decode me_L_law.2.2.1 pc = .ok (.invokevirtual ix, 3)) (hm : xr_mth me_L_law.1 ix = some (0, M', na)) (hsh : (xr_Sh L)[a]? = some (M'.1, n, rs)) (h3 : 3 ≤ a ∧ M'.1 < 100 ∧ 0 < na) (hst : st = (am_r a :: as).reverse ++ rest) (hdr : st.drop (na - 1) = am_r a :: rest) (hna : (am_r a :: as).length = na) (hw : am_words rest ≤ 8) (hmc : M'.2.2.2.2.2.1 = 0 ∧ M'.2.2.2.2.2.2 = 0) (hsl : (am_sl (am_r a :: as)).length ≤ M'.2.2.2.1) {v : Int} {σ' : am_Mem} (hC : ∀ Q' : am_Post, Q' (some (am_i v)) (rm_h L σ') → xs_aw d M' (am_r a :: as) (rm_h L σ) Q') (K : xs_AW (xs_aw d) me_L_law Q (pc + 3) ls (am_i v :: rest) (rn_h L kc ks σ')) : xs_AW (xs_aw d) me_L_law Q pc ls st (rn_h L kc ks σ) := by
  refine ar_call (as := am_r a :: as) (rest := rest) (M' := M') (na := na) hd rfl ?_ hst hna hw (by rw [hmc.1]; exact hkc) (by rw [hmc.2]; exact hks) hsl (hC _ ?_)
  · have e9 : (rn_h L kc ks σ).1[a]? = some (M'.1, n, rs) := hsh
    simp only [xs_do, am_do, am_opt, hm, am_if, hdr, am_sh, e9]
    rw [if_pos ⟨True.intro, h3.2.2⟩, if_pos ⟨h3.1, True.intro, h3.2.1⟩]
  · dsimp only
    rw [hmc.1, hmc.2]
    exact K
end
theorem tbq_L_law_18 {L n d kc ks : Nat} {Q : am_Post} {p0 : Nat} {p0_n : Nat} {kh18 : Int → am_Mem → Option (Int × am_Mem)} {x3 : Int} {σ σr : am_Mem} {rr : Int} (hd : 21 ≤ d) (hkc : kc ≤ 600000) (hks : ks ≤ 7302250) (hs_p0 : (xr_Sh L)[p0]? = some (100, p0_n, [])) (hL : p0_n ≤ 2147483647) (hk18 : ∀ (y3 : Int) (σ : am_Mem), kh18 y3 σ = some (rr, σr) → xs_AW (xs_aw d) me_L_law Q 18 [some (am_r p0), some (am_r 3), some (am_r 75), some (am_i y3)] [] (rn_h L kc ks σ)) (hQ : Q (some (am_i rr)) (rn_h L kc ks σr)) (h : fb_L_law_18 n p0 p0_n kh18 x3 σ = some (rr, σr)) : xs_AW (xs_aw d) me_L_law Q 18 [some (am_r p0), some (am_r 3), some (am_r 75), some (am_i x3)] [] (rn_h L kc ks σ) := by
  unfold fb_L_law_18 at h
  refine rr_iload_n dL_law_18 rfl ?_
  refine rr_aload_n dL_law_19 rfl ?_
  refine rq_alen (nz := (p0_n : Int)) dL_law_20 hs_p0 rfl hL ?_
  refine rr_bipush dL_law_21 (by decide) ?_
  refine rr_isub dL_law_23 ?_
  rcases ab_i h with ⟨c1, h⟩ | ⟨c1, h⟩
  · refine rr_icmp_gt_p (t := 1271) dL_law_24 (by decide) c1 ?_
    refine rr_aload_n dL_law_27 rfl ?_
    refine rr_iload_n dL_law_28 rfl ?_
    obtain ⟨g2, h⟩ := ab_g h
    refine rq_iald (nz := (p0_n : Int)) dL_law_29 hs_p0 rfl g2 ?_
    refine rr_bipush dL_law_30 (by decide) ?_
    refine rr_iand dL_law_32 ?_
    rcases ab_i h with ⟨c3, h⟩ | ⟨c3, h⟩
    · refine rr_tsw_in (off := 147) (t := 180) dL_law_33 (by omega) (by rw [c3]; rfl) (by decide) ?_
      refine rr_aload_n dL_law_180 rfl ?_
      refine rr_aload_n dL_law_181 rfl ?_
      refine rr_iload_n dL_law_182 rfl ?_
      refine rr_iconst dL_law_183 (by decide) ?_
      refine rr_iadd dL_law_184 ?_
      obtain ⟨g4, h⟩ := ab_g h
      refine rq_iald (nz := (p0_n : Int)) dL_law_185 hs_p0 rfl g4 ?_
      refine rr_aload_n dL_law_186 rfl ?_
      refine rr_iload_n dL_law_187 rfl ?_
      refine rr_iconst dL_law_188 (by decide) ?_
      refine rr_iadd dL_law_189 ?_
      obtain ⟨g5, h⟩ := ab_g h
      refine rq_iald (nz := (p0_n : Int)) dL_law_190 hs_p0 rfl g5 ?_
      refine rr_aload_n dL_law_191 rfl ?_
      refine rr_iload_n dL_law_192 rfl ?_
      refine rr_iconst dL_law_193 (by decide) ?_
      refine rr_iadd dL_law_194 ?_
      obtain ⟨g6, h⟩ := ab_g h
      refine rq_iald (nz := (p0_n : Int)) dL_law_195 hs_p0 rfl g6 ?_
      obtain ⟨r8, σ9, e7, h⟩ := ab_2 h
      refine rq_Vi hkc hks (as := [am_i (σ p0 (am_w (x3 + 1))), am_i (σ p0 (am_w (x3 + 2))), am_i (σ p0 (am_w (x3 + 3)))]) (rest := []) dL_law_196 ml_8_13 (sh_3 L) ⟨(by decide), by decide, by decide⟩ rfl rfl rfl (Nat.le_of_ble_eq_true rfl) ⟨rfl, rfl⟩ (Nat.le_of_ble_eq_true rfl) (fun _ k => t_X6_row (by omega) e7 k) ?_
      refine rr_aload_n dL_law_199 rfl ?_
      refine rr_aload_n dL_law_200 rfl ?_
      refine rr_iload_n dL_law_201 rfl ?_
      refine rr_iconst dL_law_202 (by decide) ?_
      refine rr_iadd dL_law_203 ?_
      refine rq_iald (nz := (p0_n : Int)) dL_law_204 hs_p0 rfl g4 ?_
      refine rr_aload_n dL_law_205 rfl ?_
      refine rr_iload_n dL_law_206 rfl ?_
      refine rr_iconst dL_law_207 (by decide) ?_
      refine rr_iadd dL_law_208 ?_
      refine rq_iald (nz := (p0_n : Int)) dL_law_209 hs_p0 rfl g5 ?_
      refine rr_aload_n dL_law_210 rfl ?_
      refine rr_iload_n dL_law_211 rfl ?_
      refine rr_iconst dL_law_212 (by decide) ?_
      refine rr_iadd dL_law_213 ?_
      refine rq_iald (nz := (p0_n : Int)) dL_law_214 hs_p0 rfl g6 ?_
      obtain ⟨r11, σ12, e10, h⟩ := ab_2 h
      refine rq_Vi hkc hks (as := [am_i (σ9 p0 (am_w (x3 + 1))), am_i (σ9 p0 (am_w (x3 + 2))), am_i (σ9 p0 (am_w (x3 + 3)))]) (rest := [am_i r8]) dL_law_215 ml_8_17 (sh_75 L) ⟨(by decide), by decide, by decide⟩ rfl rfl rfl (Nat.le_of_ble_eq_true rfl) ⟨rfl, rfl⟩ (Nat.le_of_ble_eq_true rfl) (fun _ k => t_X7_row (by omega) e10 k) ?_
      rcases ab_i h with ⟨c13, h⟩ | ⟨c13, h⟩
      · refine rr_icmp_eq_p (t := 1265) dL_law_218 (by decide) c13 ?_
        refine rr_iinc (ls' := [some (am_r p0), some (am_r 3), some (am_r 75), some (am_i (am_w (x3 + 8)))]) dL_law_1265 rfl (Nat.le_of_ble_eq_true rfl) rfl ?_
        refine rr_goto (t := 18) dL_law_1268 (by decide) ?_
        exact hk18 _ _ h
      · refine rr_icmp_eq_n (t := 1265) dL_law_218 (by decide) c13 ?_
        refine rr_iconst dL_law_221 (by decide) ?_
        obtain ⟨rfl, rfl⟩ := ab_r2 h
        exact rq_zret hkc hks dL_law_222 rfl (Or.inl rfl) hQ
    rcases ab_i h with ⟨c14, h⟩ | ⟨c14, h⟩
    · refine rr_tsw_in (off := 190) (t := 223) dL_law_33 (by omega) (by rw [c14]; rfl) (by decide) ?_
      refine rr_aload_n dL_law_223 rfl ?_
      refine rr_aload_n dL_law_224 rfl ?_
      refine rr_iload_n dL_law_225 rfl ?_
      refine rr_iconst dL_law_226 (by decide) ?_
      refine rr_iadd dL_law_227 ?_
      obtain ⟨g15, h⟩ := ab_g h
      refine rq_iald (nz := (p0_n : Int)) dL_law_228 hs_p0 rfl g15 ?_
      refine rr_aload_n dL_law_229 rfl ?_
      refine rr_iload_n dL_law_230 rfl ?_
      refine rr_iconst dL_law_231 (by decide) ?_
      refine rr_iadd dL_law_232 ?_
      obtain ⟨g16, h⟩ := ab_g h
      refine rq_iald (nz := (p0_n : Int)) dL_law_233 hs_p0 rfl g16 ?_
      refine rr_aload_n dL_law_234 rfl ?_
      refine rr_iload_n dL_law_235 rfl ?_
      refine rr_iconst dL_law_236 (by decide) ?_
      refine rr_iadd dL_law_237 ?_
      obtain ⟨g17, h⟩ := ab_g h
      refine rq_iald (nz := (p0_n : Int)) dL_law_238 hs_p0 rfl g17 ?_
      obtain ⟨r19, σ20, e18, h⟩ := ab_2 h
      refine rq_Vi hkc hks (as := [am_i (σ p0 (am_w (x3 + 1))), am_i (σ p0 (am_w (x3 + 2))), am_i (σ p0 (am_w (x3 + 3)))]) (rest := []) dL_law_239 ml_8_18 (sh_3 L) ⟨(by decide), by decide, by decide⟩ rfl rfl rfl (Nat.le_of_ble_eq_true rfl) ⟨rfl, rfl⟩ (Nat.le_of_ble_eq_true rfl) (fun _ k => t_X6_set (by omega) e18 k) ?_
      refine rr_aload_n dL_law_242 rfl ?_
      refine rr_aload_n dL_law_243 rfl ?_
      refine rr_iload_n dL_law_244 rfl ?_
      refine rr_iconst dL_law_245 (by decide) ?_
      refine rr_iadd dL_law_246 ?_
      refine rq_iald (nz := (p0_n : Int)) dL_law_247 hs_p0 rfl g15 ?_
      refine rr_aload_n dL_law_248 rfl ?_
      refine rr_iload_n dL_law_249 rfl ?_
      refine rr_iconst dL_law_250 (by decide) ?_
      refine rr_iadd dL_law_251 ?_
      refine rq_iald (nz := (p0_n : Int)) dL_law_252 hs_p0 rfl g16 ?_
      refine rr_aload_n dL_law_253 rfl ?_
      refine rr_iload_n dL_law_254 rfl ?_
      refine rr_iconst dL_law_255 (by decide) ?_
      refine rr_iadd dL_law_256 ?_
      refine rq_iald (nz := (p0_n : Int)) dL_law_257 hs_p0 rfl g17 ?_
      obtain ⟨r22, σ23, e21, h⟩ := ab_2 h
      refine rq_Vi hkc hks (as := [am_i (σ20 p0 (am_w (x3 + 1))), am_i (σ20 p0 (am_w (x3 + 2))), am_i (σ20 p0 (am_w (x3 + 3)))]) (rest := [am_i r19]) dL_law_258 ml_8_21 (sh_75 L) ⟨(by decide), by decide, by decide⟩ rfl rfl rfl (Nat.le_of_ble_eq_true rfl) ⟨rfl, rfl⟩ (Nat.le_of_ble_eq_true rfl) (fun _ k => t_X7_set (by omega) e21 k) ?_
      rcases ab_i h with ⟨c24, h⟩ | ⟨c24, h⟩
      · refine rr_icmp_eq_p (t := 1265) dL_law_261 (by decide) c24 ?_
        refine rr_iinc (ls' := [some (am_r p0), some (am_r 3), some (am_r 75), some (am_i (am_w (x3 + 8)))]) dL_law_1265 rfl (Nat.le_of_ble_eq_true rfl) rfl ?_
        refine rr_goto (t := 18) dL_law_1268 (by decide) ?_
        exact hk18 _ _ h
      · refine rr_icmp_eq_n (t := 1265) dL_law_261 (by decide) c24 ?_
        refine rr_iconst dL_law_264 (by decide) ?_
        obtain ⟨rfl, rfl⟩ := ab_r2 h
        exact rq_zret hkc hks dL_law_265 rfl (Or.inl rfl) hQ
    rcases ab_i h with ⟨c25, h⟩ | ⟨c25, h⟩
    · refine rr_tsw_in (off := 233) (t := 266) dL_law_33 (by omega) (by rw [c25]; rfl) (by decide) ?_
      refine rr_aload_n dL_law_266 rfl ?_
      refine rr_aload_n dL_law_267 rfl ?_
      refine rr_iload_n dL_law_268 rfl ?_
      refine rr_iconst dL_law_269 (by decide) ?_
      refine rr_iadd dL_law_270 ?_
      obtain ⟨g26, h⟩ := ab_g h
      refine rq_iald (nz := (p0_n : Int)) dL_law_271 hs_p0 rfl g26 ?_
      refine rr_aload_n dL_law_272 rfl ?_
      refine rr_iload_n dL_law_273 rfl ?_
      refine rr_iconst dL_law_274 (by decide) ?_
      refine rr_iadd dL_law_275 ?_
      obtain ⟨g27, h⟩ := ab_g h
      refine rq_iald (nz := (p0_n : Int)) dL_law_276 hs_p0 rfl g27 ?_
      refine rr_aload_n dL_law_277 rfl ?_
      refine rr_iload_n dL_law_278 rfl ?_
      refine rr_iconst dL_law_279 (by decide) ?_
      refine rr_iadd dL_law_280 ?_
      obtain ⟨g28, h⟩ := ab_g h
      refine rq_iald (nz := (p0_n : Int)) dL_law_281 hs_p0 rfl g28 ?_
      refine rr_aload_n dL_law_282 rfl ?_
      refine rr_iload_n dL_law_283 rfl ?_
      refine rr_iconst dL_law_284 (by decide) ?_
      refine rr_iadd dL_law_285 ?_
      obtain ⟨g29, h⟩ := ab_g h
      refine rq_iald (nz := (p0_n : Int)) dL_law_286 hs_p0 rfl g29 ?_
      refine rr_aload_n dL_law_287 rfl ?_
      refine rr_iload_n dL_law_288 rfl ?_
      refine rr_iconst dL_law_289 (by decide) ?_
      refine rr_iadd dL_law_290 ?_
      obtain ⟨g30, h⟩ := ab_g h
      refine rq_iald (nz := (p0_n : Int)) dL_law_291 hs_p0 rfl g30 ?_
      obtain ⟨r32, σ33, e31, h⟩ := ab_2 h
      refine rq_Vi hkc hks (as := [am_i (σ p0 (am_w (x3 + 1))), am_i (σ p0 (am_w (x3 + 2))), am_i (σ p0 (am_w (x3 + 3))), am_i (σ p0 (am_w (x3 + 4))), am_i (σ p0 (am_w (x3 + 5)))]) (rest := []) dL_law_292 ml_8_22 (sh_3 L) ⟨(by decide), by decide, by decide⟩ rfl rfl rfl (Nat.le_of_ble_eq_true rfl) ⟨rfl, rfl⟩ (Nat.le_of_ble_eq_true rfl) (fun _ k => t_X6_copy (by omega) e31 k) ?_
      refine rr_aload_n dL_law_295 rfl ?_
      refine rr_aload_n dL_law_296 rfl ?_
      refine rr_iload_n dL_law_297 rfl ?_
      refine rr_iconst dL_law_298 (by decide) ?_
      refine rr_iadd dL_law_299 ?_
      refine rq_iald (nz := (p0_n : Int)) dL_law_300 hs_p0 rfl g26 ?_
      refine rr_aload_n dL_law_301 rfl ?_
      refine rr_iload_n dL_law_302 rfl ?_
      refine rr_iconst dL_law_303 (by decide) ?_
      refine rr_iadd dL_law_304 ?_
      refine rq_iald (nz := (p0_n : Int)) dL_law_305 hs_p0 rfl g27 ?_
      refine rr_aload_n dL_law_306 rfl ?_
      refine rr_iload_n dL_law_307 rfl ?_
      refine rr_iconst dL_law_308 (by decide) ?_
      refine rr_iadd dL_law_309 ?_
      refine rq_iald (nz := (p0_n : Int)) dL_law_310 hs_p0 rfl g28 ?_
      refine rr_aload_n dL_law_311 rfl ?_
      refine rr_iload_n dL_law_312 rfl ?_
      refine rr_iconst dL_law_313 (by decide) ?_
      refine rr_iadd dL_law_314 ?_
      refine rq_iald (nz := (p0_n : Int)) dL_law_315 hs_p0 rfl g29 ?_
      refine rr_aload_n dL_law_316 rfl ?_
      refine rr_iload_n dL_law_317 rfl ?_
      refine rr_iconst dL_law_318 (by decide) ?_
      refine rr_iadd dL_law_319 ?_
      refine rq_iald (nz := (p0_n : Int)) dL_law_320 hs_p0 rfl g30 ?_
      obtain ⟨r35, σ36, e34, h⟩ := ab_2 h
      refine rq_Vi hkc hks (as := [am_i (σ33 p0 (am_w (x3 + 1))), am_i (σ33 p0 (am_w (x3 + 2))), am_i (σ33 p0 (am_w (x3 + 3))), am_i (σ33 p0 (am_w (x3 + 4))), am_i (σ33 p0 (am_w (x3 + 5)))]) (rest := [am_i r32]) dL_law_321 ml_8_26 (sh_75 L) ⟨(by decide), by decide, by decide⟩ rfl rfl rfl (Nat.le_of_ble_eq_true rfl) ⟨rfl, rfl⟩ (Nat.le_of_ble_eq_true rfl) (fun _ k => t_X7_copy (by omega) e34 k) ?_
      rcases ab_i h with ⟨c37, h⟩ | ⟨c37, h⟩
      · refine rr_icmp_eq_p (t := 1265) dL_law_324 (by decide) c37 ?_
        refine rr_iinc (ls' := [some (am_r p0), some (am_r 3), some (am_r 75), some (am_i (am_w (x3 + 8)))]) dL_law_1265 rfl (Nat.le_of_ble_eq_true rfl) rfl ?_
        refine rr_goto (t := 18) dL_law_1268 (by decide) ?_
        exact hk18 _ _ h
      · refine rr_icmp_eq_n (t := 1265) dL_law_324 (by decide) c37 ?_
        refine rr_iconst dL_law_327 (by decide) ?_
        obtain ⟨rfl, rfl⟩ := ab_r2 h
        exact rq_zret hkc hks dL_law_328 rfl (Or.inl rfl) hQ
    rcases ab_i h with ⟨c38, h⟩ | ⟨c38, h⟩
    · refine rr_tsw_in (off := 296) (t := 329) dL_law_33 (by omega) (by rw [c38]; rfl) (by decide) ?_
      refine rr_aload_n dL_law_329 rfl ?_
      refine rr_aload_n dL_law_330 rfl ?_
      refine rr_iload_n dL_law_331 rfl ?_
      refine rr_iconst dL_law_332 (by decide) ?_
      refine rr_iadd dL_law_333 ?_
      obtain ⟨g39, h⟩ := ab_g h
      refine rq_iald (nz := (p0_n : Int)) dL_law_334 hs_p0 rfl g39 ?_
      obtain ⟨r41, σ42, e40, h⟩ := ab_2 h
      refine rq_Vi hkc hks (as := [am_i (σ p0 (am_w (x3 + 1)))]) (rest := []) dL_law_335 ml_8_27 (sh_3 L) ⟨(by decide), by decide, by decide⟩ rfl rfl rfl (Nat.le_of_ble_eq_true rfl) ⟨rfl, rfl⟩ (Nat.le_of_ble_eq_true rfl) (fun _ k => t_X6_drop (by omega) e40 k) ?_
      refine rr_aload_n dL_law_338 rfl ?_
      refine rr_aload_n dL_law_339 rfl ?_
      refine rr_iload_n dL_law_340 rfl ?_
      refine rr_iconst dL_law_341 (by decide) ?_
      refine rr_iadd dL_law_342 ?_
      refine rq_iald (nz := (p0_n : Int)) dL_law_343 hs_p0 rfl g39 ?_
      obtain ⟨r44, σ45, e43, h⟩ := ab_2 h
      refine rq_Vi hkc hks (as := [am_i (σ42 p0 (am_w (x3 + 1)))]) (rest := [am_i r41]) dL_law_344 ml_8_31 (sh_75 L) ⟨(by decide), by decide, by decide⟩ rfl rfl rfl (Nat.le_of_ble_eq_true rfl) ⟨rfl, rfl⟩ (Nat.le_of_ble_eq_true rfl) (fun _ k => t_X7_drop (by omega) e43 k) ?_
      rcases ab_i h with ⟨c46, h⟩ | ⟨c46, h⟩
      · refine rr_icmp_eq_p (t := 1265) dL_law_347 (by decide) c46 ?_
        refine rr_iinc (ls' := [some (am_r p0), some (am_r 3), some (am_r 75), some (am_i (am_w (x3 + 8)))]) dL_law_1265 rfl (Nat.le_of_ble_eq_true rfl) rfl ?_
        refine rr_goto (t := 18) dL_law_1268 (by decide) ?_
        exact hk18 _ _ h
      · refine rr_icmp_eq_n (t := 1265) dL_law_347 (by decide) c46 ?_
        refine rr_iconst dL_law_350 (by decide) ?_
        obtain ⟨rfl, rfl⟩ := ab_r2 h
        exact rq_zret hkc hks dL_law_351 rfl (Or.inl rfl) hQ
    rcases ab_i h with ⟨c47, h⟩ | ⟨c47, h⟩
    · refine rr_tsw_in (off := 319) (t := 352) dL_law_33 (by omega) (by rw [c47]; rfl) (by decide) ?_
      refine rr_aload_n dL_law_352 rfl ?_
      refine rr_aload_n dL_law_353 rfl ?_
      refine rr_iload_n dL_law_354 rfl ?_
      refine rr_iconst dL_law_355 (by decide) ?_
      refine rr_iadd dL_law_356 ?_
      obtain ⟨g48, h⟩ := ab_g h
      refine rq_iald (nz := (p0_n : Int)) dL_law_357 hs_p0 rfl g48 ?_
      obtain ⟨r50, σ51, e49, h⟩ := ab_2 h
      refine rq_Vi hkc hks (as := [am_i (σ p0 (am_w (x3 + 1)))]) (rest := []) dL_law_358 ml_8_32 (sh_3 L) ⟨(by decide), by decide, by decide⟩ rfl rfl rfl (Nat.le_of_ble_eq_true rfl) ⟨rfl, rfl⟩ (Nat.le_of_ble_eq_true rfl) (fun _ k => t_X6_feed (by omega) e49 k) ?_
      refine rr_aload_n dL_law_361 rfl ?_
      refine rr_aload_n dL_law_362 rfl ?_
      refine rr_iload_n dL_law_363 rfl ?_
      refine rr_iconst dL_law_364 (by decide) ?_
      refine rr_iadd dL_law_365 ?_
      refine rq_iald (nz := (p0_n : Int)) dL_law_366 hs_p0 rfl g48 ?_
      obtain ⟨r53, σ54, e52, h⟩ := ab_2 h
      refine rq_Vi hkc hks (as := [am_i (σ51 p0 (am_w (x3 + 1)))]) (rest := [am_i r50]) dL_law_367 ml_8_35 (sh_75 L) ⟨(by decide), by decide, by decide⟩ rfl rfl rfl (Nat.le_of_ble_eq_true rfl) ⟨rfl, rfl⟩ (Nat.le_of_ble_eq_true rfl) (fun _ k => t_X7_feed (by omega) e52 k) ?_
      rcases ab_i h with ⟨c55, h⟩ | ⟨c55, h⟩
      · refine rr_icmp_eq_p (t := 1265) dL_law_370 (by decide) c55 ?_
        refine rr_iinc (ls' := [some (am_r p0), some (am_r 3), some (am_r 75), some (am_i (am_w (x3 + 8)))]) dL_law_1265 rfl (Nat.le_of_ble_eq_true rfl) rfl ?_
        refine rr_goto (t := 18) dL_law_1268 (by decide) ?_
        exact hk18 _ _ h
      · refine rr_icmp_eq_n (t := 1265) dL_law_370 (by decide) c55 ?_
        refine rr_iconst dL_law_373 (by decide) ?_
        obtain ⟨rfl, rfl⟩ := ab_r2 h
        exact rq_zret hkc hks dL_law_374 rfl (Or.inl rfl) hQ
    rcases ab_i h with ⟨c56, h⟩ | ⟨c56, h⟩
    · refine rr_tsw_in (off := 342) (t := 375) dL_law_33 (by omega) (by rw [c56]; rfl) (by decide) ?_
      refine rr_aload_n dL_law_375 rfl ?_
      obtain ⟨r58, σ59, e57, h⟩ := ab_2 h
      refine rq_Vi hkc hks (as := []) (rest := []) dL_law_376 ml_8_36 (sh_3 L) ⟨(by decide), by decide, by decide⟩ rfl rfl rfl (Nat.le_of_ble_eq_true rfl) ⟨rfl, rfl⟩ (Nat.le_of_ble_eq_true rfl) (fun _ k => t_X6_town (by omega) e57 k) ?_
      refine rr_aload_n dL_law_379 rfl ?_
      obtain ⟨r61, σ62, e60, h⟩ := ab_2 h
      refine rq_Vi hkc hks (as := []) (rest := [am_i r58]) dL_law_380 ml_8_40 (sh_75 L) ⟨(by decide), by decide, by decide⟩ rfl rfl rfl (Nat.le_of_ble_eq_true rfl) ⟨rfl, rfl⟩ (Nat.le_of_ble_eq_true rfl) (fun _ k => t_X7_town (by omega) e60 k) ?_
      rcases ab_i h with ⟨c63, h⟩ | ⟨c63, h⟩
      · refine rr_icmp_eq_p (t := 1265) dL_law_383 (by decide) c63 ?_
        refine rr_iinc (ls' := [some (am_r p0), some (am_r 3), some (am_r 75), some (am_i (am_w (x3 + 8)))]) dL_law_1265 rfl (Nat.le_of_ble_eq_true rfl) rfl ?_
        refine rr_goto (t := 18) dL_law_1268 (by decide) ?_
        exact hk18 _ _ h
      · refine rr_icmp_eq_n (t := 1265) dL_law_383 (by decide) c63 ?_
        refine rr_iconst dL_law_386 (by decide) ?_
        obtain ⟨rfl, rfl⟩ := ab_r2 h
        exact rq_zret hkc hks dL_law_387 rfl (Or.inl rfl) hQ
    rcases ab_i h with ⟨c64, h⟩ | ⟨c64, h⟩
    · refine rr_tsw_in (off := 355) (t := 388) dL_law_33 (by omega) (by rw [c64]; rfl) (by decide) ?_
      refine rr_aload_n dL_law_388 rfl ?_
      obtain ⟨r66, σ67, e65, h⟩ := ab_2 h
      refine rq_Vi hkc hks (as := []) (rest := []) dL_law_389 ml_8_41 (sh_3 L) ⟨(by decide), by decide, by decide⟩ rfl rfl rfl (Nat.le_of_ble_eq_true rfl) ⟨rfl, rfl⟩ (Nat.le_of_ble_eq_true rfl) (fun _ k => t_X6_fault (by omega) e65 k) ?_
      refine rr_aload_n dL_law_392 rfl ?_
      obtain ⟨r69, σ70, e68, h⟩ := ab_2 h
      refine rq_Vi hkc hks (as := []) (rest := [am_i r66]) dL_law_393 ml_8_44 (sh_75 L) ⟨(by decide), by decide, by decide⟩ rfl rfl rfl (Nat.le_of_ble_eq_true rfl) ⟨rfl, rfl⟩ (Nat.le_of_ble_eq_true rfl) (fun _ k => t_X7_fault (by omega) e68 k) ?_
      rcases ab_i h with ⟨c71, h⟩ | ⟨c71, h⟩
      · refine rr_icmp_eq_p (t := 1265) dL_law_396 (by decide) c71 ?_
        refine rr_iinc (ls' := [some (am_r p0), some (am_r 3), some (am_r 75), some (am_i (am_w (x3 + 8)))]) dL_law_1265 rfl (Nat.le_of_ble_eq_true rfl) rfl ?_
        refine rr_goto (t := 18) dL_law_1268 (by decide) ?_
        exact hk18 _ _ h
      · refine rr_icmp_eq_n (t := 1265) dL_law_396 (by decide) c71 ?_
        refine rr_iconst dL_law_399 (by decide) ?_
        obtain ⟨rfl, rfl⟩ := ab_r2 h
        exact rq_zret hkc hks dL_law_400 rfl (Or.inl rfl) hQ
    rcases ab_i h with ⟨c72, h⟩ | ⟨c72, h⟩
    · refine rr_tsw_in (off := 368) (t := 401) dL_law_33 (by omega) (by rw [c72]; rfl) (by decide) ?_
      refine rr_aload_n dL_law_401 rfl ?_
      refine rr_aload_n dL_law_402 rfl ?_
      refine rr_iload_n dL_law_403 rfl ?_
      refine rr_iconst dL_law_404 (by decide) ?_
      refine rr_iadd dL_law_405 ?_
      obtain ⟨g73, h⟩ := ab_g h
      refine rq_iald (nz := (p0_n : Int)) dL_law_406 hs_p0 rfl g73 ?_
      obtain ⟨r75, σ76, e74, h⟩ := ab_2 h
      refine rq_Vi hkc hks (as := [am_i (σ p0 (am_w (x3 + 1)))]) (rest := []) dL_law_407 ml_8_45 (sh_3 L) ⟨(by decide), by decide, by decide⟩ rfl rfl rfl (Nat.le_of_ble_eq_true rfl) ⟨rfl, rfl⟩ (Nat.le_of_ble_eq_true rfl) (fun _ k => t_X6_ride (by omega) e74 k) ?_
      refine rr_aload_n dL_law_410 rfl ?_
      refine rr_aload_n dL_law_411 rfl ?_
      refine rr_iload_n dL_law_412 rfl ?_
      refine rr_iconst dL_law_413 (by decide) ?_
      refine rr_iadd dL_law_414 ?_
      refine rq_iald (nz := (p0_n : Int)) dL_law_415 hs_p0 rfl g73 ?_
      obtain ⟨r78, σ79, e77, h⟩ := ab_2 h
      refine rq_Vi hkc hks (as := [am_i (σ76 p0 (am_w (x3 + 1)))]) (rest := [am_i r75]) dL_law_416 ml_8_48 (sh_75 L) ⟨(by decide), by decide, by decide⟩ rfl rfl rfl (Nat.le_of_ble_eq_true rfl) ⟨rfl, rfl⟩ (Nat.le_of_ble_eq_true rfl) (fun _ k => t_X7_ride (by omega) e77 k) ?_
      rcases ab_i h with ⟨c80, h⟩ | ⟨c80, h⟩
      · refine rr_icmp_eq_p (t := 1265) dL_law_419 (by decide) c80 ?_
        refine rr_iinc (ls' := [some (am_r p0), some (am_r 3), some (am_r 75), some (am_i (am_w (x3 + 8)))]) dL_law_1265 rfl (Nat.le_of_ble_eq_true rfl) rfl ?_
        refine rr_goto (t := 18) dL_law_1268 (by decide) ?_
        exact hk18 _ _ h
      · refine rr_icmp_eq_n (t := 1265) dL_law_419 (by decide) c80 ?_
        refine rr_iconst dL_law_422 (by decide) ?_
        obtain ⟨rfl, rfl⟩ := ab_r2 h
        exact rq_zret hkc hks dL_law_423 rfl (Or.inl rfl) hQ
    rcases ab_i h with ⟨c81, h⟩ | ⟨c81, h⟩
    · refine rr_tsw_in (off := 391) (t := 424) dL_law_33 (by omega) (by rw [c81]; rfl) (by decide) ?_
      refine rr_aload_n dL_law_424 rfl ?_
      refine rr_aload_n dL_law_425 rfl ?_
      refine rr_iload_n dL_law_426 rfl ?_
      refine rr_iconst dL_law_427 (by decide) ?_
      refine rr_iadd dL_law_428 ?_
      obtain ⟨g82, h⟩ := ab_g h
      refine rq_iald (nz := (p0_n : Int)) dL_law_429 hs_p0 rfl g82 ?_
      refine rr_aload_n dL_law_430 rfl ?_
      refine rr_iload_n dL_law_431 rfl ?_
      refine rr_iconst dL_law_432 (by decide) ?_
      refine rr_iadd dL_law_433 ?_
      obtain ⟨g83, h⟩ := ab_g h
      refine rq_iald (nz := (p0_n : Int)) dL_law_434 hs_p0 rfl g83 ?_
      obtain ⟨r85, σ86, e84, h⟩ := ab_2 h
      refine rq_Vi hkc hks (as := [am_i (σ p0 (am_w (x3 + 1))), am_i (σ p0 (am_w (x3 + 2)))]) (rest := []) dL_law_435 ml_8_49 (sh_3 L) ⟨(by decide), by decide, by decide⟩ rfl rfl rfl (Nat.le_of_ble_eq_true rfl) ⟨rfl, rfl⟩ (Nat.le_of_ble_eq_true rfl) (fun _ k => t_X6_lesson (by omega) e84 k) ?_
      refine rr_aload_n dL_law_438 rfl ?_
      refine rr_aload_n dL_law_439 rfl ?_
      refine rr_iload_n dL_law_440 rfl ?_
      refine rr_iconst dL_law_441 (by decide) ?_
      refine rr_iadd dL_law_442 ?_
      refine rq_iald (nz := (p0_n : Int)) dL_law_443 hs_p0 rfl g82 ?_
      refine rr_aload_n dL_law_444 rfl ?_
      refine rr_iload_n dL_law_445 rfl ?_
      refine rr_iconst dL_law_446 (by decide) ?_
      refine rr_iadd dL_law_447 ?_
      refine rq_iald (nz := (p0_n : Int)) dL_law_448 hs_p0 rfl g83 ?_
      obtain ⟨r88, σ89, e87, h⟩ := ab_2 h
      refine rq_Vi hkc hks (as := [am_i (σ86 p0 (am_w (x3 + 1))), am_i (σ86 p0 (am_w (x3 + 2)))]) (rest := [am_i r85]) dL_law_449 ml_8_53 (sh_75 L) ⟨(by decide), by decide, by decide⟩ rfl rfl rfl (Nat.le_of_ble_eq_true rfl) ⟨rfl, rfl⟩ (Nat.le_of_ble_eq_true rfl) (fun _ k => t_X7_lesson (by omega) e87 k) ?_
      rcases ab_i h with ⟨c90, h⟩ | ⟨c90, h⟩
      · refine rr_icmp_eq_p (t := 1265) dL_law_452 (by decide) c90 ?_
        refine rr_iinc (ls' := [some (am_r p0), some (am_r 3), some (am_r 75), some (am_i (am_w (x3 + 8)))]) dL_law_1265 rfl (Nat.le_of_ble_eq_true rfl) rfl ?_
        refine rr_goto (t := 18) dL_law_1268 (by decide) ?_
        exact hk18 _ _ h
      · refine rr_icmp_eq_n (t := 1265) dL_law_452 (by decide) c90 ?_
        refine rr_iconst dL_law_455 (by decide) ?_
        obtain ⟨rfl, rfl⟩ := ab_r2 h
        exact rq_zret hkc hks dL_law_456 rfl (Or.inl rfl) hQ
    rcases ab_i h with ⟨c91, h⟩ | ⟨c91, h⟩
    · refine rr_tsw_in (off := 424) (t := 457) dL_law_33 (by omega) (by rw [c91]; rfl) (by decide) ?_
      refine rr_aload_n dL_law_457 rfl ?_
      obtain ⟨r93, σ94, e92, h⟩ := ab_2 h
      refine rq_Vi hkc hks (as := []) (rest := []) dL_law_458 ml_8_54 (sh_3 L) ⟨(by decide), by decide, by decide⟩ rfl rfl rfl (Nat.le_of_ble_eq_true rfl) ⟨rfl, rfl⟩ (Nat.le_of_ble_eq_true rfl) (fun _ k => t_X6_reset (by omega) e92 k) ?_
      refine rr_aload_n dL_law_461 rfl ?_
      obtain ⟨r96, σ97, e95, h⟩ := ab_2 h
      refine rq_Vi hkc hks (as := []) (rest := [am_i r93]) dL_law_462 ml_8_57 (sh_75 L) ⟨(by decide), by decide, by decide⟩ rfl rfl rfl (Nat.le_of_ble_eq_true rfl) ⟨rfl, rfl⟩ (Nat.le_of_ble_eq_true rfl) (fun _ k => t_X7_reset (by omega) e95 k) ?_
      rcases ab_i h with ⟨c98, h⟩ | ⟨c98, h⟩
      · refine rr_icmp_eq_p (t := 1265) dL_law_465 (by decide) c98 ?_
        refine rr_iinc (ls' := [some (am_r p0), some (am_r 3), some (am_r 75), some (am_i (am_w (x3 + 8)))]) dL_law_1265 rfl (Nat.le_of_ble_eq_true rfl) rfl ?_
        refine rr_goto (t := 18) dL_law_1268 (by decide) ?_
        exact hk18 _ _ h
      · refine rr_icmp_eq_n (t := 1265) dL_law_465 (by decide) c98 ?_
        refine rr_iconst dL_law_468 (by decide) ?_
        obtain ⟨rfl, rfl⟩ := ab_r2 h
        exact rq_zret hkc hks dL_law_469 rfl (Or.inl rfl) hQ
    rcases ab_i h with ⟨c99, h⟩ | ⟨c99, h⟩
    · refine rr_tsw_in (off := 437) (t := 470) dL_law_33 (by omega) (by rw [c99]; rfl) (by decide) ?_
      refine rr_aload_n dL_law_470 rfl ?_
      refine rr_aload_n dL_law_471 rfl ?_
      refine rr_iload_n dL_law_472 rfl ?_
      refine rr_iconst dL_law_473 (by decide) ?_
      refine rr_iadd dL_law_474 ?_
      obtain ⟨g100, h⟩ := ab_g h
      refine rq_iald (nz := (p0_n : Int)) dL_law_475 hs_p0 rfl g100 ?_
      refine rr_aload_n dL_law_476 rfl ?_
      refine rr_iload_n dL_law_477 rfl ?_
      refine rr_iconst dL_law_478 (by decide) ?_
      refine rr_iadd dL_law_479 ?_
      obtain ⟨g101, h⟩ := ab_g h
      refine rq_iald (nz := (p0_n : Int)) dL_law_480 hs_p0 rfl g101 ?_
      obtain ⟨r103, σ104, e102, h⟩ := ab_2 h
      refine rq_Vi hkc hks (as := [am_i (σ p0 (am_w (x3 + 1))), am_i (σ p0 (am_w (x3 + 2)))]) (rest := []) dL_law_481 ml_8_58 (sh_3 L) ⟨(by decide), by decide, by decide⟩ rfl rfl rfl (Nat.le_of_ble_eq_true rfl) ⟨rfl, rfl⟩ (Nat.le_of_ble_eq_true rfl) (fun _ k => t_X6_street (by omega) e102 k) ?_
      refine rr_aload_n dL_law_484 rfl ?_
      refine rr_aload_n dL_law_485 rfl ?_
      refine rr_iload_n dL_law_486 rfl ?_
      refine rr_iconst dL_law_487 (by decide) ?_
      refine rr_iadd dL_law_488 ?_
      refine rq_iald (nz := (p0_n : Int)) dL_law_489 hs_p0 rfl g100 ?_
      refine rr_aload_n dL_law_490 rfl ?_
      refine rr_iload_n dL_law_491 rfl ?_
      refine rr_iconst dL_law_492 (by decide) ?_
      refine rr_iadd dL_law_493 ?_
      refine rq_iald (nz := (p0_n : Int)) dL_law_494 hs_p0 rfl g101 ?_
      obtain ⟨r106, σ107, e105, h⟩ := ab_2 h
      refine rq_Vi hkc hks (as := [am_i (σ104 p0 (am_w (x3 + 1))), am_i (σ104 p0 (am_w (x3 + 2)))]) (rest := [am_i r103]) dL_law_495 ml_8_61 (sh_75 L) ⟨(by decide), by decide, by decide⟩ rfl rfl rfl (Nat.le_of_ble_eq_true rfl) ⟨rfl, rfl⟩ (Nat.le_of_ble_eq_true rfl) (fun _ k => t_X7_street (by omega) e105 k) ?_
      rcases ab_i h with ⟨c108, h⟩ | ⟨c108, h⟩
      · refine rr_icmp_eq_p (t := 1265) dL_law_498 (by decide) c108 ?_
        refine rr_iinc (ls' := [some (am_r p0), some (am_r 3), some (am_r 75), some (am_i (am_w (x3 + 8)))]) dL_law_1265 rfl (Nat.le_of_ble_eq_true rfl) rfl ?_
        refine rr_goto (t := 18) dL_law_1268 (by decide) ?_
        exact hk18 _ _ h
      · refine rr_icmp_eq_n (t := 1265) dL_law_498 (by decide) c108 ?_
        refine rr_iconst dL_law_501 (by decide) ?_
        obtain ⟨rfl, rfl⟩ := ab_r2 h
        exact rq_zret hkc hks dL_law_502 rfl (Or.inl rfl) hQ
    rcases ab_i h with ⟨c109, h⟩ | ⟨c109, h⟩
    · refine rr_tsw_in (off := 470) (t := 503) dL_law_33 (by omega) (by rw [c109]; rfl) (by decide) ?_
      refine rr_aload_n dL_law_503 rfl ?_
      obtain ⟨r111, σ112, e110, h⟩ := ab_2 h
      refine rq_Vi hkc hks (as := []) (rest := []) dL_law_504 ml_8_62 (sh_3 L) ⟨(by decide), by decide, by decide⟩ rfl rfl rfl (Nat.le_of_ble_eq_true rfl) ⟨rfl, rfl⟩ (Nat.le_of_ble_eq_true rfl) (fun _ k => t_X6_undo (by omega) e110 k) ?_
      refine rr_aload_n dL_law_507 rfl ?_
      obtain ⟨r114, σ115, e113, h⟩ := ab_2 h
      refine rq_Vi hkc hks (as := []) (rest := [am_i r111]) dL_law_508 ml_8_65 (sh_75 L) ⟨(by decide), by decide, by decide⟩ rfl rfl rfl (Nat.le_of_ble_eq_true rfl) ⟨rfl, rfl⟩ (Nat.le_of_ble_eq_true rfl) (fun _ k => t_X7_undo (by omega) e113 k) ?_
      rcases ab_i h with ⟨c116, h⟩ | ⟨c116, h⟩
      · refine rr_icmp_eq_p (t := 1265) dL_law_511 (by decide) c116 ?_
        refine rr_iinc (ls' := [some (am_r p0), some (am_r 3), some (am_r 75), some (am_i (am_w (x3 + 8)))]) dL_law_1265 rfl (Nat.le_of_ble_eq_true rfl) rfl ?_
        refine rr_goto (t := 18) dL_law_1268 (by decide) ?_
        exact hk18 _ _ h
      · refine rr_icmp_eq_n (t := 1265) dL_law_511 (by decide) c116 ?_
        refine rr_iconst dL_law_514 (by decide) ?_
        obtain ⟨rfl, rfl⟩ := ab_r2 h
        exact rq_zret hkc hks dL_law_515 rfl (Or.inl rfl) hQ
    rcases ab_i h with ⟨c117, h⟩ | ⟨c117, h⟩
    · refine rr_tsw_in (off := 483) (t := 516) dL_law_33 (by omega) (by rw [c117]; rfl) (by decide) ?_
      refine rr_aload_n dL_law_516 rfl ?_
      refine rr_aload_n dL_law_517 rfl ?_
      refine rr_iload_n dL_law_518 rfl ?_
      refine rr_iconst dL_law_519 (by decide) ?_
      refine rr_iadd dL_law_520 ?_
      obtain ⟨g118, h⟩ := ab_g h
      refine rq_iald (nz := (p0_n : Int)) dL_law_521 hs_p0 rfl g118 ?_
      refine rr_aload_n dL_law_522 rfl ?_
      refine rr_iload_n dL_law_523 rfl ?_
      refine rr_iconst dL_law_524 (by decide) ?_
      refine rr_iadd dL_law_525 ?_
      obtain ⟨g119, h⟩ := ab_g h
      refine rq_iald (nz := (p0_n : Int)) dL_law_526 hs_p0 rfl g119 ?_
      obtain ⟨r121, σ122, e120, h⟩ := ab_2 h
      refine rq_Vi hkc hks (as := [am_i (σ p0 (am_w (x3 + 1))), am_i (σ p0 (am_w (x3 + 2)))]) (rest := []) dL_law_527 ml_8_66 (sh_3 L) ⟨(by decide), by decide, by decide⟩ rfl rfl rfl (Nat.le_of_ble_eq_true rfl) ⟨rfl, rfl⟩ (Nat.le_of_ble_eq_true rfl) (fun _ k => t_X6_corner (by omega) e120 k) ?_
      refine rr_aload_n dL_law_530 rfl ?_
      refine rr_aload_n dL_law_531 rfl ?_
      refine rr_iload_n dL_law_532 rfl ?_
      refine rr_iconst dL_law_533 (by decide) ?_
      refine rr_iadd dL_law_534 ?_
      refine rq_iald (nz := (p0_n : Int)) dL_law_535 hs_p0 rfl g118 ?_
      refine rr_aload_n dL_law_536 rfl ?_
      refine rr_iload_n dL_law_537 rfl ?_
      refine rr_iconst dL_law_538 (by decide) ?_
      refine rr_iadd dL_law_539 ?_
      refine rq_iald (nz := (p0_n : Int)) dL_law_540 hs_p0 rfl g119 ?_
      obtain ⟨r124, σ125, e123, h⟩ := ab_2 h
      refine rq_Vi hkc hks (as := [am_i (σ122 p0 (am_w (x3 + 1))), am_i (σ122 p0 (am_w (x3 + 2)))]) (rest := [am_i r121]) dL_law_541 ml_8_69 (sh_75 L) ⟨(by decide), by decide, by decide⟩ rfl rfl rfl (Nat.le_of_ble_eq_true rfl) ⟨rfl, rfl⟩ (Nat.le_of_ble_eq_true rfl) (fun _ k => t_X7_corner (by omega) e123 k) ?_
      rcases ab_i h with ⟨c126, h⟩ | ⟨c126, h⟩
      · refine rr_icmp_eq_p (t := 1265) dL_law_544 (by decide) c126 ?_
        refine rr_iinc (ls' := [some (am_r p0), some (am_r 3), some (am_r 75), some (am_i (am_w (x3 + 8)))]) dL_law_1265 rfl (Nat.le_of_ble_eq_true rfl) rfl ?_
        refine rr_goto (t := 18) dL_law_1268 (by decide) ?_
        exact hk18 _ _ h
      · refine rr_icmp_eq_n (t := 1265) dL_law_544 (by decide) c126 ?_
        refine rr_iconst dL_law_547 (by decide) ?_
        obtain ⟨rfl, rfl⟩ := ab_r2 h
        exact rq_zret hkc hks dL_law_548 rfl (Or.inl rfl) hQ
    rcases ab_i h with ⟨c127, h⟩ | ⟨c127, h⟩
    · refine rr_tsw_in (off := 516) (t := 549) dL_law_33 (by omega) (by rw [c127]; rfl) (by decide) ?_
      refine rr_aload_n dL_law_549 rfl ?_
      refine rr_aload_n dL_law_550 rfl ?_
      refine rr_iload_n dL_law_551 rfl ?_
      refine rr_iconst dL_law_552 (by decide) ?_
      refine rr_iadd dL_law_553 ?_
      obtain ⟨g128, h⟩ := ab_g h
      refine rq_iald (nz := (p0_n : Int)) dL_law_554 hs_p0 rfl g128 ?_
      refine rr_aload_n dL_law_555 rfl ?_
      refine rr_iload_n dL_law_556 rfl ?_
      refine rr_iconst dL_law_557 (by decide) ?_
      refine rr_iadd dL_law_558 ?_
      obtain ⟨g129, h⟩ := ab_g h
      refine rq_iald (nz := (p0_n : Int)) dL_law_559 hs_p0 rfl g129 ?_
      obtain ⟨r131, σ132, e130, h⟩ := ab_2 h
      refine rq_Vi hkc hks (as := [am_i (σ p0 (am_w (x3 + 1))), am_i (σ p0 (am_w (x3 + 2)))]) (rest := []) dL_law_560 ml_8_70 (sh_3 L) ⟨(by decide), by decide, by decide⟩ rfl rfl rfl (Nat.le_of_ble_eq_true rfl) ⟨rfl, rfl⟩ (Nat.le_of_ble_eq_true rfl) (fun _ k => t_X6_way (by omega) e130 k) ?_
      refine rr_aload_n dL_law_563 rfl ?_
      refine rr_aload_n dL_law_564 rfl ?_
      refine rr_iload_n dL_law_565 rfl ?_
      refine rr_iconst dL_law_566 (by decide) ?_
      refine rr_iadd dL_law_567 ?_
      refine rq_iald (nz := (p0_n : Int)) dL_law_568 hs_p0 rfl g128 ?_
      refine rr_aload_n dL_law_569 rfl ?_
      refine rr_iload_n dL_law_570 rfl ?_
      refine rr_iconst dL_law_571 (by decide) ?_
      refine rr_iadd dL_law_572 ?_
      refine rq_iald (nz := (p0_n : Int)) dL_law_573 hs_p0 rfl g129 ?_
      obtain ⟨r134, σ135, e133, h⟩ := ab_2 h
      refine rq_Vi hkc hks (as := [am_i (σ132 p0 (am_w (x3 + 1))), am_i (σ132 p0 (am_w (x3 + 2)))]) (rest := [am_i r131]) dL_law_574 ml_8_73 (sh_75 L) ⟨(by decide), by decide, by decide⟩ rfl rfl rfl (Nat.le_of_ble_eq_true rfl) ⟨rfl, rfl⟩ (Nat.le_of_ble_eq_true rfl) (fun _ k => t_X7_way (by omega) e133 k) ?_
      rcases ab_i h with ⟨c136, h⟩ | ⟨c136, h⟩
      · refine rr_icmp_eq_p (t := 1265) dL_law_577 (by decide) c136 ?_
        refine rr_iinc (ls' := [some (am_r p0), some (am_r 3), some (am_r 75), some (am_i (am_w (x3 + 8)))]) dL_law_1265 rfl (Nat.le_of_ble_eq_true rfl) rfl ?_
        refine rr_goto (t := 18) dL_law_1268 (by decide) ?_
        exact hk18 _ _ h
      · refine rr_icmp_eq_n (t := 1265) dL_law_577 (by decide) c136 ?_
        refine rr_iconst dL_law_580 (by decide) ?_
        obtain ⟨rfl, rfl⟩ := ab_r2 h
        exact rq_zret hkc hks dL_law_581 rfl (Or.inl rfl) hQ
    rcases ab_i h with ⟨c137, h⟩ | ⟨c137, h⟩
    · refine rr_tsw_in (off := 549) (t := 582) dL_law_33 (by omega) (by rw [c137]; rfl) (by decide) ?_
      refine rr_aload_n dL_law_582 rfl ?_
      refine rr_aload_n dL_law_583 rfl ?_
      refine rr_iload_n dL_law_584 rfl ?_
      refine rr_iconst dL_law_585 (by decide) ?_
      refine rr_iadd dL_law_586 ?_
      obtain ⟨g138, h⟩ := ab_g h
      refine rq_iald (nz := (p0_n : Int)) dL_law_587 hs_p0 rfl g138 ?_
      refine rr_aload_n dL_law_588 rfl ?_
      refine rr_iload_n dL_law_589 rfl ?_
      refine rr_iconst dL_law_590 (by decide) ?_
      refine rr_iadd dL_law_591 ?_
      obtain ⟨g139, h⟩ := ab_g h
      refine rq_iald (nz := (p0_n : Int)) dL_law_592 hs_p0 rfl g139 ?_
      obtain ⟨r141, σ142, e140, h⟩ := ab_2 h
      refine rq_Vi hkc hks (as := [am_i (σ p0 (am_w (x3 + 1))), am_i (σ p0 (am_w (x3 + 2)))]) (rest := []) dL_law_593 ml_8_74 (sh_3 L) ⟨(by decide), by decide, by decide⟩ rfl rfl rfl (Nat.le_of_ble_eq_true rfl) ⟨rfl, rfl⟩ (Nat.le_of_ble_eq_true rfl) (fun _ k => t_X6_would (by omega) e140 k) ?_
      refine rr_aload_n dL_law_596 rfl ?_
      refine rr_aload_n dL_law_597 rfl ?_
      refine rr_iload_n dL_law_598 rfl ?_
      refine rr_iconst dL_law_599 (by decide) ?_
      refine rr_iadd dL_law_600 ?_
      refine rq_iald (nz := (p0_n : Int)) dL_law_601 hs_p0 rfl g138 ?_
      refine rr_aload_n dL_law_602 rfl ?_
      refine rr_iload_n dL_law_603 rfl ?_
      refine rr_iconst dL_law_604 (by decide) ?_
      refine rr_iadd dL_law_605 ?_
      refine rq_iald (nz := (p0_n : Int)) dL_law_606 hs_p0 rfl g139 ?_
      obtain ⟨r144, σ145, e143, h⟩ := ab_2 h
      refine rq_Vi hkc hks (as := [am_i (σ142 p0 (am_w (x3 + 1))), am_i (σ142 p0 (am_w (x3 + 2)))]) (rest := [am_i r141]) dL_law_607 ml_8_77 (sh_75 L) ⟨(by decide), by decide, by decide⟩ rfl rfl rfl (Nat.le_of_ble_eq_true rfl) ⟨rfl, rfl⟩ (Nat.le_of_ble_eq_true rfl) (fun _ k => t_X7_would (by omega) e143 k) ?_
      rcases ab_i h with ⟨c146, h⟩ | ⟨c146, h⟩
      · refine rr_icmp_eq_p (t := 1265) dL_law_610 (by decide) c146 ?_
        refine rr_iinc (ls' := [some (am_r p0), some (am_r 3), some (am_r 75), some (am_i (am_w (x3 + 8)))]) dL_law_1265 rfl (Nat.le_of_ble_eq_true rfl) rfl ?_
        refine rr_goto (t := 18) dL_law_1268 (by decide) ?_
        exact hk18 _ _ h
      · refine rr_icmp_eq_n (t := 1265) dL_law_610 (by decide) c146 ?_
        refine rr_iconst dL_law_613 (by decide) ?_
        obtain ⟨rfl, rfl⟩ := ab_r2 h
        exact rq_zret hkc hks dL_law_614 rfl (Or.inl rfl) hQ
    rcases ab_i h with ⟨c147, h⟩ | ⟨c147, h⟩
    · refine rr_tsw_in (off := 582) (t := 615) dL_law_33 (by omega) (by rw [c147]; rfl) (by decide) ?_
      refine rr_aload_n dL_law_615 rfl ?_
      obtain ⟨r149, σ150, e148, h⟩ := ab_2 h
      refine rq_Vi hkc hks (as := []) (rest := []) dL_law_616 ml_8_78 (sh_3 L) ⟨(by decide), by decide, by decide⟩ rfl rfl rfl (Nat.le_of_ble_eq_true rfl) ⟨rfl, rfl⟩ (Nat.le_of_ble_eq_true rfl) (fun _ k => t_X6_reach (by omega) e148 k) ?_
      refine rr_aload_n dL_law_619 rfl ?_
      obtain ⟨r152, σ153, e151, h⟩ := ab_2 h
      refine rq_Vi hkc hks (as := []) (rest := [am_i r149]) dL_law_620 ml_8_81 (sh_75 L) ⟨(by decide), by decide, by decide⟩ rfl rfl rfl (Nat.le_of_ble_eq_true rfl) ⟨rfl, rfl⟩ (Nat.le_of_ble_eq_true rfl) (fun _ k => t_X7_reach (by omega) e151 k) ?_
      rcases ab_i h with ⟨c154, h⟩ | ⟨c154, h⟩
      · refine rr_icmp_eq_p (t := 1265) dL_law_623 (by decide) c154 ?_
        refine rr_iinc (ls' := [some (am_r p0), some (am_r 3), some (am_r 75), some (am_i (am_w (x3 + 8)))]) dL_law_1265 rfl (Nat.le_of_ble_eq_true rfl) rfl ?_
        refine rr_goto (t := 18) dL_law_1268 (by decide) ?_
        exact hk18 _ _ h
      · refine rr_icmp_eq_n (t := 1265) dL_law_623 (by decide) c154 ?_
        refine rr_iconst dL_law_626 (by decide) ?_
        obtain ⟨rfl, rfl⟩ := ab_r2 h
        exact rq_zret hkc hks dL_law_627 rfl (Or.inl rfl) hQ
    rcases ab_i h with ⟨c155, h⟩ | ⟨c155, h⟩
    · refine rr_tsw_in (off := 595) (t := 628) dL_law_33 (by omega) (by rw [c155]; rfl) (by decide) ?_
      refine rr_aload_n dL_law_628 rfl ?_
      refine rr_aload_n dL_law_629 rfl ?_
      refine rr_iload_n dL_law_630 rfl ?_
      refine rr_iconst dL_law_631 (by decide) ?_
      refine rr_iadd dL_law_632 ?_
      obtain ⟨g156, h⟩ := ab_g h
      refine rq_iald (nz := (p0_n : Int)) dL_law_633 hs_p0 rfl g156 ?_
      refine rr_aload_n dL_law_634 rfl ?_
      refine rr_iload_n dL_law_635 rfl ?_
      refine rr_iconst dL_law_636 (by decide) ?_
      refine rr_iadd dL_law_637 ?_
      obtain ⟨g157, h⟩ := ab_g h
      refine rq_iald (nz := (p0_n : Int)) dL_law_638 hs_p0 rfl g157 ?_
      obtain ⟨r159, σ160, e158, h⟩ := ab_2 h
      refine rq_Vi hkc hks (as := [am_i (σ p0 (am_w (x3 + 1))), am_i (σ p0 (am_w (x3 + 2)))]) (rest := []) dL_law_639 ml_8_82 (sh_3 L) ⟨(by decide), by decide, by decide⟩ rfl rfl rfl (Nat.le_of_ble_eq_true rfl) ⟨rfl, rfl⟩ (Nat.le_of_ble_eq_true rfl) (fun _ k => t_X6_cheapest (by omega) e158 k) ?_
      refine rr_aload_n dL_law_642 rfl ?_
      refine rr_aload_n dL_law_643 rfl ?_
      refine rr_iload_n dL_law_644 rfl ?_
      refine rr_iconst dL_law_645 (by decide) ?_
      refine rr_iadd dL_law_646 ?_
      refine rq_iald (nz := (p0_n : Int)) dL_law_647 hs_p0 rfl g156 ?_
      refine rr_aload_n dL_law_648 rfl ?_
      refine rr_iload_n dL_law_649 rfl ?_
      refine rr_iconst dL_law_650 (by decide) ?_
      refine rr_iadd dL_law_651 ?_
      refine rq_iald (nz := (p0_n : Int)) dL_law_652 hs_p0 rfl g157 ?_
      obtain ⟨r162, σ163, e161, h⟩ := ab_2 h
      refine rq_Vi hkc hks (as := [am_i (σ160 p0 (am_w (x3 + 1))), am_i (σ160 p0 (am_w (x3 + 2)))]) (rest := [am_i r159]) dL_law_653 ml_8_85 (sh_75 L) ⟨(by decide), by decide, by decide⟩ rfl rfl rfl (Nat.le_of_ble_eq_true rfl) ⟨rfl, rfl⟩ (Nat.le_of_ble_eq_true rfl) (fun _ k => t_X7_cheapest (by omega) e161 k) ?_
      rcases ab_i h with ⟨c164, h⟩ | ⟨c164, h⟩
      · refine rr_icmp_eq_p (t := 1265) dL_law_656 (by decide) c164 ?_
        refine rr_iinc (ls' := [some (am_r p0), some (am_r 3), some (am_r 75), some (am_i (am_w (x3 + 8)))]) dL_law_1265 rfl (Nat.le_of_ble_eq_true rfl) rfl ?_
        refine rr_goto (t := 18) dL_law_1268 (by decide) ?_
        exact hk18 _ _ h
      · refine rr_icmp_eq_n (t := 1265) dL_law_656 (by decide) c164 ?_
        refine rr_iconst dL_law_659 (by decide) ?_
        obtain ⟨rfl, rfl⟩ := ab_r2 h
        exact rq_zret hkc hks dL_law_660 rfl (Or.inl rfl) hQ
    rcases ab_i h with ⟨c165, h⟩ | ⟨c165, h⟩
    · refine rr_tsw_in (off := 628) (t := 661) dL_law_33 (by omega) (by rw [c165]; rfl) (by decide) ?_
      refine rr_aload_n dL_law_661 rfl ?_
      refine rr_aload_n dL_law_662 rfl ?_
      refine rr_iload_n dL_law_663 rfl ?_
      refine rr_iconst dL_law_664 (by decide) ?_
      refine rr_iadd dL_law_665 ?_
      obtain ⟨g166, h⟩ := ab_g h
      refine rq_iald (nz := (p0_n : Int)) dL_law_666 hs_p0 rfl g166 ?_
      refine rr_aload_n dL_law_667 rfl ?_
      refine rr_iload_n dL_law_668 rfl ?_
      refine rr_iconst dL_law_669 (by decide) ?_
      refine rr_iadd dL_law_670 ?_
      obtain ⟨g167, h⟩ := ab_g h
      refine rq_iald (nz := (p0_n : Int)) dL_law_671 hs_p0 rfl g167 ?_
      obtain ⟨r169, σ170, e168, h⟩ := ab_2 h
      refine rq_Vi hkc hks (as := [am_i (σ p0 (am_w (x3 + 1))), am_i (σ p0 (am_w (x3 + 2)))]) (rest := []) dL_law_672 ml_8_86 (sh_3 L) ⟨(by decide), by decide, by decide⟩ rfl rfl rfl (Nat.le_of_ble_eq_true rfl) ⟨rfl, rfl⟩ (Nat.le_of_ble_eq_true rfl) (fun _ k => t_X6_dearest (by omega) e168 k) ?_
      refine rr_aload_n dL_law_675 rfl ?_
      refine rr_aload_n dL_law_676 rfl ?_
      refine rr_iload_n dL_law_677 rfl ?_
      refine rr_iconst dL_law_678 (by decide) ?_
      refine rr_iadd dL_law_679 ?_
      refine rq_iald (nz := (p0_n : Int)) dL_law_680 hs_p0 rfl g166 ?_
      refine rr_aload_n dL_law_681 rfl ?_
      refine rr_iload_n dL_law_682 rfl ?_
      refine rr_iconst dL_law_683 (by decide) ?_
      refine rr_iadd dL_law_684 ?_
      refine rq_iald (nz := (p0_n : Int)) dL_law_685 hs_p0 rfl g167 ?_
      obtain ⟨r172, σ173, e171, h⟩ := ab_2 h
      refine rq_Vi hkc hks (as := [am_i (σ170 p0 (am_w (x3 + 1))), am_i (σ170 p0 (am_w (x3 + 2)))]) (rest := [am_i r169]) dL_law_686 ml_8_89 (sh_75 L) ⟨(by decide), by decide, by decide⟩ rfl rfl rfl (Nat.le_of_ble_eq_true rfl) ⟨rfl, rfl⟩ (Nat.le_of_ble_eq_true rfl) (fun _ k => t_X7_dearest (by omega) e171 k) ?_
      rcases ab_i h with ⟨c174, h⟩ | ⟨c174, h⟩
      · refine rr_icmp_eq_p (t := 1265) dL_law_689 (by decide) c174 ?_
        refine rr_iinc (ls' := [some (am_r p0), some (am_r 3), some (am_r 75), some (am_i (am_w (x3 + 8)))]) dL_law_1265 rfl (Nat.le_of_ble_eq_true rfl) rfl ?_
        refine rr_goto (t := 18) dL_law_1268 (by decide) ?_
        exact hk18 _ _ h
      · refine rr_icmp_eq_n (t := 1265) dL_law_689 (by decide) c174 ?_
        refine rr_iconst dL_law_692 (by decide) ?_
        obtain ⟨rfl, rfl⟩ := ab_r2 h
        exact rq_zret hkc hks dL_law_693 rfl (Or.inl rfl) hQ
    rcases ab_i h with ⟨c175, h⟩ | ⟨c175, h⟩
    · refine rr_tsw_in (off := 661) (t := 694) dL_law_33 (by omega) (by rw [c175]; rfl) (by decide) ?_
      refine rr_aload_n dL_law_694 rfl ?_
      refine rr_aload_n dL_law_695 rfl ?_
      refine rr_iload_n dL_law_696 rfl ?_
      refine rr_iconst dL_law_697 (by decide) ?_
      refine rr_iadd dL_law_698 ?_
      obtain ⟨g176, h⟩ := ab_g h
      refine rq_iald (nz := (p0_n : Int)) dL_law_699 hs_p0 rfl g176 ?_
      refine rr_aload_n dL_law_700 rfl ?_
      refine rr_iload_n dL_law_701 rfl ?_
      refine rr_iconst dL_law_702 (by decide) ?_
      refine rr_iadd dL_law_703 ?_
      obtain ⟨g177, h⟩ := ab_g h
      refine rq_iald (nz := (p0_n : Int)) dL_law_704 hs_p0 rfl g177 ?_
      obtain ⟨r179, σ180, e178, h⟩ := ab_2 h
      refine rq_Vi hkc hks (as := [am_i (σ p0 (am_w (x3 + 1))), am_i (σ p0 (am_w (x3 + 2)))]) (rest := []) dL_law_705 ml_8_90 (sh_3 L) ⟨(by decide), by decide, by decide⟩ rfl rfl rfl (Nat.le_of_ble_eq_true rfl) ⟨rfl, rfl⟩ (Nat.le_of_ble_eq_true rfl) (fun _ k => t_X6_moods (by omega) e178 k) ?_
      refine rr_aload_n dL_law_708 rfl ?_
      refine rr_aload_n dL_law_709 rfl ?_
      refine rr_iload_n dL_law_710 rfl ?_
      refine rr_iconst dL_law_711 (by decide) ?_
      refine rr_iadd dL_law_712 ?_
      refine rq_iald (nz := (p0_n : Int)) dL_law_713 hs_p0 rfl g176 ?_
      refine rr_aload_n dL_law_714 rfl ?_
      refine rr_iload_n dL_law_715 rfl ?_
      refine rr_iconst dL_law_716 (by decide) ?_
      refine rr_iadd dL_law_717 ?_
      refine rq_iald (nz := (p0_n : Int)) dL_law_718 hs_p0 rfl g177 ?_
      obtain ⟨r182, σ183, e181, h⟩ := ab_2 h
      refine rq_Vi hkc hks (as := [am_i (σ180 p0 (am_w (x3 + 1))), am_i (σ180 p0 (am_w (x3 + 2)))]) (rest := [am_i r179]) dL_law_719 ml_8_93 (sh_75 L) ⟨(by decide), by decide, by decide⟩ rfl rfl rfl (Nat.le_of_ble_eq_true rfl) ⟨rfl, rfl⟩ (Nat.le_of_ble_eq_true rfl) (fun _ k => t_X7_moods (by omega) e181 k) ?_
      rcases ab_i h with ⟨c184, h⟩ | ⟨c184, h⟩
      · refine rr_icmp_eq_p (t := 1265) dL_law_722 (by decide) c184 ?_
        refine rr_iinc (ls' := [some (am_r p0), some (am_r 3), some (am_r 75), some (am_i (am_w (x3 + 8)))]) dL_law_1265 rfl (Nat.le_of_ble_eq_true rfl) rfl ?_
        refine rr_goto (t := 18) dL_law_1268 (by decide) ?_
        exact hk18 _ _ h
      · refine rr_icmp_eq_n (t := 1265) dL_law_722 (by decide) c184 ?_
        refine rr_iconst dL_law_725 (by decide) ?_
        obtain ⟨rfl, rfl⟩ := ab_r2 h
        exact rq_zret hkc hks dL_law_726 rfl (Or.inl rfl) hQ
    rcases ab_i h with ⟨c185, h⟩ | ⟨c185, h⟩
    · refine rr_tsw_in (off := 694) (t := 727) dL_law_33 (by omega) (by rw [c185]; rfl) (by decide) ?_
      refine rr_aload_n dL_law_727 rfl ?_
      refine rr_aload_n dL_law_728 rfl ?_
      refine rr_iload_n dL_law_729 rfl ?_
      refine rr_iconst dL_law_730 (by decide) ?_
      refine rr_iadd dL_law_731 ?_
      obtain ⟨g186, h⟩ := ab_g h
      refine rq_iald (nz := (p0_n : Int)) dL_law_732 hs_p0 rfl g186 ?_
      refine rr_aload_n dL_law_733 rfl ?_
      refine rr_iload_n dL_law_734 rfl ?_
      refine rr_iconst dL_law_735 (by decide) ?_
      refine rr_iadd dL_law_736 ?_
      obtain ⟨g187, h⟩ := ab_g h
      refine rq_iald (nz := (p0_n : Int)) dL_law_737 hs_p0 rfl g187 ?_
      obtain ⟨r189, σ190, e188, h⟩ := ab_2 h
      refine rq_Vi hkc hks (as := [am_i (σ p0 (am_w (x3 + 1))), am_i (σ p0 (am_w (x3 + 2)))]) (rest := []) dL_law_738 ml_8_94 (sh_3 L) ⟨(by decide), by decide, by decide⟩ rfl rfl rfl (Nat.le_of_ble_eq_true rfl) ⟨rfl, rfl⟩ (Nat.le_of_ble_eq_true rfl) (fun _ k => t_X6_gets (by omega) e188 k) ?_
      refine rr_aload_n dL_law_741 rfl ?_
      refine rr_aload_n dL_law_742 rfl ?_
      refine rr_iload_n dL_law_743 rfl ?_
      refine rr_iconst dL_law_744 (by decide) ?_
      refine rr_iadd dL_law_745 ?_
      refine rq_iald (nz := (p0_n : Int)) dL_law_746 hs_p0 rfl g186 ?_
      refine rr_aload_n dL_law_747 rfl ?_
      refine rr_iload_n dL_law_748 rfl ?_
      refine rr_iconst dL_law_749 (by decide) ?_
      refine rr_iadd dL_law_750 ?_
      refine rq_iald (nz := (p0_n : Int)) dL_law_751 hs_p0 rfl g187 ?_
      obtain ⟨r192, σ193, e191, h⟩ := ab_2 h
      refine rq_Vi hkc hks (as := [am_i (σ190 p0 (am_w (x3 + 1))), am_i (σ190 p0 (am_w (x3 + 2)))]) (rest := [am_i r189]) dL_law_752 ml_8_97 (sh_75 L) ⟨(by decide), by decide, by decide⟩ rfl rfl rfl (Nat.le_of_ble_eq_true rfl) ⟨rfl, rfl⟩ (Nat.le_of_ble_eq_true rfl) (fun _ k => t_X7_gets (by omega) e191 k) ?_
      rcases ab_i h with ⟨c194, h⟩ | ⟨c194, h⟩
      · refine rr_icmp_eq_p (t := 1265) dL_law_755 (by decide) c194 ?_
        refine rr_iinc (ls' := [some (am_r p0), some (am_r 3), some (am_r 75), some (am_i (am_w (x3 + 8)))]) dL_law_1265 rfl (Nat.le_of_ble_eq_true rfl) rfl ?_
        refine rr_goto (t := 18) dL_law_1268 (by decide) ?_
        exact hk18 _ _ h
      · refine rr_icmp_eq_n (t := 1265) dL_law_755 (by decide) c194 ?_
        refine rr_iconst dL_law_758 (by decide) ?_
        obtain ⟨rfl, rfl⟩ := ab_r2 h
        exact rq_zret hkc hks dL_law_759 rfl (Or.inl rfl) hQ
    rcases ab_i h with ⟨c195, h⟩ | ⟨c195, h⟩
    · refine rr_tsw_in (off := 727) (t := 760) dL_law_33 (by omega) (by rw [c195]; rfl) (by decide) ?_
      refine rr_aload_n dL_law_760 rfl ?_
      refine rr_aload_n dL_law_761 rfl ?_
      refine rr_iload_n dL_law_762 rfl ?_
      refine rr_iconst dL_law_763 (by decide) ?_
      refine rr_iadd dL_law_764 ?_
      obtain ⟨g196, h⟩ := ab_g h
      refine rq_iald (nz := (p0_n : Int)) dL_law_765 hs_p0 rfl g196 ?_
      refine rr_aload_n dL_law_766 rfl ?_
      refine rr_iload_n dL_law_767 rfl ?_
      refine rr_iconst dL_law_768 (by decide) ?_
      refine rr_iadd dL_law_769 ?_
      obtain ⟨g197, h⟩ := ab_g h
      refine rq_iald (nz := (p0_n : Int)) dL_law_770 hs_p0 rfl g197 ?_
      refine rr_aload_n dL_law_771 rfl ?_
      refine rr_iload_n dL_law_772 rfl ?_
      refine rr_iconst dL_law_773 (by decide) ?_
      refine rr_iadd dL_law_774 ?_
      obtain ⟨g198, h⟩ := ab_g h
      refine rq_iald (nz := (p0_n : Int)) dL_law_775 hs_p0 rfl g198 ?_
      refine rr_aload_n dL_law_776 rfl ?_
      refine rr_iload_n dL_law_777 rfl ?_
      refine rr_iconst dL_law_778 (by decide) ?_
      refine rr_iadd dL_law_779 ?_
      obtain ⟨g199, h⟩ := ab_g h
      refine rq_iald (nz := (p0_n : Int)) dL_law_780 hs_p0 rfl g199 ?_
      refine rr_aload_n dL_law_781 rfl ?_
      refine rr_iload_n dL_law_782 rfl ?_
      refine rr_iconst dL_law_783 (by decide) ?_
      refine rr_iadd dL_law_784 ?_
      obtain ⟨g200, h⟩ := ab_g h
      refine rq_iald (nz := (p0_n : Int)) dL_law_785 hs_p0 rfl g200 ?_
      refine rr_aload_n dL_law_786 rfl ?_
      refine rr_iload_n dL_law_787 rfl ?_
      refine rr_bipush dL_law_788 (by decide) ?_
      refine rr_iadd dL_law_790 ?_
      obtain ⟨g201, h⟩ := ab_g h
      refine rq_iald (nz := (p0_n : Int)) dL_law_791 hs_p0 rfl g201 ?_
      obtain ⟨r203, σ204, e202, h⟩ := ab_2 h
      refine rq_Vi hkc hks (as := [am_i (σ p0 (am_w (x3 + 1))), am_i (σ p0 (am_w (x3 + 2))), am_i (σ p0 (am_w (x3 + 3))), am_i (σ p0 (am_w (x3 + 4))), am_i (σ p0 (am_w (x3 + 5))), am_i (σ p0 (am_w (x3 + 6)))]) (rest := []) dL_law_792 ml_8_98 (sh_3 L) ⟨(by decide), by decide, by decide⟩ rfl rfl rfl (Nat.le_of_ble_eq_true rfl) ⟨rfl, rfl⟩ (Nat.le_of_ble_eq_true rfl) (fun _ k => t_X6_fits (by omega) e202 k) ?_
      refine rr_aload_n dL_law_795 rfl ?_
      refine rr_aload_n dL_law_796 rfl ?_
      refine rr_iload_n dL_law_797 rfl ?_
      refine rr_iconst dL_law_798 (by decide) ?_
      refine rr_iadd dL_law_799 ?_
      refine rq_iald (nz := (p0_n : Int)) dL_law_800 hs_p0 rfl g196 ?_
      refine rr_aload_n dL_law_801 rfl ?_
      refine rr_iload_n dL_law_802 rfl ?_
      refine rr_iconst dL_law_803 (by decide) ?_
      refine rr_iadd dL_law_804 ?_
      refine rq_iald (nz := (p0_n : Int)) dL_law_805 hs_p0 rfl g197 ?_
      refine rr_aload_n dL_law_806 rfl ?_
      refine rr_iload_n dL_law_807 rfl ?_
      refine rr_iconst dL_law_808 (by decide) ?_
      refine rr_iadd dL_law_809 ?_
      refine rq_iald (nz := (p0_n : Int)) dL_law_810 hs_p0 rfl g198 ?_
      refine rr_aload_n dL_law_811 rfl ?_
      refine rr_iload_n dL_law_812 rfl ?_
      refine rr_iconst dL_law_813 (by decide) ?_
      refine rr_iadd dL_law_814 ?_
      refine rq_iald (nz := (p0_n : Int)) dL_law_815 hs_p0 rfl g199 ?_
      refine rr_aload_n dL_law_816 rfl ?_
      refine rr_iload_n dL_law_817 rfl ?_
      refine rr_iconst dL_law_818 (by decide) ?_
      refine rr_iadd dL_law_819 ?_
      refine rq_iald (nz := (p0_n : Int)) dL_law_820 hs_p0 rfl g200 ?_
      refine rr_aload_n dL_law_821 rfl ?_
      refine rr_iload_n dL_law_822 rfl ?_
      refine rr_bipush dL_law_823 (by decide) ?_
      refine rr_iadd dL_law_825 ?_
      refine rq_iald (nz := (p0_n : Int)) dL_law_826 hs_p0 rfl g201 ?_
      obtain ⟨r206, σ207, e205, h⟩ := ab_2 h
      refine rq_Vi hkc hks (as := [am_i (σ204 p0 (am_w (x3 + 1))), am_i (σ204 p0 (am_w (x3 + 2))), am_i (σ204 p0 (am_w (x3 + 3))), am_i (σ204 p0 (am_w (x3 + 4))), am_i (σ204 p0 (am_w (x3 + 5))), am_i (σ204 p0 (am_w (x3 + 6)))]) (rest := [am_i r203]) dL_law_827 ml_8_102 (sh_75 L) ⟨(by decide), by decide, by decide⟩ rfl rfl rfl (Nat.le_of_ble_eq_true rfl) ⟨rfl, rfl⟩ (Nat.le_of_ble_eq_true rfl) (fun _ k => t_X7_fits (by omega) e205 k) ?_
      rcases ab_i h with ⟨c208, h⟩ | ⟨c208, h⟩
      · refine rr_icmp_eq_p (t := 1265) dL_law_830 (by decide) c208 ?_
        refine rr_iinc (ls' := [some (am_r p0), some (am_r 3), some (am_r 75), some (am_i (am_w (x3 + 8)))]) dL_law_1265 rfl (Nat.le_of_ble_eq_true rfl) rfl ?_
        refine rr_goto (t := 18) dL_law_1268 (by decide) ?_
        exact hk18 _ _ h
      · refine rr_icmp_eq_n (t := 1265) dL_law_830 (by decide) c208 ?_
        refine rr_iconst dL_law_833 (by decide) ?_
        obtain ⟨rfl, rfl⟩ := ab_r2 h
        exact rq_zret hkc hks dL_law_834 rfl (Or.inl rfl) hQ
    rcases ab_i h with ⟨c209, h⟩ | ⟨c209, h⟩
    · refine rr_tsw_in (off := 802) (t := 835) dL_law_33 (by omega) (by rw [c209]; rfl) (by decide) ?_
      refine rr_aload_n dL_law_835 rfl ?_
      refine rr_aload_n dL_law_836 rfl ?_
      refine rr_iload_n dL_law_837 rfl ?_
      refine rr_iconst dL_law_838 (by decide) ?_
      refine rr_iadd dL_law_839 ?_
      obtain ⟨g210, h⟩ := ab_g h
      refine rq_iald (nz := (p0_n : Int)) dL_law_840 hs_p0 rfl g210 ?_
      refine rr_aload_n dL_law_841 rfl ?_
      refine rr_iload_n dL_law_842 rfl ?_
      refine rr_iconst dL_law_843 (by decide) ?_
      refine rr_iadd dL_law_844 ?_
      obtain ⟨g211, h⟩ := ab_g h
      refine rq_iald (nz := (p0_n : Int)) dL_law_845 hs_p0 rfl g211 ?_
      refine rr_aload_n dL_law_846 rfl ?_
      refine rr_iload_n dL_law_847 rfl ?_
      refine rr_iconst dL_law_848 (by decide) ?_
      refine rr_iadd dL_law_849 ?_
      obtain ⟨g212, h⟩ := ab_g h
      refine rq_iald (nz := (p0_n : Int)) dL_law_850 hs_p0 rfl g212 ?_
      refine rr_aload_n dL_law_851 rfl ?_
      refine rr_iload_n dL_law_852 rfl ?_
      refine rr_iconst dL_law_853 (by decide) ?_
      refine rr_iadd dL_law_854 ?_
      obtain ⟨g213, h⟩ := ab_g h
      refine rq_iald (nz := (p0_n : Int)) dL_law_855 hs_p0 rfl g213 ?_
      refine rr_aload_n dL_law_856 rfl ?_
      refine rr_iload_n dL_law_857 rfl ?_
      refine rr_iconst dL_law_858 (by decide) ?_
      refine rr_iadd dL_law_859 ?_
      obtain ⟨g214, h⟩ := ab_g h
      refine rq_iald (nz := (p0_n : Int)) dL_law_860 hs_p0 rfl g214 ?_
      refine rr_aload_n dL_law_861 rfl ?_
      refine rr_iload_n dL_law_862 rfl ?_
      refine rr_bipush dL_law_863 (by decide) ?_
      refine rr_iadd dL_law_865 ?_
      obtain ⟨g215, h⟩ := ab_g h
      refine rq_iald (nz := (p0_n : Int)) dL_law_866 hs_p0 rfl g215 ?_
      refine rr_aload_n dL_law_867 rfl ?_
      refine rr_iload_n dL_law_868 rfl ?_
      refine rr_bipush dL_law_869 (by decide) ?_
      refine rr_iadd dL_law_871 ?_
      obtain ⟨g216, h⟩ := ab_g h
      refine rq_iald (nz := (p0_n : Int)) dL_law_872 hs_p0 rfl g216 ?_
      obtain ⟨r218, σ219, e217, h⟩ := ab_2 h
      refine rq_Vi hkc hks (as := [am_i (σ p0 (am_w (x3 + 1))), am_i (σ p0 (am_w (x3 + 2))), am_i (σ p0 (am_w (x3 + 3))), am_i (σ p0 (am_w (x3 + 4))), am_i (σ p0 (am_w (x3 + 5))), am_i (σ p0 (am_w (x3 + 6))), am_i (σ p0 (am_w (x3 + 7)))]) (rest := []) dL_law_873 ml_8_103 (sh_3 L) ⟨(by decide), by decide, by decide⟩ rfl rfl rfl (Nat.le_of_ble_eq_true rfl) ⟨rfl, rfl⟩ (Nat.le_of_ble_eq_true rfl) (fun _ k => t_X6_fitsOf (by omega) e217 k) ?_
      refine rr_aload_n dL_law_876 rfl ?_
      refine rr_aload_n dL_law_877 rfl ?_
      refine rr_iload_n dL_law_878 rfl ?_
      refine rr_iconst dL_law_879 (by decide) ?_
      refine rr_iadd dL_law_880 ?_
      refine rq_iald (nz := (p0_n : Int)) dL_law_881 hs_p0 rfl g210 ?_
      refine rr_aload_n dL_law_882 rfl ?_
      refine rr_iload_n dL_law_883 rfl ?_
      refine rr_iconst dL_law_884 (by decide) ?_
      refine rr_iadd dL_law_885 ?_
      refine rq_iald (nz := (p0_n : Int)) dL_law_886 hs_p0 rfl g211 ?_
      refine rr_aload_n dL_law_887 rfl ?_
      refine rr_iload_n dL_law_888 rfl ?_
      refine rr_iconst dL_law_889 (by decide) ?_
      refine rr_iadd dL_law_890 ?_
      refine rq_iald (nz := (p0_n : Int)) dL_law_891 hs_p0 rfl g212 ?_
      refine rr_aload_n dL_law_892 rfl ?_
      refine rr_iload_n dL_law_893 rfl ?_
      refine rr_iconst dL_law_894 (by decide) ?_
      refine rr_iadd dL_law_895 ?_
      refine rq_iald (nz := (p0_n : Int)) dL_law_896 hs_p0 rfl g213 ?_
      refine rr_aload_n dL_law_897 rfl ?_
      refine rr_iload_n dL_law_898 rfl ?_
      refine rr_iconst dL_law_899 (by decide) ?_
      refine rr_iadd dL_law_900 ?_
      refine rq_iald (nz := (p0_n : Int)) dL_law_901 hs_p0 rfl g214 ?_
      refine rr_aload_n dL_law_902 rfl ?_
      refine rr_iload_n dL_law_903 rfl ?_
      refine rr_bipush dL_law_904 (by decide) ?_
      refine rr_iadd dL_law_906 ?_
      refine rq_iald (nz := (p0_n : Int)) dL_law_907 hs_p0 rfl g215 ?_
      refine rr_aload_n dL_law_908 rfl ?_
      refine rr_iload_n dL_law_909 rfl ?_
      refine rr_bipush dL_law_910 (by decide) ?_
      refine rr_iadd dL_law_912 ?_
      refine rq_iald (nz := (p0_n : Int)) dL_law_913 hs_p0 rfl g216 ?_
      obtain ⟨r221, σ222, e220, h⟩ := ab_2 h
      refine rq_Vi hkc hks (as := [am_i (σ219 p0 (am_w (x3 + 1))), am_i (σ219 p0 (am_w (x3 + 2))), am_i (σ219 p0 (am_w (x3 + 3))), am_i (σ219 p0 (am_w (x3 + 4))), am_i (σ219 p0 (am_w (x3 + 5))), am_i (σ219 p0 (am_w (x3 + 6))), am_i (σ219 p0 (am_w (x3 + 7)))]) (rest := [am_i r218]) dL_law_914 ml_8_107 (sh_75 L) ⟨(by decide), by decide, by decide⟩ rfl rfl rfl (Nat.le_of_ble_eq_true rfl) ⟨rfl, rfl⟩ (Nat.le_of_ble_eq_true rfl) (fun _ k => t_X7_fitsOf (by omega) e220 k) ?_
      rcases ab_i h with ⟨c223, h⟩ | ⟨c223, h⟩
      · refine rr_icmp_eq_p (t := 1265) dL_law_917 (by decide) c223 ?_
        refine rr_iinc (ls' := [some (am_r p0), some (am_r 3), some (am_r 75), some (am_i (am_w (x3 + 8)))]) dL_law_1265 rfl (Nat.le_of_ble_eq_true rfl) rfl ?_
        refine rr_goto (t := 18) dL_law_1268 (by decide) ?_
        exact hk18 _ _ h
      · refine rr_icmp_eq_n (t := 1265) dL_law_917 (by decide) c223 ?_
        refine rr_iconst dL_law_920 (by decide) ?_
        obtain ⟨rfl, rfl⟩ := ab_r2 h
        exact rq_zret hkc hks dL_law_921 rfl (Or.inl rfl) hQ
    rcases ab_i h with ⟨c224, h⟩ | ⟨c224, h⟩
    · refine rr_tsw_in (off := 889) (t := 922) dL_law_33 (by omega) (by rw [c224]; rfl) (by decide) ?_
      refine rr_aload_n dL_law_922 rfl ?_
      refine rr_aload_n dL_law_923 rfl ?_
      refine rr_iload_n dL_law_924 rfl ?_
      refine rr_iconst dL_law_925 (by decide) ?_
      refine rr_iadd dL_law_926 ?_
      obtain ⟨g225, h⟩ := ab_g h
      refine rq_iald (nz := (p0_n : Int)) dL_law_927 hs_p0 rfl g225 ?_
      refine rr_aload_n dL_law_928 rfl ?_
      refine rr_iload_n dL_law_929 rfl ?_
      refine rr_iconst dL_law_930 (by decide) ?_
      refine rr_iadd dL_law_931 ?_
      obtain ⟨g226, h⟩ := ab_g h
      refine rq_iald (nz := (p0_n : Int)) dL_law_932 hs_p0 rfl g226 ?_
      refine rr_aload_n dL_law_933 rfl ?_
      refine rr_iload_n dL_law_934 rfl ?_
      refine rr_iconst dL_law_935 (by decide) ?_
      refine rr_iadd dL_law_936 ?_
      obtain ⟨g227, h⟩ := ab_g h
      refine rq_iald (nz := (p0_n : Int)) dL_law_937 hs_p0 rfl g227 ?_
      refine rr_aload_n dL_law_938 rfl ?_
      refine rr_iload_n dL_law_939 rfl ?_
      refine rr_iconst dL_law_940 (by decide) ?_
      refine rr_iadd dL_law_941 ?_
      obtain ⟨g228, h⟩ := ab_g h
      refine rq_iald (nz := (p0_n : Int)) dL_law_942 hs_p0 rfl g228 ?_
      obtain ⟨r230, σ231, e229, h⟩ := ab_2 h
      refine rq_Vi hkc hks (as := [am_i (σ p0 (am_w (x3 + 1))), am_i (σ p0 (am_w (x3 + 2))), am_i (σ p0 (am_w (x3 + 3))), am_i (σ p0 (am_w (x3 + 4)))]) (rest := []) dL_law_943 ml_8_108 (sh_3 L) ⟨(by decide), by decide, by decide⟩ rfl rfl rfl (Nat.le_of_ble_eq_true rfl) ⟨rfl, rfl⟩ (Nat.le_of_ble_eq_true rfl) (fun _ k => t_X6_share (by omega) e229 k) ?_
      refine rr_aload_n dL_law_946 rfl ?_
      refine rr_aload_n dL_law_947 rfl ?_
      refine rr_iload_n dL_law_948 rfl ?_
      refine rr_iconst dL_law_949 (by decide) ?_
      refine rr_iadd dL_law_950 ?_
      refine rq_iald (nz := (p0_n : Int)) dL_law_951 hs_p0 rfl g225 ?_
      refine rr_aload_n dL_law_952 rfl ?_
      refine rr_iload_n dL_law_953 rfl ?_
      refine rr_iconst dL_law_954 (by decide) ?_
      refine rr_iadd dL_law_955 ?_
      refine rq_iald (nz := (p0_n : Int)) dL_law_956 hs_p0 rfl g226 ?_
      refine rr_aload_n dL_law_957 rfl ?_
      refine rr_iload_n dL_law_958 rfl ?_
      refine rr_iconst dL_law_959 (by decide) ?_
      refine rr_iadd dL_law_960 ?_
      refine rq_iald (nz := (p0_n : Int)) dL_law_961 hs_p0 rfl g227 ?_
      refine rr_aload_n dL_law_962 rfl ?_
      refine rr_iload_n dL_law_963 rfl ?_
      refine rr_iconst dL_law_964 (by decide) ?_
      refine rr_iadd dL_law_965 ?_
      refine rq_iald (nz := (p0_n : Int)) dL_law_966 hs_p0 rfl g228 ?_
      obtain ⟨r233, σ234, e232, h⟩ := ab_2 h
      refine rq_Vi hkc hks (as := [am_i (σ231 p0 (am_w (x3 + 1))), am_i (σ231 p0 (am_w (x3 + 2))), am_i (σ231 p0 (am_w (x3 + 3))), am_i (σ231 p0 (am_w (x3 + 4)))]) (rest := [am_i r230]) dL_law_967 ml_8_112 (sh_75 L) ⟨(by decide), by decide, by decide⟩ rfl rfl rfl (Nat.le_of_ble_eq_true rfl) ⟨rfl, rfl⟩ (Nat.le_of_ble_eq_true rfl) (fun _ k => t_X7_share (by omega) e232 k) ?_
      rcases ab_i h with ⟨c235, h⟩ | ⟨c235, h⟩
      · refine rr_icmp_eq_p (t := 1265) dL_law_970 (by decide) c235 ?_
        refine rr_iinc (ls' := [some (am_r p0), some (am_r 3), some (am_r 75), some (am_i (am_w (x3 + 8)))]) dL_law_1265 rfl (Nat.le_of_ble_eq_true rfl) rfl ?_
        refine rr_goto (t := 18) dL_law_1268 (by decide) ?_
        exact hk18 _ _ h
      · refine rr_icmp_eq_n (t := 1265) dL_law_970 (by decide) c235 ?_
        refine rr_iconst dL_law_973 (by decide) ?_
        obtain ⟨rfl, rfl⟩ := ab_r2 h
        exact rq_zret hkc hks dL_law_974 rfl (Or.inl rfl) hQ
    rcases ab_i h with ⟨c236, h⟩ | ⟨c236, h⟩
    · refine rr_tsw_in (off := 942) (t := 975) dL_law_33 (by omega) (by rw [c236]; rfl) (by decide) ?_
      refine rr_aload_n dL_law_975 rfl ?_
      refine rr_aload_n dL_law_976 rfl ?_
      refine rr_iload_n dL_law_977 rfl ?_
      refine rr_iconst dL_law_978 (by decide) ?_
      refine rr_iadd dL_law_979 ?_
      obtain ⟨g237, h⟩ := ab_g h
      refine rq_iald (nz := (p0_n : Int)) dL_law_980 hs_p0 rfl g237 ?_
      refine rr_aload_n dL_law_981 rfl ?_
      refine rr_iload_n dL_law_982 rfl ?_
      refine rr_iconst dL_law_983 (by decide) ?_
      refine rr_iadd dL_law_984 ?_
      obtain ⟨g238, h⟩ := ab_g h
      refine rq_iald (nz := (p0_n : Int)) dL_law_985 hs_p0 rfl g238 ?_
      refine rr_aload_n dL_law_986 rfl ?_
      refine rr_iload_n dL_law_987 rfl ?_
      refine rr_iconst dL_law_988 (by decide) ?_
      refine rr_iadd dL_law_989 ?_
      obtain ⟨g239, h⟩ := ab_g h
      refine rq_iald (nz := (p0_n : Int)) dL_law_990 hs_p0 rfl g239 ?_
      refine rr_aload_n dL_law_991 rfl ?_
      refine rr_iload_n dL_law_992 rfl ?_
      refine rr_iconst dL_law_993 (by decide) ?_
      refine rr_iadd dL_law_994 ?_
      obtain ⟨g240, h⟩ := ab_g h
      refine rq_iald (nz := (p0_n : Int)) dL_law_995 hs_p0 rfl g240 ?_
      obtain ⟨r242, σ243, e241, h⟩ := ab_2 h
      refine rq_Vi hkc hks (as := [am_i (σ p0 (am_w (x3 + 1))), am_i (σ p0 (am_w (x3 + 2))), am_i (σ p0 (am_w (x3 + 3))), am_i (σ p0 (am_w (x3 + 4)))]) (rest := []) dL_law_996 ml_8_113 (sh_3 L) ⟨(by decide), by decide, by decide⟩ rfl rfl rfl (Nat.le_of_ble_eq_true rfl) ⟨rfl, rfl⟩ (Nat.le_of_ble_eq_true rfl) (fun _ k => t_X6_shut (by omega) e241 k) ?_
      refine rr_aload_n dL_law_999 rfl ?_
      refine rr_aload_n dL_law_1000 rfl ?_
      refine rr_iload_n dL_law_1001 rfl ?_
      refine rr_iconst dL_law_1002 (by decide) ?_
      refine rr_iadd dL_law_1003 ?_
      refine rq_iald (nz := (p0_n : Int)) dL_law_1004 hs_p0 rfl g237 ?_
      refine rr_aload_n dL_law_1005 rfl ?_
      refine rr_iload_n dL_law_1006 rfl ?_
      refine rr_iconst dL_law_1007 (by decide) ?_
      refine rr_iadd dL_law_1008 ?_
      refine rq_iald (nz := (p0_n : Int)) dL_law_1009 hs_p0 rfl g238 ?_
      refine rr_aload_n dL_law_1010 rfl ?_
      refine rr_iload_n dL_law_1011 rfl ?_
      refine rr_iconst dL_law_1012 (by decide) ?_
      refine rr_iadd dL_law_1013 ?_
      refine rq_iald (nz := (p0_n : Int)) dL_law_1014 hs_p0 rfl g239 ?_
      refine rr_aload_n dL_law_1015 rfl ?_
      refine rr_iload_n dL_law_1016 rfl ?_
      refine rr_iconst dL_law_1017 (by decide) ?_
      refine rr_iadd dL_law_1018 ?_
      refine rq_iald (nz := (p0_n : Int)) dL_law_1019 hs_p0 rfl g240 ?_
      obtain ⟨r245, σ246, e244, h⟩ := ab_2 h
      refine rq_Vi hkc hks (as := [am_i (σ243 p0 (am_w (x3 + 1))), am_i (σ243 p0 (am_w (x3 + 2))), am_i (σ243 p0 (am_w (x3 + 3))), am_i (σ243 p0 (am_w (x3 + 4)))]) (rest := [am_i r242]) dL_law_1020 ml_8_116 (sh_75 L) ⟨(by decide), by decide, by decide⟩ rfl rfl rfl (Nat.le_of_ble_eq_true rfl) ⟨rfl, rfl⟩ (Nat.le_of_ble_eq_true rfl) (fun _ k => t_X7_shut (by omega) e244 k) ?_
      rcases ab_i h with ⟨c247, h⟩ | ⟨c247, h⟩
      · refine rr_icmp_eq_p (t := 1265) dL_law_1023 (by decide) c247 ?_
        refine rr_iinc (ls' := [some (am_r p0), some (am_r 3), some (am_r 75), some (am_i (am_w (x3 + 8)))]) dL_law_1265 rfl (Nat.le_of_ble_eq_true rfl) rfl ?_
        refine rr_goto (t := 18) dL_law_1268 (by decide) ?_
        exact hk18 _ _ h
      · refine rr_icmp_eq_n (t := 1265) dL_law_1023 (by decide) c247 ?_
        refine rr_iconst dL_law_1026 (by decide) ?_
        obtain ⟨rfl, rfl⟩ := ab_r2 h
        exact rq_zret hkc hks dL_law_1027 rfl (Or.inl rfl) hQ
    rcases ab_i h with ⟨c248, h⟩ | ⟨c248, h⟩
    · refine rr_tsw_in (off := 995) (t := 1028) dL_law_33 (by omega) (by rw [c248]; rfl) (by decide) ?_
      refine rr_aload_n dL_law_1028 rfl ?_
      refine rr_aload_n dL_law_1029 rfl ?_
      refine rr_iload_n dL_law_1030 rfl ?_
      refine rr_iconst dL_law_1031 (by decide) ?_
      refine rr_iadd dL_law_1032 ?_
      obtain ⟨g249, h⟩ := ab_g h
      refine rq_iald (nz := (p0_n : Int)) dL_law_1033 hs_p0 rfl g249 ?_
      refine rr_aload_n dL_law_1034 rfl ?_
      refine rr_iload_n dL_law_1035 rfl ?_
      refine rr_iconst dL_law_1036 (by decide) ?_
      refine rr_iadd dL_law_1037 ?_
      obtain ⟨g250, h⟩ := ab_g h
      refine rq_iald (nz := (p0_n : Int)) dL_law_1038 hs_p0 rfl g250 ?_
      refine rr_aload_n dL_law_1039 rfl ?_
      refine rr_iload_n dL_law_1040 rfl ?_
      refine rr_iconst dL_law_1041 (by decide) ?_
      refine rr_iadd dL_law_1042 ?_
      obtain ⟨g251, h⟩ := ab_g h
      refine rq_iald (nz := (p0_n : Int)) dL_law_1043 hs_p0 rfl g251 ?_
      obtain ⟨r253, σ254, e252, h⟩ := ab_2 h
      refine rq_Vi hkc hks (as := [am_i (σ p0 (am_w (x3 + 1))), am_i (σ p0 (am_w (x3 + 2))), am_i (σ p0 (am_w (x3 + 3)))]) (rest := []) dL_law_1044 ml_8_117 (sh_3 L) ⟨(by decide), by decide, by decide⟩ rfl rfl rfl (Nat.le_of_ble_eq_true rfl) ⟨rfl, rfl⟩ (Nat.le_of_ble_eq_true rfl) (fun _ k => t_X6_drawn (by omega) e252 k) ?_
      refine rr_aload_n dL_law_1047 rfl ?_
      refine rr_aload_n dL_law_1048 rfl ?_
      refine rr_iload_n dL_law_1049 rfl ?_
      refine rr_iconst dL_law_1050 (by decide) ?_
      refine rr_iadd dL_law_1051 ?_
      refine rq_iald (nz := (p0_n : Int)) dL_law_1052 hs_p0 rfl g249 ?_
      refine rr_aload_n dL_law_1053 rfl ?_
      refine rr_iload_n dL_law_1054 rfl ?_
      refine rr_iconst dL_law_1055 (by decide) ?_
      refine rr_iadd dL_law_1056 ?_
      refine rq_iald (nz := (p0_n : Int)) dL_law_1057 hs_p0 rfl g250 ?_
      refine rr_aload_n dL_law_1058 rfl ?_
      refine rr_iload_n dL_law_1059 rfl ?_
      refine rr_iconst dL_law_1060 (by decide) ?_
      refine rr_iadd dL_law_1061 ?_
      refine rq_iald (nz := (p0_n : Int)) dL_law_1062 hs_p0 rfl g251 ?_
      obtain ⟨r256, σ257, e255, h⟩ := ab_2 h
      refine rq_Vi hkc hks (as := [am_i (σ254 p0 (am_w (x3 + 1))), am_i (σ254 p0 (am_w (x3 + 2))), am_i (σ254 p0 (am_w (x3 + 3)))]) (rest := [am_i r253]) dL_law_1063 ml_8_120 (sh_75 L) ⟨(by decide), by decide, by decide⟩ rfl rfl rfl (Nat.le_of_ble_eq_true rfl) ⟨rfl, rfl⟩ (Nat.le_of_ble_eq_true rfl) (fun _ k => t_X7_drawn (by omega) e255 k) ?_
      rcases ab_i h with ⟨c258, h⟩ | ⟨c258, h⟩
      · refine rr_icmp_eq_p (t := 1265) dL_law_1066 (by decide) c258 ?_
        refine rr_iinc (ls' := [some (am_r p0), some (am_r 3), some (am_r 75), some (am_i (am_w (x3 + 8)))]) dL_law_1265 rfl (Nat.le_of_ble_eq_true rfl) rfl ?_
        refine rr_goto (t := 18) dL_law_1268 (by decide) ?_
        exact hk18 _ _ h
      · refine rr_icmp_eq_n (t := 1265) dL_law_1066 (by decide) c258 ?_
        refine rr_iconst dL_law_1069 (by decide) ?_
        obtain ⟨rfl, rfl⟩ := ab_r2 h
        exact rq_zret hkc hks dL_law_1070 rfl (Or.inl rfl) hQ
    rcases ab_i h with ⟨c259, h⟩ | ⟨c259, h⟩
    · refine rr_tsw_in (off := 1038) (t := 1071) dL_law_33 (by omega) (by rw [c259]; rfl) (by decide) ?_
      refine rr_aload_n dL_law_1071 rfl ?_
      refine rr_aload_n dL_law_1072 rfl ?_
      refine rr_iload_n dL_law_1073 rfl ?_
      refine rr_iconst dL_law_1074 (by decide) ?_
      refine rr_iadd dL_law_1075 ?_
      obtain ⟨g260, h⟩ := ab_g h
      refine rq_iald (nz := (p0_n : Int)) dL_law_1076 hs_p0 rfl g260 ?_
      obtain ⟨r262, σ263, e261, h⟩ := ab_2 h
      refine rq_Vi hkc hks (as := [am_i (σ p0 (am_w (x3 + 1)))]) (rest := []) dL_law_1077 ml_8_121 (sh_3 L) ⟨(by decide), by decide, by decide⟩ rfl rfl rfl (Nat.le_of_ble_eq_true rfl) ⟨rfl, rfl⟩ (Nat.le_of_ble_eq_true rfl) (fun _ k => t_X6_image (by omega) e261 k) ?_
      refine rr_aload_n dL_law_1080 rfl ?_
      refine rr_aload_n dL_law_1081 rfl ?_
      refine rr_iload_n dL_law_1082 rfl ?_
      refine rr_iconst dL_law_1083 (by decide) ?_
      refine rr_iadd dL_law_1084 ?_
      refine rq_iald (nz := (p0_n : Int)) dL_law_1085 hs_p0 rfl g260 ?_
      obtain ⟨r265, σ266, e264, h⟩ := ab_2 h
      refine rq_Vi hkc hks (as := [am_i (σ263 p0 (am_w (x3 + 1)))]) (rest := [am_i r262]) dL_law_1086 ml_8_124 (sh_75 L) ⟨(by decide), by decide, by decide⟩ rfl rfl rfl (Nat.le_of_ble_eq_true rfl) ⟨rfl, rfl⟩ (Nat.le_of_ble_eq_true rfl) (fun _ k => t_X7_image (by omega) e264 k) ?_
      rcases ab_i h with ⟨c267, h⟩ | ⟨c267, h⟩
      · refine rr_icmp_eq_p (t := 1265) dL_law_1089 (by decide) c267 ?_
        refine rr_iinc (ls' := [some (am_r p0), some (am_r 3), some (am_r 75), some (am_i (am_w (x3 + 8)))]) dL_law_1265 rfl (Nat.le_of_ble_eq_true rfl) rfl ?_
        refine rr_goto (t := 18) dL_law_1268 (by decide) ?_
        exact hk18 _ _ h
      · refine rr_icmp_eq_n (t := 1265) dL_law_1089 (by decide) c267 ?_
        refine rr_iconst dL_law_1092 (by decide) ?_
        obtain ⟨rfl, rfl⟩ := ab_r2 h
        exact rq_zret hkc hks dL_law_1093 rfl (Or.inl rfl) hQ
    rcases ab_i h with ⟨c268, h⟩ | ⟨c268, h⟩
    · refine rr_tsw_in (off := 1061) (t := 1094) dL_law_33 (by omega) (by rw [c268]; rfl) (by decide) ?_
      refine rr_aload_n dL_law_1094 rfl ?_
      refine rr_aload_n dL_law_1095 rfl ?_
      refine rr_iload_n dL_law_1096 rfl ?_
      refine rr_iconst dL_law_1097 (by decide) ?_
      refine rr_iadd dL_law_1098 ?_
      obtain ⟨g269, h⟩ := ab_g h
      refine rq_iald (nz := (p0_n : Int)) dL_law_1099 hs_p0 rfl g269 ?_
      obtain ⟨r271, σ272, e270, h⟩ := ab_2 h
      refine rq_Vi hkc hks (as := [am_i (σ p0 (am_w (x3 + 1)))]) (rest := []) dL_law_1100 ml_8_125 (sh_3 L) ⟨(by decide), by decide, by decide⟩ rfl rfl rfl (Nat.le_of_ble_eq_true rfl) ⟨rfl, rfl⟩ (Nat.le_of_ble_eq_true rfl) (fun _ k => t_X6_restore (by omega) e270 k) ?_
      refine rr_aload_n dL_law_1103 rfl ?_
      refine rr_aload_n dL_law_1104 rfl ?_
      refine rr_iload_n dL_law_1105 rfl ?_
      refine rr_iconst dL_law_1106 (by decide) ?_
      refine rr_iadd dL_law_1107 ?_
      refine rq_iald (nz := (p0_n : Int)) dL_law_1108 hs_p0 rfl g269 ?_
      obtain ⟨r274, σ275, e273, h⟩ := ab_2 h
      refine rq_Vi hkc hks (as := [am_i (σ272 p0 (am_w (x3 + 1)))]) (rest := [am_i r271]) dL_law_1109 ml_8_128 (sh_75 L) ⟨(by decide), by decide, by decide⟩ rfl rfl rfl (Nat.le_of_ble_eq_true rfl) ⟨rfl, rfl⟩ (Nat.le_of_ble_eq_true rfl) (fun _ k => t_X7_restore (by omega) e273 k) ?_
      rcases ab_i h with ⟨c276, h⟩ | ⟨c276, h⟩
      · refine rr_icmp_eq_p (t := 1265) dL_law_1112 (by decide) c276 ?_
        refine rr_iinc (ls' := [some (am_r p0), some (am_r 3), some (am_r 75), some (am_i (am_w (x3 + 8)))]) dL_law_1265 rfl (Nat.le_of_ble_eq_true rfl) rfl ?_
        refine rr_goto (t := 18) dL_law_1268 (by decide) ?_
        exact hk18 _ _ h
      · refine rr_icmp_eq_n (t := 1265) dL_law_1112 (by decide) c276 ?_
        refine rr_iconst dL_law_1115 (by decide) ?_
        obtain ⟨rfl, rfl⟩ := ab_r2 h
        exact rq_zret hkc hks dL_law_1116 rfl (Or.inl rfl) hQ
    rcases ab_i h with ⟨c277, h⟩ | ⟨c277, h⟩
    · refine rr_tsw_in (off := 1084) (t := 1117) dL_law_33 (by omega) (by rw [c277]; rfl) (by decide) ?_
      refine rr_aload_n dL_law_1117 rfl ?_
      refine rr_aload_n dL_law_1118 rfl ?_
      refine rr_iload_n dL_law_1119 rfl ?_
      refine rr_iconst dL_law_1120 (by decide) ?_
      refine rr_iadd dL_law_1121 ?_
      obtain ⟨g278, h⟩ := ab_g h
      refine rq_iald (nz := (p0_n : Int)) dL_law_1122 hs_p0 rfl g278 ?_
      obtain ⟨r280, σ281, e279, h⟩ := ab_2 h
      refine rq_Vi hkc hks (as := [am_i (σ p0 (am_w (x3 + 1)))]) (rest := []) dL_law_1123 ml_8_129 (sh_3 L) ⟨(by decide), by decide, by decide⟩ rfl rfl rfl (Nat.le_of_ble_eq_true rfl) ⟨rfl, rfl⟩ (Nat.le_of_ble_eq_true rfl) (fun _ k => t_X6_kind (by omega) e279 k) ?_
      refine rr_aload_n dL_law_1126 rfl ?_
      refine rr_aload_n dL_law_1127 rfl ?_
      refine rr_iload_n dL_law_1128 rfl ?_
      refine rr_iconst dL_law_1129 (by decide) ?_
      refine rr_iadd dL_law_1130 ?_
      refine rq_iald (nz := (p0_n : Int)) dL_law_1131 hs_p0 rfl g278 ?_
      obtain ⟨r283, σ284, e282, h⟩ := ab_2 h
      refine rq_Vi hkc hks (as := [am_i (σ281 p0 (am_w (x3 + 1)))]) (rest := [am_i r280]) dL_law_1132 ml_8_132 (sh_75 L) ⟨(by decide), by decide, by decide⟩ rfl rfl rfl (Nat.le_of_ble_eq_true rfl) ⟨rfl, rfl⟩ (Nat.le_of_ble_eq_true rfl) (fun _ k => t_X7_kind (by omega) e282 k) ?_
      rcases ab_i h with ⟨c285, h⟩ | ⟨c285, h⟩
      · refine rr_icmp_eq_p (t := 1265) dL_law_1135 (by decide) c285 ?_
        refine rr_iinc (ls' := [some (am_r p0), some (am_r 3), some (am_r 75), some (am_i (am_w (x3 + 8)))]) dL_law_1265 rfl (Nat.le_of_ble_eq_true rfl) rfl ?_
        refine rr_goto (t := 18) dL_law_1268 (by decide) ?_
        exact hk18 _ _ h
      · refine rr_icmp_eq_n (t := 1265) dL_law_1135 (by decide) c285 ?_
        refine rr_iconst dL_law_1138 (by decide) ?_
        obtain ⟨rfl, rfl⟩ := ab_r2 h
        exact rq_zret hkc hks dL_law_1139 rfl (Or.inl rfl) hQ
    rcases ab_i h with ⟨c286, h⟩ | ⟨c286, h⟩
    · refine rr_tsw_in (off := 1107) (t := 1140) dL_law_33 (by omega) (by rw [c286]; rfl) (by decide) ?_
      refine rr_aload_n dL_law_1140 rfl ?_
      refine rr_aload_n dL_law_1141 rfl ?_
      refine rr_iload_n dL_law_1142 rfl ?_
      refine rr_iconst dL_law_1143 (by decide) ?_
      refine rr_iadd dL_law_1144 ?_
      obtain ⟨g287, h⟩ := ab_g h
      refine rq_iald (nz := (p0_n : Int)) dL_law_1145 hs_p0 rfl g287 ?_
      refine rr_aload_n dL_law_1146 rfl ?_
      refine rr_iload_n dL_law_1147 rfl ?_
      refine rr_iconst dL_law_1148 (by decide) ?_
      refine rr_iadd dL_law_1149 ?_
      obtain ⟨g288, h⟩ := ab_g h
      refine rq_iald (nz := (p0_n : Int)) dL_law_1150 hs_p0 rfl g288 ?_
      obtain ⟨r290, σ291, e289, h⟩ := ab_2 h
      refine rq_Vi hkc hks (as := [am_i (σ p0 (am_w (x3 + 1))), am_i (σ p0 (am_w (x3 + 2)))]) (rest := []) dL_law_1151 ml_8_133 (sh_3 L) ⟨(by decide), by decide, by decide⟩ rfl rfl rfl (Nat.le_of_ble_eq_true rfl) ⟨rfl, rfl⟩ (Nat.le_of_ble_eq_true rfl) (fun _ k => t_X6_as (by omega) e289 k) ?_
      refine rr_aload_n dL_law_1154 rfl ?_
      refine rr_aload_n dL_law_1155 rfl ?_
      refine rr_iload_n dL_law_1156 rfl ?_
      refine rr_iconst dL_law_1157 (by decide) ?_
      refine rr_iadd dL_law_1158 ?_
      refine rq_iald (nz := (p0_n : Int)) dL_law_1159 hs_p0 rfl g287 ?_
      refine rr_aload_n dL_law_1160 rfl ?_
      refine rr_iload_n dL_law_1161 rfl ?_
      refine rr_iconst dL_law_1162 (by decide) ?_
      refine rr_iadd dL_law_1163 ?_
      refine rq_iald (nz := (p0_n : Int)) dL_law_1164 hs_p0 rfl g288 ?_
      obtain ⟨r293, σ294, e292, h⟩ := ab_2 h
      refine rq_Vi hkc hks (as := [am_i (σ291 p0 (am_w (x3 + 1))), am_i (σ291 p0 (am_w (x3 + 2)))]) (rest := [am_i r290]) dL_law_1165 ml_8_136 (sh_75 L) ⟨(by decide), by decide, by decide⟩ rfl rfl rfl (Nat.le_of_ble_eq_true rfl) ⟨rfl, rfl⟩ (Nat.le_of_ble_eq_true rfl) (fun _ k => t_X7_as (by omega) e292 k) ?_
      rcases ab_i h with ⟨c295, h⟩ | ⟨c295, h⟩
      · refine rr_icmp_eq_p (t := 1265) dL_law_1168 (by decide) c295 ?_
        refine rr_iinc (ls' := [some (am_r p0), some (am_r 3), some (am_r 75), some (am_i (am_w (x3 + 8)))]) dL_law_1265 rfl (Nat.le_of_ble_eq_true rfl) rfl ?_
        refine rr_goto (t := 18) dL_law_1268 (by decide) ?_
        exact hk18 _ _ h
      · refine rr_icmp_eq_n (t := 1265) dL_law_1168 (by decide) c295 ?_
        refine rr_iconst dL_law_1171 (by decide) ?_
        obtain ⟨rfl, rfl⟩ := ab_r2 h
        exact rq_zret hkc hks dL_law_1172 rfl (Or.inl rfl) hQ
    rcases ab_i h with ⟨c296, h⟩ | ⟨c296, h⟩
    · refine rr_tsw_in (off := 1140) (t := 1173) dL_law_33 (by omega) (by rw [c296]; rfl) (by decide) ?_
      refine rr_aload_n dL_law_1173 rfl ?_
      refine rr_aload_n dL_law_1174 rfl ?_
      refine rr_iload_n dL_law_1175 rfl ?_
      refine rr_iconst dL_law_1176 (by decide) ?_
      refine rr_iadd dL_law_1177 ?_
      obtain ⟨g297, h⟩ := ab_g h
      refine rq_iald (nz := (p0_n : Int)) dL_law_1178 hs_p0 rfl g297 ?_
      refine rr_aload_n dL_law_1179 rfl ?_
      refine rr_iload_n dL_law_1180 rfl ?_
      refine rr_iconst dL_law_1181 (by decide) ?_
      refine rr_iadd dL_law_1182 ?_
      obtain ⟨g298, h⟩ := ab_g h
      refine rq_iald (nz := (p0_n : Int)) dL_law_1183 hs_p0 rfl g298 ?_
      obtain ⟨r300, σ301, e299, h⟩ := ab_2 h
      refine rq_Vi hkc hks (as := [am_i (σ p0 (am_w (x3 + 1))), am_i (σ p0 (am_w (x3 + 2)))]) (rest := []) dL_law_1184 ml_8_137 (sh_3 L) ⟨(by decide), by decide, by decide⟩ rfl rfl rfl (Nat.le_of_ble_eq_true rfl) ⟨rfl, rfl⟩ (Nat.le_of_ble_eq_true rfl) (fun _ k => t_X6_ask (by omega) e299 k) ?_
      refine rr_aload_n dL_law_1187 rfl ?_
      refine rr_aload_n dL_law_1188 rfl ?_
      refine rr_iload_n dL_law_1189 rfl ?_
      refine rr_iconst dL_law_1190 (by decide) ?_
      refine rr_iadd dL_law_1191 ?_
      refine rq_iald (nz := (p0_n : Int)) dL_law_1192 hs_p0 rfl g297 ?_
      refine rr_aload_n dL_law_1193 rfl ?_
      refine rr_iload_n dL_law_1194 rfl ?_
      refine rr_iconst dL_law_1195 (by decide) ?_
      refine rr_iadd dL_law_1196 ?_
      refine rq_iald (nz := (p0_n : Int)) dL_law_1197 hs_p0 rfl g298 ?_
      obtain ⟨r303, σ304, e302, h⟩ := ab_2 h
      refine rq_Vi hkc hks (as := [am_i (σ301 p0 (am_w (x3 + 1))), am_i (σ301 p0 (am_w (x3 + 2)))]) (rest := [am_i r300]) dL_law_1198 ml_8_140 (sh_75 L) ⟨(by decide), by decide, by decide⟩ rfl rfl rfl (Nat.le_of_ble_eq_true rfl) ⟨rfl, rfl⟩ (Nat.le_of_ble_eq_true rfl) (fun _ k => t_X7_ask (by omega) e302 k) ?_
      rcases ab_i h with ⟨c305, h⟩ | ⟨c305, h⟩
      · refine rr_icmp_eq_p (t := 1265) dL_law_1201 (by decide) c305 ?_
        refine rr_iinc (ls' := [some (am_r p0), some (am_r 3), some (am_r 75), some (am_i (am_w (x3 + 8)))]) dL_law_1265 rfl (Nat.le_of_ble_eq_true rfl) rfl ?_
        refine rr_goto (t := 18) dL_law_1268 (by decide) ?_
        exact hk18 _ _ h
      · refine rr_icmp_eq_n (t := 1265) dL_law_1201 (by decide) c305 ?_
        refine rr_iconst dL_law_1204 (by decide) ?_
        obtain ⟨rfl, rfl⟩ := ab_r2 h
        exact rq_zret hkc hks dL_law_1205 rfl (Or.inl rfl) hQ
    rcases ab_i h with ⟨c306, h⟩ | ⟨c306, h⟩
    · refine rr_tsw_in (off := 1173) (t := 1206) dL_law_33 (by omega) (by rw [c306]; rfl) (by decide) ?_
      refine rr_aload_n dL_law_1206 rfl ?_
      refine rr_aload_n dL_law_1207 rfl ?_
      refine rr_iload_n dL_law_1208 rfl ?_
      refine rr_iconst dL_law_1209 (by decide) ?_
      refine rr_iadd dL_law_1210 ?_
      obtain ⟨g307, h⟩ := ab_g h
      refine rq_iald (nz := (p0_n : Int)) dL_law_1211 hs_p0 rfl g307 ?_
      obtain ⟨r309, σ310, e308, h⟩ := ab_2 h
      refine rq_Vi hkc hks (as := [am_i (σ p0 (am_w (x3 + 1)))]) (rest := []) dL_law_1212 ml_8_141 (sh_3 L) ⟨(by decide), by decide, by decide⟩ rfl rfl rfl (Nat.le_of_ble_eq_true rfl) ⟨rfl, rfl⟩ (Nat.le_of_ble_eq_true rfl) (fun _ k => t_X6_trace (by omega) e308 k) ?_
      refine rr_aload_n dL_law_1215 rfl ?_
      refine rr_aload_n dL_law_1216 rfl ?_
      refine rr_iload_n dL_law_1217 rfl ?_
      refine rr_iconst dL_law_1218 (by decide) ?_
      refine rr_iadd dL_law_1219 ?_
      refine rq_iald (nz := (p0_n : Int)) dL_law_1220 hs_p0 rfl g307 ?_
      obtain ⟨r312, σ313, e311, h⟩ := ab_2 h
      refine rq_Vi hkc hks (as := [am_i (σ310 p0 (am_w (x3 + 1)))]) (rest := [am_i r309]) dL_law_1221 ml_8_144 (sh_75 L) ⟨(by decide), by decide, by decide⟩ rfl rfl rfl (Nat.le_of_ble_eq_true rfl) ⟨rfl, rfl⟩ (Nat.le_of_ble_eq_true rfl) (fun _ k => t_X7_trace (by omega) e311 k) ?_
      rcases ab_i h with ⟨c314, h⟩ | ⟨c314, h⟩
      · refine rr_icmp_eq_p (t := 1265) dL_law_1224 (by decide) c314 ?_
        refine rr_iinc (ls' := [some (am_r p0), some (am_r 3), some (am_r 75), some (am_i (am_w (x3 + 8)))]) dL_law_1265 rfl (Nat.le_of_ble_eq_true rfl) rfl ?_
        refine rr_goto (t := 18) dL_law_1268 (by decide) ?_
        exact hk18 _ _ h
      · refine rr_icmp_eq_n (t := 1265) dL_law_1224 (by decide) c314 ?_
        refine rr_iconst dL_law_1227 (by decide) ?_
        obtain ⟨rfl, rfl⟩ := ab_r2 h
        exact rq_zret hkc hks dL_law_1228 rfl (Or.inl rfl) hQ
    rcases ab_i h with ⟨c315, h⟩ | ⟨c315, h⟩
    · refine rr_tsw_in (off := 1196) (t := 1229) dL_law_33 (by omega) (by rw [c315]; rfl) (by decide) ?_
      refine rr_aload_n dL_law_1229 rfl ?_
      refine rr_aload_n dL_law_1230 rfl ?_
      refine rr_iload_n dL_law_1231 rfl ?_
      refine rr_iconst dL_law_1232 (by decide) ?_
      refine rr_iadd dL_law_1233 ?_
      obtain ⟨g316, h⟩ := ab_g h
      refine rq_iald (nz := (p0_n : Int)) dL_law_1234 hs_p0 rfl g316 ?_
      obtain ⟨r318, σ319, e317, h⟩ := ab_2 h
      refine rq_Vi hkc hks (as := [am_i (σ p0 (am_w (x3 + 1)))]) (rest := []) dL_law_1235 ml_8_145 (sh_3 L) ⟨(by decide), by decide, by decide⟩ rfl rfl rfl (Nat.le_of_ble_eq_true rfl) ⟨rfl, rfl⟩ (Nat.le_of_ble_eq_true rfl) (fun _ k => t_X6_count (by omega) e317 k) ?_
      refine rr_aload_n dL_law_1238 rfl ?_
      refine rr_aload_n dL_law_1239 rfl ?_
      refine rr_iload_n dL_law_1240 rfl ?_
      refine rr_iconst dL_law_1241 (by decide) ?_
      refine rr_iadd dL_law_1242 ?_
      refine rq_iald (nz := (p0_n : Int)) dL_law_1243 hs_p0 rfl g316 ?_
      obtain ⟨r321, σ322, e320, h⟩ := ab_2 h
      refine rq_Vi hkc hks (as := [am_i (σ319 p0 (am_w (x3 + 1)))]) (rest := [am_i r318]) dL_law_1244 ml_8_148 (sh_75 L) ⟨(by decide), by decide, by decide⟩ rfl rfl rfl (Nat.le_of_ble_eq_true rfl) ⟨rfl, rfl⟩ (Nat.le_of_ble_eq_true rfl) (fun _ k => t_X7_count (by omega) e320 k) ?_
      rcases ab_i h with ⟨c323, h⟩ | ⟨c323, h⟩
      · refine rr_icmp_eq_p (t := 1265) dL_law_1247 (by decide) c323 ?_
        refine rr_iinc (ls' := [some (am_r p0), some (am_r 3), some (am_r 75), some (am_i (am_w (x3 + 8)))]) dL_law_1265 rfl (Nat.le_of_ble_eq_true rfl) rfl ?_
        refine rr_goto (t := 18) dL_law_1268 (by decide) ?_
        exact hk18 _ _ h
      · refine rr_icmp_eq_n (t := 1265) dL_law_1247 (by decide) c323 ?_
        refine rr_iconst dL_law_1250 (by decide) ?_
        obtain ⟨rfl, rfl⟩ := ab_r2 h
        exact rq_zret hkc hks dL_law_1251 rfl (Or.inl rfl) hQ
    rcases ab_i h with ⟨c324, h⟩ | ⟨c324, h⟩
    · refine rr_tsw_in (off := 1219) (t := 1252) dL_law_33 (by omega) (by rw [c324]; rfl) (by decide) ?_
      refine rr_aload_n dL_law_1252 rfl ?_
      obtain ⟨r326, σ327, e325, h⟩ := ab_2 h
      refine rq_Vi hkc hks (as := []) (rest := []) dL_law_1253 ml_8_149 (sh_3 L) ⟨(by decide), by decide, by decide⟩ rfl rfl rfl (Nat.le_of_ble_eq_true rfl) ⟨rfl, rfl⟩ (Nat.le_of_ble_eq_true rfl) (fun _ k => t_X6_status (by omega) e325 k) ?_
      refine rr_aload_n dL_law_1256 rfl ?_
      obtain ⟨r329, σ330, e328, h⟩ := ab_2 h
      refine rq_Vi hkc hks (as := []) (rest := [am_i r326]) dL_law_1257 ml_8_152 (sh_75 L) ⟨(by decide), by decide, by decide⟩ rfl rfl rfl (Nat.le_of_ble_eq_true rfl) ⟨rfl, rfl⟩ (Nat.le_of_ble_eq_true rfl) (fun _ k => t_X7_status (by omega) e328 k) ?_
      rcases ab_i h with ⟨c331, h⟩ | ⟨c331, h⟩
      · refine rr_icmp_eq_p (t := 1265) dL_law_1260 (by decide) c331 ?_
        refine rr_iinc (ls' := [some (am_r p0), some (am_r 3), some (am_r 75), some (am_i (am_w (x3 + 8)))]) dL_law_1265 rfl (Nat.le_of_ble_eq_true rfl) rfl ?_
        refine rr_goto (t := 18) dL_law_1268 (by decide) ?_
        exact hk18 _ _ h
      · refine rr_icmp_eq_n (t := 1265) dL_law_1260 (by decide) c331 ?_
        refine rr_iconst dL_law_1263 (by decide) ?_
        obtain ⟨rfl, rfl⟩ := ab_r2 h
        exact rq_zret hkc hks dL_law_1264 rfl (Or.inl rfl) hQ
    refine rr_tsw_out (t := 1265) dL_law_33 (by omega) (by decide) ?_
    refine rr_iinc (ls' := [some (am_r p0), some (am_r 3), some (am_r 75), some (am_i (am_w (x3 + 8)))]) dL_law_1265 rfl (Nat.le_of_ble_eq_true rfl) rfl ?_
    refine rr_goto (t := 18) dL_law_1268 (by decide) ?_
    exact hk18 _ _ h
  · refine rr_icmp_gt_n (t := 1271) dL_law_24 (by decide) c1 ?_
    refine rr_iconst dL_law_1271 (by decide) ?_
    obtain ⟨rfl, rfl⟩ := ab_r2 h
    exact rq_zret hkc hks dL_law_1272 rfl (Or.inr rfl) hQ
theorem tlq_L_law_18 {L n d kc ks : Nat} {Q : am_Post} {p0 : Nat} {p0_n : Nat} {σr : am_Mem} {rr : Int} (hd : 21 ≤ d) (hkc : kc ≤ 600000) (hks : ks ≤ 7302250) (hs_p0 : (xr_Sh L)[p0]? = some (100, p0_n, [])) (hL : p0_n ≤ 2147483647) (hQ : Q (some (am_i rr)) (rn_h L kc ks σr)) : ∀ (m : Nat) (x3 : Int) (σ : am_Mem), fl_L_law_18 n p0 p0_n m x3 σ = some (rr, σr) → xs_AW (xs_aw d) me_L_law Q 18 [some (am_r p0), some (am_r 3), some (am_r 75), some (am_i x3)] [] (rn_h L kc ks σ) := by
  intro m
  induction m with
  | zero => intro x3 σ h; cases h
  | succ m ih =>
    intro x3 σ h
    exact tbq_L_law_18 hd hkc hks hs_p0 hL (fun x3 σ h => ih x3 σ h) hQ h
