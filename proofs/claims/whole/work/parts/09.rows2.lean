/-! ===== fields, arrays, makings ===== -/
theorem as_misc {w : Cond} (h : w ∈ ([.arrayClass .int, .arrayClass .boolean, .instanceMethod objectInit, .native arraycopyName, .static arraycopyName, .initialized "java/lang/System", .initialized "java/lang/Math", .static Lib.Math.max.name, .static Lib.Math.min.name, .static Lib.Math.abs.name] : List Cond)) : w ∈ xr_wds := by
  have := List.all_eq_true.mp xr_misc w h
  simp only [Bool.and_eq_true] at this
  exact List.mem_filter.mpr ⟨List.contains_iff_mem.mp this.2, this.1⟩
section
variable {p : Program} {l : Launch} {e : Env} {R : Room} {s : State} {m : MethodId} {args : Array Value} {below : List Frame} {meth : Method} {c : Code} {w : am_W} {M : am_M} {d : Nat} {Qf : State → Prop} {C : am_Cal} {Q : am_Post} {pc : Nat} {ls : am_L} {st : List am_V} {h : am_H}
theorem as_getfield {ix : Nat} (hc : as_Cx p R s m args meth c w M d) (hd : decode M.2.2.1 pc = .ok (.getfield ix, 3)) (hs : am_stp C (as_X p l e R s m args below meth c w M Qf) Q (xs_do M (.getfield ix) pc ls st h)) : as_X p l e R s m args below meth c w M Qf pc ls st h := by
  obtain ⟨hx, hb, hml, hown, hts, hK, hR, hnm⟩ := hc
  have hs : am_stp C _ Q (am_getf xr_fld xr_ref xr_num M ix pc ls st h) := hs
  unfold am_getf at hs
  obtain ⟨a, r, rfl, hs2⟩ := ai_pR hs
  obtain ⟨q, hq, hs3⟩ := ai_opt hs2
  obtain ⟨ki, n, rs, hsh, hs4⟩ := ai_sh hs3
  obtain ⟨⟨h3, hki, hk⟩, hs5⟩ := ai_if hs4
  obtain ⟨h8, hlink⟩ := xs_fld hq
  subst hki
  intro lsC H locs hn hl hH hL hv
  obtain ⟨-, hv⟩ := List.forall_mem_cons.mp hv
  have hat := (hH.1 a _ h3 hsh).1
  rw [ah_en_obj (show q.1 < 100 by omega)] at hat
  have key : ∀ v, (am_fs w (q.1, n, rs) (h.2.2.2 a))[q.2]? = some v → W p l e R s m args below meth c H locs h.2.1 h.2.2.1 Qf (F0 m (pc + 3) lsC (v :: r.map (am_cv w))) → W p l e R s m args below meth c H locs h.2.1 h.2.2.1 Qf (F0 m pc lsC (.ref (am_ad w a) :: r.map (am_cv w))) := fun v hv k =>
    va_get (ws := [(am_ad w a, .inr (q.1, am_fs w (q.1, n, rs) (h.2.2.2 a)))]) hx hb hts (ah_lays h8) hown hK.1 (ah_one hat) 0 rfl (xr_clat q.1 h8) q.2 hk (hts _ hlink) (fun _ h9 => h9) hv hd k
  split at hs5
  · rename_i hr
    obtain ⟨t, ht, hs6⟩ := ai_rfs hs5
    refine key (.ref (am_ad w t)) ?_ (hs6 lsC H locs hn hl hH hL (List.forall_mem_cons.mpr ⟨trivial, hv⟩))
    rw [ah_fs_get (show q.2 < xr_num (q.1, n, rs).1 from hk)]
    unfold am_fv
    rw [if_pos hr, List.getD_eq_getElem?_getD, ht]
    rfl
  · rename_i hr
    refine key (.int (Int32.ofInt (h.2.2.2 a q.2))) ?_ (hs5 lsC H locs hn hl hH hL (List.forall_mem_cons.mpr ⟨hH.2.2.2.2 a q.2, hv⟩))
    rw [ah_fs_get (show q.2 < xr_num (q.1, n, rs).1 from hk)]
    unfold am_fv
    rw [if_neg hr]
theorem as_put {ix ci k a : Nat} {fs : List Value} {v : Value} {rest : List Value} {lsC : Array Slot} {H : Heap} {locs : List Loc} {cells slots : Nat} (hc : as_Cx p R s m args meth c w M d) (hd : decode M.2.2.1 pc = .ok (.putfield ix, 3)) (hq : xr_fld M.1 ix = some (ci, k)) (hk : k < xr_num ci) (hlen : fs.length = xr_num ci)
    (hfin : xr_fin ci k = true → M.2.1.name = "<init>" ∧ ci = M.1) (hn : narrow (xr_ty ci k) v = v) (hf : fits (xr_ty ci k) v = true) (hat : va_at (aw_D w) xr_cl (a, .inr (ci, fs)) H)
    (kk : ∀ H' : Heap, va_at (aw_D w) xr_cl (a, .inr (ci, fs.set k v)) H' → H'.size = H.size → (∀ q, q ≠ a → H'[q]? = H[q]?) → W p l e R s m args below meth c H' (locs ++ [⟨a, (aw_D w).2 ci k⟩]) cells slots Qf (F0 m (pc + 3) lsC rest)) : W p l e R s m args below meth c H locs cells slots Qf (F0 m pc lsC (v :: .ref a :: rest)) := by
  obtain ⟨hx, hb, hml, hown, hts, hK, hR, hnm⟩ := hc
  obtain ⟨h8, hlink⟩ := xs_fld hq
  dsimp only at h8 hlink
  have hcl := xr_clat ci h8
  have hin := ah_lays h8
  have hap := va_apart (own := xr_R M.1) hts hin (xr_ty ci) (xr_tyok ci h8) (xr_nm ci h8) hK.1 hcl
  obtain ⟨r, h1, cell, q1, q2, q3, q4⟩ := hat
  have hr : r = (xr_R ci, xr_T ci, xr_num ci) := Option.some.inj (h1.symm.trans hcl)
  subst hr
  obtain ⟨hS, hfc, kC, hkC, hkind⟩ := hK.1.1 ci _ hcl
  obtain ⟨cf, kf, fi, f, hi, hsl⟩ := hS k hk
  have hlay := hts _ (hin _ (u_in_lay hk))
  unfold u_lay at hlay
  have hst := (u_facts hfc hkC (u_lays hts hin hk) hi).1
  have fin : ∀ H' : Heap, H'[a]? = some (cell.setSlot ((aw_D w).2 ci k) v) → H'.size = H.size → (∀ q, q ≠ a → H'[q]? = H[q]?) → W p l e R s m args below meth c H' (locs ++ [⟨a, (aw_D w).2 ci k⟩]) cells slots Qf (F0 m (pc + 3) lsC rest) := fun H' e1 e2 e3 =>
    kk H' ⟨_, hcl, t_OB.to (V := updV (vp_V fs) k v) ⟨_, e1, q2, q3, t_set q4 hap hk v⟩ (fun j _ => vp_updV_set (by rw [hlen]; exact hk) v j)⟩ e2 e3
  by_cases hfi : (xr_T ci k).2.2.2 = true
  · rw [if_pos hfi] at hlay
    obtain ⟨hi1, hi2⟩ := hfin hfi
    have hdecl : (xr_T ci k).1 = xr_R M.1 := by rw [xr_own ci h8 k hk, hi2]
    have hcf : m.cls = cf := by
      obtain ⟨_, _, c', _, _, _, -, -, hf', -, -, -, hown2, -⟩ := Cond.laysFinal_spec hlay
      have e1 : c' = cf := by have := hi.symm.trans hf'; simp at this; exact this.1.symm
      rw [hdecl] at hown2
      rw [← e1]; exact Option.some.inj (hown.symm.trans hown2)
    have h6 := u_fits hfc hkC hkind (Or.inr hlay) hi (xr_tyok ci h8 k hk) hn hf
    refine W.putFinK hx hb hown (hts _ hlink) hi hst hcf (hnm.trans hi1) (by rw [q2]; exact h6) q1 q3 (by rw [hsl]; exact k2_hasslot (q4 k hk)) rfl rfl hd fun H' e1 e2 e3 => ?_
    rw [hsl] at e1 ⊢
    exact fin H' e1 e2 e3
  · rw [if_neg hfi] at hlay
    have h6 := u_store hfc hkC hkind hlay hi (xr_tyok ci h8 k hk) hn hf
    refine W.putK hx hb (f := f) ⟨hown, hts _ hlink, ⟨_, _, _, hi⟩, hst⟩ (by rw [q2]; exact h6) q1 q3 (by rw [hsl]; exact k2_hasslot (q4 k hk)) rfl rfl hd fun H' e1 e2 e3 => ?_
    rw [hsl] at e1 ⊢
    exact fin H' e1 e2 e3
theorem as_locs {locs : List Loc} {bs a i : Nat} (hL : ∀ q ∈ locs, bs ≤ q.base) (ha : bs ≤ a) : ∀ q ∈ locs ++ [⟨a, i⟩], bs ≤ q.base := by
  intro q hq
  rcases List.mem_append.mp hq with h1 | h1
  · exact hL q h1
  · rw [List.mem_singleton] at h1
    subst h1
    exact ha
theorem as_ge {a : Nat} (h3 : 3 ≤ a) : aw_bs w ≤ am_ad w a := by rw [ah_ad h3]; omega
theorem as_tyi {ci k : Nat} (h : xr_ref ci k = false) : xr_ty ci k = .int := by
  unfold xr_ref at h
  split at h
  · assumption
  · cases h
theorem as_tyr : ∀ ci, ci < 8 → ∀ k, k < xr_num ci → xr_ref ci k = true → ∀ a : Nat, narrow (xr_ty ci k) (.ref a) = .ref a ∧ fits (xr_ty ci k) (.ref a) = true := by
  intro ci h8 k hk hr a
  have h2 : ∀ ci, ci < 8 → ∀ k, k < xr_num ci → xr_ref ci k = true → (match xr_ty ci k with | .object _ => true | .array _ => true | _ => false) = true := by decide +kernel
  have h3 := h2 ci h8 k hk hr
  cases ht : xr_ty ci k with
  | object C => exact ⟨rfl, rfl⟩
  | array t => exact ⟨rfl, rfl⟩
  | _ => rw [ht] at h3; cases h3
theorem as_putfield {ix : Nat} (hc : as_Cx p R s m args meth c w M d) (hd : decode M.2.2.1 pc = .ok (.putfield ix, 3)) (hs : am_stp C (as_X p l e R s m args below meth c w M Qf) Q (xs_do M (.putfield ix) pc ls st h)) : as_X p l e R s m args below meth c w M Qf pc ls st h := by
  have hs : am_stp C _ Q (am_putf xr_fld xr_ref xr_num xr_fin M ix pc ls st h) := hs
  unfold am_putf at hs
  obtain ⟨a, v, r, rfl, hs2⟩ := ai_pRV hs
  obtain ⟨q, hq, hs3⟩ := ai_opt hs2
  obtain ⟨ki, n, rs, hsh, hs4⟩ := ai_sh hs3
  obtain ⟨⟨h3, hki, hk, hfin⟩, hs5⟩ := ai_if hs4
  obtain ⟨h8, hlink⟩ := xs_fld hq
  subst hki
  intro lsC H locs hn hl hH hL hv
  obtain ⟨hv1, hvA⟩ := List.forall_mem_cons.mp hv
  obtain ⟨-, hvB⟩ := List.forall_mem_cons.mp hvA
  have hat := (hH.1 a _ h3 hsh).1
  rw [ah_en_obj (show q.1 < 100 by omega)] at hat
  rcases v with z | z | t
  · obtain ⟨hr, hs6⟩ := ai_if hs5
    refine as_put (v := .int (Int32.ofInt z)) hc hd hq hk (ah_fs_len _ _ _) hfin (by rw [as_tyi hr]; rfl) (by rw [as_tyi hr]; rfl) hat (fun H' e1 e2 e3 => ?_)
    refine hs6 lsC H' _ hn hl (ah_set' hH h3 hsh e2 e3 ?_ (fun b hb => ah_up_ne _ _ _ hb) (fun j => ah_up_ok hH.2.2.2.2 hv1 a j)) (as_locs hL (as_ge h3)) hvB
    rw [ah_en_obj (show q.1 < 100 by omega), ah_up_self, ah_fs_seti hr]
    exact e1
  · exact hs5.elim
  · obtain ⟨⟨hr, hrl⟩, hs6⟩ := ai_if hs5
    have ht := as_tyr q.1 h8 q.2 hk hr (am_ad w t)
    refine as_put (v := .ref (am_ad w t)) hc hd hq hk (ah_fs_len _ _ _) hfin ht.1 ht.2 hat (fun H' e1 e2 e3 => ?_)
    refine hs6 lsC H' _ hn hl (ah_set (e' := (q.1, n, rs.set q.2 (t + 1))) (σ' := h.2.2.2) hH h3 hsh e2 e3 ?_ (fun _ => h8) (fun b hb => rfl) (fun j => hH.2.2.2.2 a j)) (as_locs hL (as_ge h3)) hvB
    rw [ah_en_obj (show q.1 < 100 by omega), ah_fs_setr hr hrl]
    exact e1
theorem as_getstatic {ix : Nat} (hc : as_Cx p R s m args meth c w M d) (hd : decode M.2.2.1 pc = .ok (.getstatic ix, 3)) (hs : am_stp C (as_X p l e R s m args below meth c w M Qf) Q (xs_do M (.getstatic ix) pc ls st h)) : as_X p l e R s m args below meth c w M Qf pc ls st h := by
  obtain ⟨hx, hb, hml, hown, hts, hK, hR, hnm⟩ := hc
  obtain ⟨a, hq, hs2⟩ := ai_opt hs
  obtain ⟨h3, hs3⟩ := ai_if hs2
  obtain ⟨h12, hlink⟩ := xs_gst hq
  intro lsC H locs hn hl hH hL hv
  have k := hs3 lsC H locs hn hl hH hL (List.forall_mem_cons.mpr ⟨trivial, hv⟩)
  obtain ⟨cf, kf, fi, f, z, cell, g1, g2, g3, g4, g5, g6, g7, g8⟩ := hK.2.2.1 a h12
  refine W.gets hx hb hown (hts _ hlink) g1 g2 g3 g4 (cell₁ := cell) (v := .ref (aw_zz w a)) ?_ (fun e => by rw [e] at g6; cases g6) g7 rfl hd ?_
  · rw [hH.2.2.2.1 z (Nat.not_le.mp g8)]; exact g5
  · rw [List.map_cons, show am_cv w (am_r a) = .ref (aw_zz w a) from congrArg Value.ref (if_pos h3)] at k
    exact k
theorem as_iaload (hc : as_Cx p R s m args meth c w M d) (hd : decode M.2.2.1 pc = .ok (.iaload, 1)) (hs : am_stp C (as_X p l e R s m args below meth c w M Qf) Q (xs_do M (.iaload) pc ls st h)) : as_X p l e R s m args below meth c w M Qf pc ls st h := by
  obtain ⟨hx, hb, hml, hown, hts, hK, hR, hnm⟩ := hc
  obtain ⟨a, j, r, rfl, hs2⟩ := ai_pRI hs
  obtain ⟨ki, n, rs, hsh, hs3⟩ := ai_sh hs2
  obtain ⟨⟨rfl, hj0, hj1⟩, hs4⟩ := ai_if hs3
  intro lsC H locs hn hl hH hL hv
  obtain ⟨hv1, hv⟩ := List.forall_mem_cons.mp hv
  obtain ⟨-, hv⟩ := List.forall_mem_cons.mp hv
  have k := hs4 lsC H locs hn hl hH hL (List.forall_mem_cons.mpr ⟨hH.2.2.2.2 a j, hv⟩)
  by_cases h3 : a < 3
  · obtain ⟨hsh2, hcon⟩ := hH.2.1 a h3
    have e9 : n = aw_on w a := by have := hsh.symm.trans hsh2; cases this; rfl
    obtain ⟨cell, g1, g2, g3, g4, g5, g6⟩ := hK.2.1 a h3
    have hin := an_in hv1 hj0 hj1
    show W p l e R s m args below meth c H locs h.2.1 h.2.2.1 Qf (F0 m pc lsC (.int (Int32.ofInt j) :: .ref (am_ad w a) :: r.map (am_cv w)))
    rw [show am_ad w a = aw_zz w a from if_pos h3]
    refine W.iald (v := .int (Int32.ofInt (h.2.2.2 a j))) hx hb (cell := cell) (by rw [hH.2.2.2.1 _ g5]; exact g1) g2 g3 (by rw [g4, ← e9]; exact hin) ?_ rfl rfl hd k
    rw [an_cl hv1, g6 j.toNat (by omega), hcon j, an_nat hj0]
  · have hat := (hH.1 a _ (by omega) hsh).1
    rw [ah_en_arr (show ¬ 100 < 100 by decide) (show 100 < 102 by decide)] at hat
    have hin := an_in hv1 hj0 hj1
    refine va_iald (ws := [(am_ad w a, .inl (aw_cy w 100, n, .inl (fun j => Int32.ofInt (h.2.2.2 a j))))]) hx hb hK.1 (ah_one hat) 0 0 rfl rfl hin hd ?_
    rw [an_cl hv1, an_nat hj0]
    exact k
theorem as_baload (hc : as_Cx p R s m args meth c w M d) (hd : decode M.2.2.1 pc = .ok (.baload, 1)) (hs : am_stp C (as_X p l e R s m args below meth c w M Qf) Q (xs_do M (.baload) pc ls st h)) : as_X p l e R s m args below meth c w M Qf pc ls st h := by
  obtain ⟨hx, hb, hml, hown, hts, hK, hR, hnm⟩ := hc
  obtain ⟨a, j, r, rfl, hs2⟩ := ai_pRI hs
  obtain ⟨ki, n, rs, hsh, hs3⟩ := ai_sh hs2
  obtain ⟨⟨h3, rfl, hj0, hj1⟩, hs4⟩ := ai_if hs3
  intro lsC H locs hn hl hH hL hv
  obtain ⟨hv1, hv⟩ := List.forall_mem_cons.mp hv
  obtain ⟨-, hv⟩ := List.forall_mem_cons.mp hv
  have k := hs4 lsC H locs hn hl hH hL (List.forall_mem_cons.mpr ⟨hH.2.2.2.2 a j, hv⟩)
  have hat := (hH.1 a _ h3 hsh).1
  rw [ah_en_arr (show ¬ 101 < 100 by decide) (show 101 < 102 by decide)] at hat
  have hin := an_in hv1 hj0 hj1
  refine va_zald (ws := [(am_ad w a, .inl (aw_cy w 101, n, .inl (fun j => Int32.ofInt (h.2.2.2 a j))))]) hx hb hK.1 (ah_one hat) 0 1 rfl rfl hin hd ?_
  rw [an_cl hv1, an_nat hj0]
  exact k
theorem as_aaload (hc : as_Cx p R s m args meth c w M d) (hd : decode M.2.2.1 pc = .ok (.aaload, 1)) (hs : am_stp C (as_X p l e R s m args below meth c w M Qf) Q (xs_do M (.aaload) pc ls st h)) : as_X p l e R s m args below meth c w M Qf pc ls st h := by
  obtain ⟨hx, hb, hml, hown, hts, hK, hR, hnm⟩ := hc
  obtain ⟨a, j, r, rfl, hs2⟩ := ai_pRI hs
  obtain ⟨ki, n, rs, hsh, hs3⟩ := ai_sh hs2
  obtain ⟨⟨h3, hki, hj0, hj1⟩, hs4⟩ := ai_if hs3
  obtain ⟨t, ht, hs5⟩ := ai_rfs hs4
  intro lsC H locs hn hl hH hL hv
  obtain ⟨hv1, hv⟩ := List.forall_mem_cons.mp hv
  obtain ⟨-, hv⟩ := List.forall_mem_cons.mp hv
  have k := hs5 lsC H locs hn hl hH hL (List.forall_mem_cons.mpr ⟨trivial, hv⟩)
  have hat := (hH.1 a _ h3 hsh).1
  have hin := an_in hv1 hj0 hj1
  have hlt : (Int32.ofInt j).toNatClampNeg < n := Nat.not_le.mp fun q => hin (Or.inr q)
  have hval : am_rf w (rs.getD (Int32.ofInt j).toNatClampNeg 0) = some (am_ad w t) := by
    rw [an_cl hv1, List.getD_eq_getElem?_getD, ht]
    rfl
  have harr : ∃ ty : FieldType, ty.isReference = true ∧ (ki = 102 ∨ ki = 103) ∧ ArrOfT s (aw_cy w ki) ty := by
    rcases hki with rfl | rfl
    · exact ⟨.object RX5, rfl, Or.inl rfl, (hK.1.2 2 _ rfl).1⟩
    · exact ⟨.array .int, rfl, Or.inr rfl, (hK.1.2 3 _ rfl).1⟩
  obtain ⟨ty, hty, -, hA⟩ := harr
  rw [ah_en_rfs (show ¬ ki < 100 by omega) (show ¬ ki < 102 by omega)] at hat
  refine W.aald (v := .ref (am_ad w t)) (ty := ty) hx hb hat (hA n (fun j => va_rf (am_rf w (rs.getD j 0)))) hty (fun q => by cases q) (by show ¬ (_ ∨ (arrV _ _ _).slots.size ≤ _); rw [arrV_size]; exact hin) ?_ rfl rfl hd k
  show (arrV _ _ _).slots[_]? = _
  rw [arrV_read _ _ hlt]
  show some (va_rf (am_rf w (rs.getD (Int32.ofInt j).toNatClampNeg 0))) = _
  rw [hval]
  rfl
theorem as_iastore (hc : as_Cx p R s m args meth c w M d) (hd : decode M.2.2.1 pc = .ok (.iastore, 1)) (hs : am_stp C (as_X p l e R s m args below meth c w M Qf) Q (xs_do M (.iastore) pc ls st h)) : as_X p l e R s m args below meth c w M Qf pc ls st h := by
  obtain ⟨hx, hb, hml, hown, hts, hK, hR, hnm⟩ := hc
  obtain ⟨a, j, z, r, rfl, hs2⟩ := ai_pRII hs
  obtain ⟨ki, n, rs, hsh, hs3⟩ := ai_sh hs2
  obtain ⟨⟨h3, rfl, hj0, hj1⟩, hs4⟩ := ai_if hs3
  intro lsC H locs hn hl hH hL hv
  obtain ⟨hv0, hv⟩ := List.forall_mem_cons.mp hv
  obtain ⟨hv1, hv⟩ := List.forall_mem_cons.mp hv
  obtain ⟨-, hv⟩ := List.forall_mem_cons.mp hv
  have hat := (hH.1 a _ h3 hsh).1
  rw [ah_en_arr (show ¬ 100 < 100 by decide) (show 100 < 102 by decide)] at hat
  have hin := an_in hv1 hj0 hj1
  refine W.iast hx hb hat ((hK.1.2 0 _ rfl).1 n (fun j => .int (Int32.ofInt (h.2.2.2 a j)))) (fun q => by cases q) (by show ¬ (_ ∨ (arrV _ _ _).slots.size ≤ _); rw [arrV_size]; exact hin) rfl rfl hd fun H1 e1 z1 oq => ?_
  refine hs4 lsC H1 _ hn hl (ah_set' hH h3 hsh z1 oq ?_ (fun b hb => ah_up_ne _ _ _ hb) (fun j => ah_up_ok hH.2.2.2.2 hv0 a j)) (as_locs hL (as_ge h3)) hv
  rw [ah_en_arr (show ¬ 100 < 100 by decide) (show 100 < 102 by decide), ah_up_self, ah_upd hj0]
  show H1[am_ad w a]? = some (vp_cell _ _)
  rw [e1, vp_cell_i, vp_cell_i, arrV_store, an_cl hv1]
  congr 2
  funext q
  by_cases hq : q = j.toNat
  · subst hq
    simp [updV, upd]
  · simp [updV, upd, hq]
theorem as_bastore (hc : as_Cx p R s m args meth c w M d) (hd : decode M.2.2.1 pc = .ok (.bastore, 1)) (hs : am_stp C (as_X p l e R s m args below meth c w M Qf) Q (xs_do M (.bastore) pc ls st h)) : as_X p l e R s m args below meth c w M Qf pc ls st h := by
  obtain ⟨hx, hb, hml, hown, hts, hK, hR, hnm⟩ := hc
  obtain ⟨a, j, z, r, rfl, hs2⟩ := ai_pRII hs
  obtain ⟨ki, n, rs, hsh, hs3⟩ := ai_sh hs2
  obtain ⟨⟨h3, rfl, hj0, hj1, hz⟩, hs4⟩ := ai_if hs3
  intro lsC H locs hn hl hH hL hv
  obtain ⟨hv0, hv⟩ := List.forall_mem_cons.mp hv
  obtain ⟨hv1, hv⟩ := List.forall_mem_cons.mp hv
  obtain ⟨-, hv⟩ := List.forall_mem_cons.mp hv
  have hat := (hH.1 a _ h3 hsh).1
  rw [ah_en_arr (show ¬ 101 < 100 by decide) (show 101 < 102 by decide)] at hat
  have hin := an_in hv1 hj0 hj1
  have hnar : vp_nar .boolean (Int32.ofInt z) = Int32.ofInt z := by rcases hz with rfl | rfl <;> decide +kernel
  refine W.zast hx hb hat ((hK.1.2 1 _ rfl).1 n (fun j => .int (Int32.ofInt (h.2.2.2 a j)))) (fun q => by cases q) (by show ¬ (_ ∨ (arrV _ _ _).slots.size ≤ _); rw [arrV_size]; exact hin) rfl rfl hd fun H1 e1 z1 oq => ?_
  refine hs4 lsC H1 _ hn hl (ah_set' hH h3 hsh z1 oq ?_ (fun b hb => ah_up_ne _ _ _ hb) (fun j => ah_up_ok hH.2.2.2.2 hv0 a j)) (as_locs hL (as_ge h3)) hv
  rw [ah_en_arr (show ¬ 101 < 100 by decide) (show 101 < 102 by decide), ah_up_self, ah_upd hj0]
  show H1[am_ad w a]? = some (vp_cell _ _)
  rw [e1, vp_cell_i, vp_cell_i, arrV_store, an_cl hv1]
  congr 2
  funext q
  have hnar2 : narrow .boolean (.int (Int32.ofInt z)) = .int (Int32.ofInt z) := by rcases hz with rfl | rfl <;> decide +kernel
  by_cases hq : q = j.toNat
  · subst hq
    simp [updV, upd, hnar2]
  · simp [updV, upd, hq]
theorem as_arraylength (hc : as_Cx p R s m args meth c w M d) (hd : decode M.2.2.1 pc = .ok (.arraylength, 1)) (hs : am_stp C (as_X p l e R s m args below meth c w M Qf) Q (xs_do M (.arraylength) pc ls st h)) : as_X p l e R s m args below meth c w M Qf pc ls st h := by
  obtain ⟨hx, hb, hml, hown, hts, hK, hR, hnm⟩ := hc
  obtain ⟨a, r, rfl, hs2⟩ := ai_pR hs
  obtain ⟨ki, n, rs, hsh, hs3⟩ := ai_sh hs2
  obtain ⟨⟨hki, hn1⟩, hs4⟩ := ai_if hs3
  intro lsC H locs hn hl hH hL hv
  obtain ⟨-, hv⟩ := List.forall_mem_cons.mp hv
  have k := hs4 lsC H locs hn hl hH hL (List.forall_mem_cons.mpr ⟨(⟨by omega, by omega⟩ : am_ok n), hv⟩)
  have e8 : Int32.ofInt (n : Int) = Int32.ofNat n := rfl
  rcases hki.symm with ⟨h3, rfl⟩ | rfl
  · have hat := (hH.1 a _ h3 hsh).1
    rw [ah_en_arr (show ¬ 101 < 100 by decide) (show 101 < 102 by decide)] at hat
    exact va_alen (ws := [(am_ad w a, .inl (aw_cy w 101, n, .inl (fun j => Int32.ofInt (h.2.2.2 a j))))]) hx hb hK.1 (ah_one hat) 0 1 rfl rfl e8.symm hd k
  by_cases h3 : a < 3
  · obtain ⟨hsh2, hcon⟩ := hH.2.1 a h3
    have e9 : n = aw_on w a := by have := hsh.symm.trans hsh2; cases this; rfl
    obtain ⟨cell, g1, g2, g3, g4, g5, g6⟩ := hK.2.1 a h3
    show W p l e R s m args below meth c H locs h.2.1 h.2.2.1 Qf (F0 m pc lsC (.ref (am_ad w a) :: r.map (am_cv w)))
    rw [show am_ad w a = aw_zz w a from if_pos h3]
    exact W.alen (n := Int32.ofNat n) hx hb (cell := cell) (by rw [hH.2.2.2.1 _ g5]; exact g1) g2 (by rw [g4, e9] <;> rfl) rfl rfl hd k
  · have hat := (hH.1 a _ (by omega) hsh).1
    rw [ah_en_arr (show ¬ 100 < 100 by decide) (show 100 < 102 by decide)] at hat
    exact va_alen (ws := [(am_ad w a, .inl (aw_cy w 100, n, .inl (fun j => Int32.ofInt (h.2.2.2 a j))))]) hx hb hK.1 (ah_one hat) 0 0 rfl rfl e8.symm hd k
end
