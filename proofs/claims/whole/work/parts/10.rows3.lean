/-! ===== makings, the JDK's own, calls, ends ===== -/
section
variable {p : Program} {l : Launch} {e : Env} {R : Room} {s : State} {m : MethodId} {args : Array Value} {below : List Frame} {meth : Method} {c : Code} {w : am_W} {M : am_M} {d : Nat} {Qf : State → Prop} {C : am_Cal} {Q : am_Post} {pc : Nat} {ls : am_L} {st : List am_V} {h : am_H}
theorem as_ad_len {H : Heap} (hH : am_HR w h H) : am_ad w h.1.length = H.size := by rw [ah_ad hH.2.2.1.1, hH.2.2.1.2]
theorem as_defi : ∀ ci, ci < 8 → ∀ k, k < xr_num ci → defaultValue (xr_ty ci k) = if xr_ref ci k = true then .null else .int 0 := by decide +kernel
theorem as_new {ix : Nat} (hc : as_Cx p R s m args meth c w M d) (hd : decode M.2.2.1 pc = .ok (.new ix, 3)) (hs : am_stp C (as_X p l e R s m args below meth c w M Qf) Q (xs_do M (.new ix) pc ls st h)) : as_X p l e R s m args below meth c w M Qf pc ls st h := by
  obtain ⟨hx, hb, hml, hown, hts, hK, hR, hnm⟩ := hc
  obtain ⟨ci, hq, hs2⟩ := ai_opt hs
  obtain ⟨h100, hs3⟩ := ai_if hs2
  have hs3 : am_stp C (as_X p l e R s m args below meth c w M Qf) Q (am_new M (xr_num ci) 3 (ci, xr_num ci, List.replicate (xr_num ci) 0) pc ls st h) := hs3
  unfold am_new at hs3
  obtain ⟨⟨hc1, hc2⟩, hs4⟩ := ai_if hs3
  obtain ⟨h8', hlink⟩ := xs_new hq
  have h8 : ci < 8 := by rcases h8' with h9 | h9 <;> omega
  rw [if_neg (show ¬ ci = 103 by omega)] at hlink
  obtain ⟨g1, g2, g3, g4⟩ := xr_inst ci h8
  intro lsC H locs hn hl hH hL hv
  have hKn := hK.1.1 ci _ (xr_clat ci h8)
  refine W.newcK hx hb hown (hts _ hlink) (hts _ (List.mem_filter.mpr ⟨g3, g1⟩)) (hts _ (List.mem_filter.mpr ⟨g4, g2⟩)) rfl hd (by rw [hR.2.2.1]; exact hc1) (by rw [hR.2.2.2]; exact hc2) hKn.2.1 rfl fun H1 kC hkC e1 z1 o1 => ?_
  have k := hs4 lsC H1 locs hn hl (ah_app (es := [(ci, xr_num ci, List.replicate (xr_num ci) 0)]) hH z1 o1 (fun i x hx => ?_)) hL (List.forall_mem_cons.mpr ⟨trivial, hv⟩)
  · rw [List.map_cons, show am_cv w (am_r h.1.length) = .ref H.size from congrArg Value.ref (as_ad_len hH)] at k
    exact k
  · cases i with
    | zero =>
      cases hx
      refine ⟨?_, fun _ => h8⟩
      rw [ah_en_obj (show ci < 100 by omega)]
      refine ⟨_, xr_clat ci h8, (u_born (xr_ty ci) hts (ah_lays h8) hKn hkC e1 (xr_tyok ci h8)).to (fun j hj => ?_)⟩
      rw [as_defi ci h8 j hj]
      show _ = (am_fs w (ci, xr_num ci, List.replicate (xr_num ci) 0) (fun _ => 0)).getD j .null
      rw [List.getD_eq_getElem?_getD, ah_fs_get (show j < xr_num (ci, xr_num ci, List.replicate (xr_num ci) 0).1 from hj)]
      unfold am_fv
      by_cases hr : xr_ref ci j = true
      · rw [if_pos hr, if_pos hr]
        simp [hj, am_rf, va_rf]
      · rw [if_neg hr, if_neg hr]
        rfl
    | succ i => cases hx
theorem as_newarr {ty : ArrayType} {z : Int} {r : List am_V} {kd : Nat} (hc : as_Cx p R s m args meth c w M d) (hd : decode M.2.2.1 pc = .ok (.newarray ty, 2)) (hz : 0 ≤ z ∧ z ≤ 100000) (hk : (kd = 100 ∧ ty = .int) ∨ (kd = 101 ∧ ty = .boolean))
    (hs : am_stp C (as_X p l e R s m args below meth c w M Qf) Q (am_new M z.toNat 2 (kd, z.toNat, []) pc ls r h)) : as_X p l e R s m args below meth c w M Qf pc ls (am_i z :: r) h := by
  obtain ⟨hx, hb, hml, hown, hts, hK, hR, hnm⟩ := hc
  unfold am_new at hs
  obtain ⟨⟨hc1, hc2⟩, hs4⟩ := ai_if hs
  intro lsC H locs hn hl hH hL hv
  obtain ⟨hv1, hvB⟩ := List.forall_mem_cons.mp hv
  have hv1 : am_ok z := hv1
  have hty : (Cond.arrayClass (newarray.typeOf ty)).before args s = true ∧ componentBytes (newarray.typeOf ty) ≤ 4 ∧ s.vm.findClass ("[" ++ (newarray.typeOf ty).toString) = some (aw_cy w kd) ∧ (kd = 100 ∨ kd = 101) ∧ defaultValue (newarray.typeOf ty) = .int 0 := by
    rcases hk with ⟨rfl, rfl⟩ | ⟨rfl, rfl⟩
    · exact ⟨hts _ (as_misc (List.mem_cons_self)), by decide, (hK.1.2 0 _ rfl).2, Or.inl rfl, rfl⟩
    · exact ⟨hts _ (as_misc (List.mem_cons_of_mem _ List.mem_cons_self)), by decide, (hK.1.2 1 _ rfl).2, Or.inr rfl, rfl⟩
  obtain ⟨t1, t2, t3, t4, t5⟩ := hty
  have hm : z.toNat * componentBytes (newarray.typeOf ty) ≤ z.toNat * 4 := Nat.mul_le_mul_left _ t2
  refine va_newaK hx hb t1 rfl hd (n := Int32.ofInt z) (N := z.toNat) rfl (fun q => by rw [an_lt0 hv1] at q; omega) (an_cl hv1) (by omega) (by rw [hR.2.2.1]; exact hc1) (by rw [hR.2.2.2]; exact hc2) rfl fun H1 cA e1 z1 o1 hAr hNm => ?_
  have ec : cA = aw_cy w kd := Option.some.inj (hNm.symm.trans t3)
  subst ec
  have k := hs4 lsC H1 locs hn hl (ah_app (es := [(kd, z.toNat, [])]) hH z1 o1 (fun i x hx => ?_)) hL (List.forall_mem_cons.mpr ⟨trivial, hvB⟩)
  · rw [List.map_cons, show am_cv w (am_r h.1.length) = .ref H.size from congrArg Value.ref (as_ad_len hH)] at k
    exact k
  · cases i with
    | zero =>
      cases hx
      refine ⟨?_, fun q => by have q : kd < 100 := q; omega⟩
      rw [ah_en_arr (show ¬ kd < 100 by omega) (show kd < 102 by omega)]
      show H1[H.size]? = some (vp_cell _ _)
      rw [e1, t5]
      rfl
    | succ i => cases hx
theorem as_newarray {ty : ArrayType} (hc : as_Cx p R s m args meth c w M d) (hd : decode M.2.2.1 pc = .ok (.newarray ty, 2)) (hs : am_stp C (as_X p l e R s m args below meth c w M Qf) Q (xs_do M (.newarray ty) pc ls st h)) : as_X p l e R s m args below meth c w M Qf pc ls st h := by
  obtain ⟨z, r, rfl, hs2⟩ := ai_pI hs
  obtain ⟨hz, hs3⟩ := ai_if hs2
  cases ty with
  | int => exact as_newarr hc hd hz (Or.inl ⟨rfl, rfl⟩) hs3
  | boolean => exact as_newarr hc hd hz (Or.inr ⟨rfl, rfl⟩) hs3
  | _ => exact hs3.elim
theorem as_anewarray {ix : Nat} (hc : as_Cx p R s m args meth c w M d) (hd : decode M.2.2.1 pc = .ok (.anewarray ix, 3)) (hs : am_stp C (as_X p l e R s m args below meth c w M Qf) Q (xs_do M (.anewarray ix) pc ls st h)) : as_X p l e R s m args below meth c w M Qf pc ls st h := by
  obtain ⟨hx, hb, hml, hown, hts, hK, hR, hnm⟩ := hc
  obtain ⟨z, r, rfl, hs2⟩ := ai_pI hs
  obtain ⟨⟨hz0, hz1, hq⟩, hs3⟩ := ai_if hs2
  have hs3 : am_stp C (as_X p l e R s m args below meth c w M Qf) Q (am_new M z.toNat 3 (102, z.toNat, List.replicate z.toNat 0) pc ls r h) := hs3
  unfold am_new at hs3
  obtain ⟨⟨hc1, hc2⟩, hs4⟩ := ai_if hs3
  obtain ⟨-, hlink⟩ := xs_new hq
  intro lsC H locs hn hl hH hL hv
  obtain ⟨hv1, hvB⟩ := List.forall_mem_cons.mp hv
  have hv1 : am_ok z := hv1
  have ecl := an_cl hv1
  refine W.anew hx hb hown (C := RX5) (hts _ hlink) (va_AO.use hK.2.2.2.1) rfl hd (n := Int32.ofInt z) rfl (fun q => by rw [an_lt0 hv1] at q; omega) (by rw [ecl]; omega) (by rw [hR.2.2.1]; exact hc1) (by rw [hR.2.2.2, ecl]; exact hc2) fun cA kA comp f1 f2 f3 f4 => ?_
  obtain ⟨kA', comp', r1, r2, r3, r4⟩ := (hK.1.2 2 _ rfl).2
  have ec : cA = aw_cy w 102 := Option.some.inj (f1.symm.trans r4)
  subst ec
  rw [ecl]
  have k := hs4 lsC (H.push { cls := aw_cy w 102, slots := Array.replicate z.toNat .null, vm := .none }) locs hn hl (ah_app (es := [(102, z.toNat, List.replicate z.toNat 0)]) hH (by simp) (fun q hq => by rw [Array.getElem?_push, if_neg (Nat.ne_of_lt hq)]) (fun i x hx => ?_)) hL (List.forall_mem_cons.mpr ⟨trivial, hvB⟩)
  · rw [List.map_cons, show am_cv w (am_r h.1.length) = .ref H.size from congrArg Value.ref (as_ad_len hH)] at k
    exact k
  · cases i with
    | zero =>
      cases hx
      refine ⟨?_, fun q => absurd q (show ¬ 102 < 100 by decide)⟩
      rw [ah_en_rfs (show ¬ 102 < 100 by decide) (show ¬ 102 < 102 by decide)]
      show (H.push _)[H.size]? = some (vp_cell _ _)
      rw [Array.getElem?_push, if_pos rfl, vp_cell_q, arrV_new]
      congr 2
      funext j
      show Value.null = va_rf (am_rf w ((List.replicate z.toNat 0).getD j 0))
      have : (List.replicate z.toNat 0).getD j 0 = 0 := by
        rw [List.getD_eq_getElem?_getD, List.getElem?_replicate]
        split <;> rfl
      rw [this]
      rfl
    | succ i => cases hx
theorem as_aastore (hc : as_Cx p R s m args meth c w M d) (hd : decode M.2.2.1 pc = .ok (.aastore, 1)) (hs : am_stp C (as_X p l e R s m args below meth c w M Qf) Q (xs_do M (.aastore) pc ls st h)) : as_X p l e R s m args below meth c w M Qf pc ls st h := by
  obtain ⟨hx, hb, hml, hown, hts, hK, hR, hnm⟩ := hc
  obtain ⟨a, j, v, r, rfl, hs2⟩ := ai_pRIR hs
  obtain ⟨ki, n, rs, hsh, hs3⟩ := ai_sh hs2
  obtain ⟨kv, nv, rv, hsv, hs4⟩ := ai_sh hs3
  obtain ⟨⟨h3, h3v, rfl, rfl, hj0, hj1, hnr⟩, hs5⟩ := ai_if hs4
  intro lsC H locs hn hl hH hL hv
  obtain ⟨-, hvA⟩ := List.forall_mem_cons.mp hv
  obtain ⟨hv1, hvB⟩ := List.forall_mem_cons.mp hvA
  obtain ⟨-, hvD⟩ := List.forall_mem_cons.mp hvB
  have hv1 : am_ok j := hv1
  have hin := an_in hv1 hj0 hj1
  have hlt : (Int32.ofInt j).toNatClampNeg < n := Nat.not_le.mp fun q => hin (Or.inr q)
  have hat := (hH.1 a _ h3 hsh).1
  rw [ah_en_rfs (show ¬ 102 < 100 by decide) (show ¬ 102 < 102 by decide)] at hat
  have hav := (hH.1 v _ h3v hsv).1
  rw [ah_en_obj (show 5 < 100 by decide)] at hav
  obtain ⟨r', hr', cellV, g1, g2, g3, -⟩ := hav
  have hcls := (hK.1.1 5 _ (xr_clat 5 (by decide))).2
  obtain ⟨kA, comp, k1, k2, k3, -⟩ := (hK.1.2 2 _ rfl).2
  have hcomp : comp = (aw_D w).1 5 := Option.some.inj (k3.symm.trans hcls.1)
  subst hcomp
  obtain ⟨kC, hkC, -⟩ := hcls.2
  refine W.aast hx hb hat (fun q h => by cases h) (fun h => by cases h) k1 k2 rfl hkC ⟨fun q => hin (Or.inl q), by show _ < (arrV _ _ _).slots.size; rw [arrV_size]; exact hlt⟩ g1 (fun q h => by rw [g3] at h; cases h) (by rw [g2]; exact hkC) (by rw [g2]; exact va_assign hcls) rfl rfl hd fun H1 e1 z1 oq => ?_
  refine hs5 lsC H1 _ hn hl (ah_set (e' := (102, n, rs.set j.toNat (v + 1))) (σ' := h.2.2.2) hH h3 hsh z1 oq ?_ (fun q => absurd q (show ¬ 102 < 100 by decide)) (fun b hb => rfl) (fun i => hH.2.2.2.2 a i)) (as_locs hL (as_ge h3)) hvD
  rw [ah_en_rfs (show ¬ 102 < 100 by decide) (show ¬ 102 < 102 by decide)]
  show H1[am_ad w a]? = some (vp_cell _ _)
  rw [e1, vp_cell_q, vp_cell_q, arrV_store, an_cl hv1]
  congr 2
  funext q
  have hjn : j.toNat < rs.length := by omega
  by_cases hq : q = j.toNat
  · subst hq
    simp [updV, hjn, am_rf, va_rf]
  · simp [updV, hq, Ne.symm hq]
end
