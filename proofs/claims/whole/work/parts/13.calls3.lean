/-! ===== calls by contract, ends, and the whole ===== -/
/-- what a callee must be -/
def xs_fit (M : am_M) (as : List am_V) : Prop := (am_sl as).length ≤ M.2.2.2.1 ∧ M.2.1.cls = xr_R M.1 ∧ plainName M.2.1.cls = true
def am_Snd (l : Launch) (w : am_W) (d : Nat) (C : am_Cal) : Prop := ∀ (M : am_M) (as : List am_V) (h : am_H) (Q : am_Post), xs_fit M as → C M as (h.1, 0, 0, h.2.2.2) Q → Met l M.2.1 (am_ws M) (am_rm d M) (am_Pc w as h) (am_Qc w Q) M.2.2.2.2.2.1 M.2.2.2.2.2.2 (am_fr w)
section
variable {p : Program} {l : Launch} {e : Env} {R : Room} {s : State} {m : MethodId} {args : Array Value} {below : List Frame} {meth : Method} {c : Code} {w : am_W} {M : am_M} {d : Nat} {Qf : State → Prop} {C : am_Cal} {Q : am_Post} {pc : Nat} {ls : am_L} {st : List am_V} {h : am_H}
theorem as_run {rest : List am_V} {stC : List Value} {a0 : Array Value} {mc ms : Nat} {lsC : Array Slot} {H : Heap} {locs : List Loc}
    (hr : va_Run p l e R s m args below meth c H locs h.2.1 h.2.2.1 mc ms (F0 m pc lsC stC) (rest.map (am_cv w)) (am_Qc w (fun v h' => as_X p l e R s m args below meth c w M Qf (pc + 3) ls (v.toList ++ rest) (h'.1, h.2.1 + mc, h.2.2.1 + ms, h'.2.2.2)) a0) (am_fr w))
    (hn : ls.length = M.2.2.2.1) (hl : al_R w lsC ls) (hL : ∀ q ∈ locs, aw_bs w ≤ q.base) (hv : ∀ v ∈ rest, am_okv v) : W p l e R s m args below meth c H locs h.2.1 h.2.2.1 Qf (F0 m pc lsC stC) := by
  intro T hT X
  obtain ⟨v, st₀, t, T', L, h0, X', hLL, e1, e2, ⟨v', h', hq1, hq2, hq3, hq4⟩, stp⟩ := hr T hT X
  have ev : v = v'.map (am_cv w) := Outcome.returned.inj hq1
  subst ev
  obtain ⟨t2, a1, b1⟩ := hq3 lsC t.heap (locs ++ L) hn hl hq2 (fun q hq => by
    rcases List.mem_append.mp hq with h9 | h9
    · exact hL q h9
    · exact hLL q h9) (fun x hx => by
    rcases List.mem_append.mp hx with h9 | h9
    · cases v' with
      | none => cases h9
      | some y =>
        have : x = y := by simpa using h9
        subst this
        exact hq4 x rfl
    · exact hv x h9) T' e1 X'
  refine ⟨t2, stp t2 ?_, b1⟩
  rw [List.map_append] at a1
  cases v' with
  | none => exact a1
  | some y => exact a1
theorem as_goodIn {M' : am_M} (hcw : Cond.code M'.2.1 M'.2.2.1 M'.2.2.2.1 M'.2.2.2.2.1 ∈ xr_wds) : GoodIn xr_wds (am_ws M') := by
  intro x hx
  have hm : x ∈ xr_wds := by
    rcases List.mem_cons.mp hx with h9 | h9
    · rw [h9]; exact hcw
    · exact h9
  exact ⟨hm, good_of_word (List.mem_filter.mp hm).2⟩
theorem as_cb {M' : am_M} {ix na : Nat} (hR : d + 1 ≤ R.frames ∧ 64 * (d + 1) ≤ R.locals) (hts : ∀ x ∈ xr_wds, x.before args s = true) (hok : xs_okM M' na) (hcw : Cond.code M'.2.1 M'.2.2.1 M'.2.2.2.1 M'.2.2.2.2.1 ∈ xr_wds) (hlink : (Cond.methodLink (xr_R M.1) ix M'.2.1).before args s = true) :
    CallB R s args (xr_R M.1) ix M'.2.1 M'.2.2.1 M'.2.2.2.1 M'.2.2.2.2.1 (am_ws M') (am_rm d M') M'.2.2.2.2.2.1 M'.2.2.2.2.2.2 na := by
  obtain ⟨o1, o2, o3, o4, o5, o6, o7⟩ := hok
  exact callB_of na hts (as_goodIn hcw) rfl rfl rfl (hts _ o1) hlink ⟨o4, o5, o6⟩ ⟨hR.1, by show 8 + (M'.2.2.2.1 + 11) + 64 * d ≤ _; have := hR.2; omega⟩
theorem as_Pcok {as : List am_V} {H : Heap} (hK : am_KW w s) (hH : am_HR w h H) (hv : ∀ v ∈ as, am_okv v) : ∀ U : State, U.heap = H → s.WarmedH U.vm → am_Pc w as h (as.map (am_cv w)).toArray U := fun U hU hW => ⟨rfl, by rw [hU]; exact hH, hK.warm hW, hv⟩
theorem as_split {α : Type} {st r : List α} {x : α} {na : Nat} (h0 : 0 < na) (h : st.drop (na - 1) = x :: r) : st.take na = st.take (na - 1) ++ [x] ∧ st.drop na = r := by
  have e9 : st = st.take (na - 1) ++ x :: r := by rw [← h, List.take_append_drop]
  have hl : (st.take (na - 1)).length = na - 1 := by
    rw [List.length_take]
    have : (st.drop (na - 1)).length = r.length + 1 := by rw [h]; rfl
    rw [List.length_drop] at this
    omega
  obtain ⟨k, rfl⟩ : ∃ k, na = k + 1 := ⟨na - 1, by omega⟩
  rw [Nat.add_sub_cancel] at h hl e9 ⊢
  constructor
  · have h7 : (st.take k ++ x :: r).take (k + 1) = st.take k ++ [x] := by
      rw [List.take_append, hl, List.take_of_length_le (by rw [hl]; omega), show k + 1 - k = 1 by omega]
      rfl
    rw [← e9] at h7
    exact h7
  · rw [← List.drop_drop, h]
    rfl
theorem as_callV {ix na : Nat} {M' : am_M} {js : List Nat} {a ki ni : Nat} {rs : List Nat} {r : List am_V} (hI : am_Snd l w d C) (hc : as_Cx p R s m args meth c w M d) (hd : decode M.2.2.1 pc = .ok (.invokevirtual ix, 3)) (hj : xr_mthC (M.1, ix, 0, M', na, js) = true) (hcw : Cond.code M'.2.1 M'.2.2.1 M'.2.2.2.1 M'.2.2.2.2.1 ∈ xr_wds) (h0 : 0 < na) (hst : st.drop (na - 1) = am_r a :: r) (hsh : h.1[a]? = some (ki, ni, rs)) (h3 : 3 ≤ a) (hki : ki = M'.1) (h100 : ki < 100)
    (hs : am_stp C (as_X p l e R s m args below meth c w M Qf) Q (am_call M M' na pc ls st h)) : as_X p l e R s m args below meth c w M Qf pc ls st h := by
  obtain ⟨hx, hb, hml, hown, hts, hK, hR, hnm⟩ := hc
  unfold am_call at hs
  obtain ⟨⟨hle, hwd, hc1, hc2, hsl⟩, hs2⟩ := ai_if hs
  obtain ⟨e1, e2⟩ := as_split h0 hst
  obtain ⟨hok, g1, g2, g3⟩ := xs_m0 hj
  intro lsC H locs hn hl hH hL hv
  have hvr : ∀ v ∈ st.drop na, am_okv v := fun v h9 => hv v (List.mem_of_mem_drop h9)
  have hva : ∀ v ∈ (st.take na).reverse, am_okv v := fun v h9 => hv v (List.mem_of_mem_take (List.mem_reverse.mp h9))
  subst hki
  have hat := (hH.1 a _ h3 hsh).1
  have h8 := (hH.1 a _ h3 hsh).2 h100
  rw [ah_en_obj h100] at hat
  obtain ⟨r', hr', cellB, q1, q2, q3, -⟩ := hat
  have hcls := (hK.1.1 M'.1 _ (xr_clat M'.1 h8)).2
  have hM := hI M' ((st.take na).reverse) h _ ⟨hsl, hok.2.1, hok.2.2.1⟩ hs2
  have hea : (st.take na).reverse = am_r a :: (st.take (na - 1)).reverse := by rw [e1, List.reverse_append]; rfl
  rw [hea] at hM hva
  rw [e2] at hM hvr hwd
  have hlen : (st.take (na - 1)).length = na - 1 := by rw [List.length_take]; omega
  refine as_run (va_runV (b := am_ad w a) (As := ((st.take (na - 1)).reverse).map (am_cv w)) (C := xr_R M'.1) (nL := ls.length) ⟨hx, hb, by rw [hml, hn], hown, hts⟩ hM ⟨as_cb ⟨hR.1, hR.2.1⟩ hts hok hcw (hts _ g1), hts _ g2, hts _ g3⟩ ⟨am_blind _ _ _, ⟨cellB, q1, by rw [q3]; rfl, by rw [q2]; exact hcls.1⟩, as_Pcok hK hH hva⟩ rfl (by rw [List.length_map, List.length_reverse, hlen]) hl.1.1 ?_ (lv_room (by rw [as_words]; exact hwd)) hd ⟨by rw [hR.2.2.1]; exact hc1, by rw [hR.2.2.2]; exact hc2⟩) hn hl hL hvr
  show st.map (am_cv w) = _
  rw [← List.map_reverse, List.reverse_reverse]
  conv => lhs; rw [← List.take_append_drop (na - 1) st, hst, List.map_append]
  rfl
theorem as_callS {ix na : Nat} {M' : am_M} {js : List Nat} (hI : am_Snd l w d C) (hc : as_Cx p R s m args meth c w M d) (hd : decode M.2.2.1 pc = .ok (.invokestatic ix, 3)) (hj : xr_mthC (M.1, ix, 1, M', na, js) = true) (hcw : Cond.code M'.2.1 M'.2.2.1 M'.2.2.2.1 M'.2.2.2.2.1 ∈ xr_wds)
    (hs : am_stp C (as_X p l e R s m args below meth c w M Qf) Q (am_call M M' na pc ls st h)) : as_X p l e R s m args below meth c w M Qf pc ls st h := by
  obtain ⟨hx, hb, hml, hown, hts, hK, hR, hnm⟩ := hc
  unfold am_call at hs
  obtain ⟨⟨hle, hwd, hc1, hc2, hsl⟩, hs2⟩ := ai_if hs
  obtain ⟨hok, g1, g2⟩ := xs_m1 hj
  intro lsC H locs hn hl hH hL hv
  have hvr : ∀ v ∈ st.drop na, am_okv v := fun v h9 => hv v (List.mem_of_mem_drop h9)
  have hva : ∀ v ∈ (st.take na).reverse, am_okv v := fun v h9 => hv v (List.mem_of_mem_take (List.mem_reverse.mp h9))
  have hM := hI M' ((st.take na).reverse) h _ ⟨hsl, hok.2.1, hok.2.2.1⟩ hs2
  have hlen : (st.take na).length = na := by rw [List.length_take]; omega
  refine as_run (va_runS (As := ((st.take na).reverse).map (am_cv w)) (nL := ls.length) ⟨hx, hb, by rw [hml, hn], hown, hts⟩ hM ⟨as_cb ⟨hR.1, hR.2.1⟩ hts hok hcw (hts _ g1), hts _ g2⟩ ⟨am_blind _ _ _, as_Pcok hK hH hva⟩ rfl (by rw [List.length_map, List.length_reverse, hlen]) hl.1.1 ?_ (lv_room (by rw [as_words]; exact hwd)) hd ⟨by rw [hR.2.2.1]; exact hc1, by rw [hR.2.2.2]; exact hc2⟩) hn hl hL hvr
  show st.map (am_cv w) = _
  rw [← List.map_reverse, List.reverse_reverse, ← List.map_append, List.take_append_drop]
theorem as_callN {ix na : Nat} {M' : am_M} {js : List Nat} (hI : am_Snd l w d C) (hc : as_Cx p R s m args meth c w M d) (hd : decode M.2.2.1 pc = .ok (.invokestatic ix, 3)) (hj : xr_mthC (M.1, ix, 3, M', na, js) = true) (hcw : Cond.code M'.2.1 M'.2.2.1 M'.2.2.2.1 M'.2.2.2.2.1 ∈ xr_wds)
    (hs : am_stp C (as_X p l e R s m args below meth c w M Qf) Q (am_call M M' na pc ls st h)) : as_X p l e R s m args below meth c w M Qf pc ls st h := by
  obtain ⟨hx, hb, hml, hown, hts, hK, hR, hnm⟩ := hc
  unfold am_call at hs
  obtain ⟨⟨hle, hwd, hc1, hc2, hsl⟩, hs2⟩ := ai_if hs
  obtain ⟨hok, ⟨g1, g3, g4⟩, g2⟩ := xs_m3 hj
  intro lsC H locs hn hl hH hL hv
  have hvr : ∀ v ∈ st.drop na, am_okv v := fun v h9 => hv v (List.mem_of_mem_drop h9)
  have hva : ∀ v ∈ (st.take na).reverse, am_okv v := fun v h9 => hv v (List.mem_of_mem_take (List.mem_reverse.mp h9))
  have hM := hI M' ((st.take na).reverse) h _ ⟨hsl, hok.2.1, hok.2.2.1⟩ hs2
  have hlen : (st.take na).length = na := by rw [List.length_take]; omega
  have hlk : va_Nw (.methodLinkNest (xr_R M.1) ix M'.2.1 "MoodFare") s := by rw [g1, g3, g4]; exact hK.2.2.2.2.2.1
  have hok2 := hok
  obtain ⟨o1, o2, o3, o4, o5, o6, o7⟩ := hok2
  have hcb : va_CN R s args (xr_R M.1) ix M'.2.1 "MoodFare" M'.2.2.1 M'.2.2.2.1 M'.2.2.2.2.1 (am_ws M') (am_rm d M') M'.2.2.2.2.2.1 M'.2.2.2.2.2.2 na := va_cnB na hts (as_goodIn hcw) rfl rfl rfl hlk (hts _ o1) ⟨o4, o5, o6⟩ ⟨hR.1, by show 8 + (M'.2.2.2.1 + 11) + 64 * d ≤ _; have := hR.2.1; omega⟩
  refine as_run (va_runSN (As := ((st.take na).reverse).map (am_cv w)) (nL := ls.length) ⟨hx, hb, by rw [hml, hn], hown, hts⟩ hM ⟨hcb, hts _ g2, trivial⟩ ⟨am_blind _ _ _, as_Pcok hK hH hva⟩ rfl (by rw [List.length_map, List.length_reverse, hlen]) hl.1.1 ?_ (lv_room (by rw [as_words]; exact hwd)) hd ⟨by rw [hR.2.2.1]; exact hc1, by rw [hR.2.2.2]; exact hc2⟩) hn hl hL hvr
  show st.map (am_cv w) = _
  rw [← List.map_reverse, List.reverse_reverse, ← List.map_append, List.take_append_drop]
theorem as_callI {ix na : Nat} {M' : am_M} {js : List Nat} {a : Nat} {r : List am_V} (hI : am_Snd l w d C) (hc : as_Cx p R s m args meth c w M d) (hd : decode M.2.2.1 pc = .ok (.invokespecial ix, 3)) (hj : xr_mthC (M.1, ix, 2, M', na, js) = true) (hcw : Cond.code M'.2.1 M'.2.2.1 M'.2.2.2.1 M'.2.2.2.2.1 ∈ xr_wds) (h0 : 0 < na) (hst : st.drop (na - 1) = am_r a :: r)
    (hs : am_stp C (as_X p l e R s m args below meth c w M Qf) Q (am_call M M' na pc ls st h)) : as_X p l e R s m args below meth c w M Qf pc ls st h := by
  obtain ⟨hx, hb, hml, hown, hts, hK, hR, hnm⟩ := hc
  unfold am_call at hs
  obtain ⟨⟨hle, hwd, hc1, hc2, hsl⟩, hs2⟩ := ai_if hs
  obtain ⟨e1, e2⟩ := as_split h0 hst
  obtain ⟨hok, g1, g2, g3, g4⟩ := xs_m2 hj
  intro lsC H locs hn hl hH hL hv
  have hvr : ∀ v ∈ st.drop na, am_okv v := fun v h9 => hv v (List.mem_of_mem_drop h9)
  have hva : ∀ v ∈ (st.take na).reverse, am_okv v := fun v h9 => hv v (List.mem_of_mem_take (List.mem_reverse.mp h9))
  have hM := hI M' ((st.take na).reverse) h _ ⟨hsl, hok.2.1, hok.2.2.1⟩ hs2
  have hea : (st.take na).reverse = am_r a :: (st.take (na - 1)).reverse := by rw [e1, List.reverse_append]; rfl
  rw [hea] at hM hva
  rw [e2] at hM hvr hwd
  have hlen : (st.take (na - 1)).length = na - 1 := by rw [List.length_take]; omega
  have hcb := as_cb (M := M) (M' := M') (ix := ix) (d := d) (R := R) ⟨hR.1, hR.2.1⟩ hts hok hcw (hts _ g1)
  rw [g4] at hcb
  refine as_run (va_runI (b := am_ad w a) (As := ((st.take (na - 1)).reverse).map (am_cv w)) (nL := ls.length) ⟨hx, hb, by rw [hml, hn], hown, hts⟩ hM ⟨hcb, g3, hts _ g2⟩ ⟨am_blind _ _ _, as_Pcok hK hH hva⟩ rfl (by rw [List.length_map, List.length_reverse, hlen]) hl.1.1 ?_ (lv_room (by rw [as_words]; exact hwd)) hd ⟨by rw [hR.2.2.1]; exact hc1, by rw [hR.2.2.2]; exact hc2⟩) hn hl hL hvr
  show st.map (am_cv w) = _
  rw [← List.map_reverse, List.reverse_reverse]
  conv => lhs; rw [← List.take_append_drop (na - 1) st, hst, List.map_append]
  rfl
end
