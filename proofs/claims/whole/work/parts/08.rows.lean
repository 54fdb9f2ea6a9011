/-! ===== each step of the small machine is the real machine's ===== -/
abbrev xs_do := am_do xr_fld xr_mth xr_cst xr_csl xr_new xr_gst xr_ref xr_num xr_fin
abbrev xs_step := am_step xr_fld xr_mth xr_cst xr_csl xr_new xr_gst xr_ref xr_num xr_fin
abbrev xs_AW := am_AW xr_fld xr_mth xr_cst xr_csl xr_new xr_gst xr_ref xr_num xr_fin
abbrev xs_aw := am_aw xr_fld xr_mth xr_cst xr_csl xr_new xr_gst xr_ref xr_num xr_fin
section
variable {C : am_Cal} {X : am_Cf} {Q : am_Post} {st : List am_V}
theorem ai_pI {f : Int → List am_V → Option am_Res} (h : am_stp C X Q (am_pI st f)) : ∃ x r, st = am_i x :: r ∧ am_stp C X Q (f x r) := by
  unfold am_pI at h
  split at h
  · exact ⟨_, _, rfl, h⟩
  · exact h.elim
theorem ai_pII {f : Int → Int → List am_V → Option am_Res} (h : am_stp C X Q (am_pII st f)) : ∃ x y r, st = am_i y :: am_i x :: r ∧ am_stp C X Q (f x y r) := by
  unfold am_pII at h
  split at h
  · exact ⟨_, _, _, rfl, h⟩
  · exact h.elim
theorem ai_pL {f : Int → List am_V → Option am_Res} (h : am_stp C X Q (am_pL st f)) : ∃ x r, st = am_l x :: r ∧ am_stp C X Q (f x r) := by
  unfold am_pL at h
  split at h
  · exact ⟨_, _, rfl, h⟩
  · exact h.elim
theorem ai_pLL {f : Int → Int → List am_V → Option am_Res} (h : am_stp C X Q (am_pLL st f)) : ∃ x y r, st = am_l y :: am_l x :: r ∧ am_stp C X Q (f x y r) := by
  unfold am_pLL at h
  split at h
  · exact ⟨_, _, _, rfl, h⟩
  · exact h.elim
theorem ai_pR {f : Nat → List am_V → Option am_Res} (h : am_stp C X Q (am_pR st f)) : ∃ x r, st = am_r x :: r ∧ am_stp C X Q (f x r) := by
  unfold am_pR at h
  split at h
  · exact ⟨_, _, rfl, h⟩
  · exact h.elim
theorem ai_pRI {f : Nat → Int → List am_V → Option am_Res} (h : am_stp C X Q (am_pRI st f)) : ∃ a j r, st = am_i j :: am_r a :: r ∧ am_stp C X Q (f a j r) := by
  unfold am_pRI at h
  split at h
  · exact ⟨_, _, _, rfl, h⟩
  · exact h.elim
theorem ai_pRII {f : Nat → Int → Int → List am_V → Option am_Res} (h : am_stp C X Q (am_pRII st f)) : ∃ a j z r, st = am_i z :: am_i j :: am_r a :: r ∧ am_stp C X Q (f a j z r) := by
  unfold am_pRII at h
  split at h
  · exact ⟨_, _, _, _, rfl, h⟩
  · exact h.elim
theorem ai_pRIR {f : Nat → Int → Nat → List am_V → Option am_Res} (h : am_stp C X Q (am_pRIR st f)) : ∃ a j z r, st = am_r z :: am_i j :: am_r a :: r ∧ am_stp C X Q (f a j z r) := by
  unfold am_pRIR at h
  split at h
  · exact ⟨_, _, _, _, rfl, h⟩
  · exact h.elim
theorem ai_pRV {f : Nat → am_V → List am_V → Option am_Res} (h : am_stp C X Q (am_pRV st f)) : ∃ a v r, st = v :: am_r a :: r ∧ am_stp C X Q (f a v r) := by
  unfold am_pRV at h
  split at h
  · exact ⟨_, _, _, rfl, h⟩
  · exact h.elim
theorem ai_pCp {f : Nat → Int → Nat → Int → Int → List am_V → Option am_Res} (h : am_stp C X Q (am_pCp st f)) : ∃ a i b j n r, st = am_i n :: am_i j :: am_r b :: am_i i :: am_r a :: r ∧ am_stp C X Q (f a i b j n r) := by
  unfold am_pCp at h
  split at h
  · exact ⟨_, _, _, _, _, _, rfl, h⟩
  · exact h.elim
theorem ai_lI {ls : am_L} {i : Nat} {f : Int → Option am_Res} (h : am_stp C X Q (am_lI ls i f)) : ∃ z, am_get ls i = some (am_i z) ∧ am_stp C X Q (f z) := by
  unfold am_lI at h
  split at h
  · rename_i z hz; exact ⟨z, hz, h⟩
  · exact h.elim
theorem ai_lL {ls : am_L} {i : Nat} {f : Int → Option am_Res} (h : am_stp C X Q (am_lL ls i f)) : ∃ z, am_get ls i = some (am_l z) ∧ am_stp C X Q (f z) := by
  unfold am_lL at h
  split at h
  · rename_i z hz; exact ⟨z, hz, h⟩
  · exact h.elim
theorem ai_lR {ls : am_L} {i : Nat} {f : Nat → Option am_Res} (h : am_stp C X Q (am_lR ls i f)) : ∃ z, am_get ls i = some (am_r z) ∧ am_stp C X Q (f z) := by
  unfold am_lR at h
  split at h
  · rename_i z hz; exact ⟨z, hz, h⟩
  · exact h.elim
theorem ai_jmp {pc : Nat} {off : Int} {f : Nat → Option am_Res} (h : am_stp C X Q (am_jmp pc off f)) : ∃ t : Nat, (pc : Int) + off = (t : Int) ∧ am_stp C X Q (f t) := by
  unfold am_jmp at h
  split at h
  · rename_i h0; exact ⟨_, (Int.toNat_of_nonneg h0).symm, h⟩
  · exact h.elim
theorem ai_if {b : Prop} [Decidable b] {f : Option am_Res} (h : am_stp C X Q (am_if b f)) : b ∧ am_stp C X Q f := by
  unfold am_if at h
  split at h
  · rename_i hb; exact ⟨hb, h⟩
  · exact h.elim
theorem ai_sh {hh : am_H} {a : Nat} {f : Nat → Nat → List Nat → Option am_Res} (h : am_stp C X Q (am_sh hh a f)) : ∃ ki n rs, hh.1[a]? = some (ki, n, rs) ∧ am_stp C X Q (f ki n rs) := by
  unfold am_sh at h
  split at h
  · rename_i e he; exact ⟨e.1, e.2.1, e.2.2, he, h⟩
  · exact h.elim
theorem ai_rfs {rs : List Nat} {k : Nat} {f : Nat → Option am_Res} (h : am_stp C X Q (am_rfs rs k f)) : ∃ t, rs[k]? = some (t + 1) ∧ am_stp C X Q (f t) := by
  unfold am_rfs at h
  split at h
  · rename_i t ht; exact ⟨t, ht, h⟩
  · exact h.elim
theorem ai_opt {α : Type} {q : Option α} {f : α → Option am_Res} (h : am_stp C X Q (am_opt q f)) : ∃ x, q = some x ∧ am_stp C X Q (f x) := by
  unfold am_opt at h
  split at h
  · exact ⟨_, rfl, h⟩
  · exact h.elim
end
theorem xs_wds {i : Nat} {w : Cond} (h : xr_wd i w = true) {args : Array Value} {s : State} (hts : ∀ x ∈ xr_wds, x.before args s = true) : w.before args s = true := hts _ (xr_wd_in h)
theorem xs_fld {c k : Nat} {q : Nat × Nat} (h : xr_fld c k = some q) : q.1 < 8 ∧ Cond.fieldLink (xr_R c) k (xr_T q.1 q.2).1 (xr_T q.1 q.2).2.1 (xr_T q.1 q.2).2.2.1 ∈ xr_wds := by
  unfold xr_fld at h
  obtain ⟨e, he, rfl⟩ := Option.map_eq_some_iff.mp h
  obtain ⟨h1, h2⟩ := xr_find he
  have h3 := List.all_eq_true.mp xr_fld_ok e h1
  simp only [xr_fldC, Bool.and_eq_true, decide_eq_true_eq, beq_iff_eq] at h2 h3
  obtain ⟨rfl, rfl⟩ := h2
  exact ⟨h3.2, xr_wd_in h3.1⟩
theorem xs_cst {c k : Nat} {v : Int} (h : xr_cst c k = some v) : am_ok v ∧ Cond.constant (xr_R c) k (Int32.ofInt v) ∈ xr_wds := by
  unfold xr_cst at h
  obtain ⟨e, he, rfl⟩ := Option.map_eq_some_iff.mp h
  obtain ⟨h1, h2⟩ := xr_find he
  have h3 := List.all_eq_true.mp xr_cst_ok e h1
  simp only [xr_cstC, Bool.and_eq_true, decide_eq_true_eq, beq_iff_eq] at h2 h3
  obtain ⟨rfl, rfl⟩ := h2
  exact ⟨h3.2, xr_wd_in h3.1⟩
theorem xs_csl {c k : Nat} {v : Int} (h : xr_csl c k = some v) : am_okl v ∧ Cond.constantLong (xr_R c) k (Int64.ofInt v) ∈ xr_wds := by
  unfold xr_csl at h
  obtain ⟨e, he, rfl⟩ := Option.map_eq_some_iff.mp h
  obtain ⟨h1, h2⟩ := xr_find he
  have h3 := List.all_eq_true.mp xr_csl_ok e h1
  simp only [xr_cslC, Bool.and_eq_true, decide_eq_true_eq, beq_iff_eq] at h2 h3
  obtain ⟨rfl, rfl⟩ := h2
  exact ⟨h3.2, xr_wd_in h3.1⟩
theorem xs_new {c k ci : Nat} (h : xr_new c k = some ci) : (ci = 103 ∨ ci < 8) ∧ Cond.classLink (xr_R c) k (if ci = 103 then "[[I" else xr_R ci) ∈ xr_wds := by
  unfold xr_new at h
  obtain ⟨e, he, rfl⟩ := Option.map_eq_some_iff.mp h
  obtain ⟨h1, h2⟩ := xr_find he
  have h3 := List.all_eq_true.mp xr_new_ok e h1
  simp only [xr_newC, Bool.and_eq_true, Bool.or_eq_true, decide_eq_true_eq, beq_iff_eq] at h2 h3
  obtain ⟨rfl, rfl⟩ := h2
  exact ⟨h3.2, xr_wd_in h3.1⟩
theorem xs_gst {c k a : Nat} (h : xr_gst c k = some a) : (a = 1 ∨ a = 2) ∧ Cond.fieldLink (xr_R c) k RX1 (am_st a) "[I" ∈ xr_wds := by
  unfold xr_gst at h
  obtain ⟨e, he, rfl⟩ := Option.map_eq_some_iff.mp h
  obtain ⟨h1, h2⟩ := xr_find he
  have h3 := List.all_eq_true.mp xr_gst_ok e h1
  simp only [xr_gstC, Bool.and_eq_true, Bool.or_eq_true, decide_eq_true_eq, beq_iff_eq] at h2 h3
  obtain ⟨rfl, rfl⟩ := h2
  exact ⟨h3.2, xr_wd_in h3.1⟩
def as_Cx (p : Program) (R : Room) (s : State) (m : MethodId) (args : Array Value) (meth : Method) (c : Code) (w : am_W) (M : am_M) (d : Nat) : Prop :=
  p.tables.exec = Jvm.exec ∧ c.code = M.2.2.1 ∧ c.maxLocals = M.2.2.2.1 ∧ s.vm.findClass (xr_R M.1) = some m.cls ∧ (∀ x ∈ xr_wds, x.before args s = true) ∧ am_KW w s ∧ (d + 1 ≤ R.frames ∧ 64 * (d + 1) ≤ R.locals ∧ R.cells = M.2.2.2.2.2.1 ∧ R.slots = M.2.2.2.2.2.2) ∧ meth.name = M.2.1.name
def as_X (p : Program) (l : Launch) (e : Env) (R : Room) (s : State) (m : MethodId) (args : Array Value) (below : List Frame) (meth : Method) (c : Code) (w : am_W) (M : am_M) (Qf : State → Prop) : am_Cf := fun pc ls st h =>
  ∀ (lsC : Array Slot) (H : Heap) (locs : List Loc), ls.length = M.2.2.2.1 → al_R w lsC ls → am_HR w h H → (∀ q ∈ locs, aw_bs w ≤ q.base) → (∀ v ∈ st, am_okv v) → W p l e R s m args below meth c H locs h.2.1 h.2.2.1 Qf (F0 m pc lsC (st.map (am_cv w)))
section
variable {p : Program} {l : Launch} {e : Env} {R : Room} {s : State} {m : MethodId} {args : Array Value} {below : List Frame} {meth : Method} {c : Code} {w : am_W} {M : am_M} {d : Nat} {Qf : State → Prop} {C : am_Cal} {Q : am_Post} {pc : Nat} {ls : am_L} {st : List am_V} {h : am_H}
theorem as_iconst {n : Int} (hc : as_Cx p R s m args meth c w M d) (hd : decode M.2.2.1 pc = .ok (.iconst n, 1)) (hs : am_stp C (as_X p l e R s m args below meth c w M Qf) Q (xs_do M (.iconst n) pc ls st h)) : as_X p l e R s m args below meth c w M Qf pc ls st h := by
  obtain ⟨hx, hb, hml, hown, hts, hK, hR, hnm⟩ := hc
  obtain ⟨h0, hs⟩ := ai_if hs
  intro lsC H locs hn hl hH hL hv
  exact lv_iconst hx hb hd rfl (hs lsC H locs hn hl hH hL (List.forall_mem_cons.mpr ⟨h0, hv⟩))
theorem as_bipush {n : Int} (hc : as_Cx p R s m args meth c w M d) (hd : decode M.2.2.1 pc = .ok (.bipush n, 2)) (hs : am_stp C (as_X p l e R s m args below meth c w M Qf) Q (xs_do M (.bipush n) pc ls st h)) : as_X p l e R s m args below meth c w M Qf pc ls st h := by
  obtain ⟨hx, hb, hml, hown, hts, hK, hR, hnm⟩ := hc
  obtain ⟨h0, hs⟩ := ai_if hs
  intro lsC H locs hn hl hH hL hv
  exact lv_bipush hx hb hd (an_bi h0) (hs lsC H locs hn hl hH hL (List.forall_mem_cons.mpr ⟨⟨by omega, by omega⟩, hv⟩))
theorem as_sipush {n : Int} (hc : as_Cx p R s m args meth c w M d) (hd : decode M.2.2.1 pc = .ok (.sipush n, 3)) (hs : am_stp C (as_X p l e R s m args below meth c w M Qf) Q (xs_do M (.sipush n) pc ls st h)) : as_X p l e R s m args below meth c w M Qf pc ls st h := by
  obtain ⟨hx, hb, hml, hown, hts, hK, hR, hnm⟩ := hc
  obtain ⟨h0, hs⟩ := ai_if hs
  intro lsC H locs hn hl hH hL hv
  exact lv_sipush hx hb hd (an_si h0) (hs lsC H locs hn hl hH hL (List.forall_mem_cons.mpr ⟨⟨by omega, by omega⟩, hv⟩))
theorem as_ldc {ix : Nat} (hc : as_Cx p R s m args meth c w M d) (hd : decode M.2.2.1 pc = .ok (.ldc ix, 2)) (hs : am_stp C (as_X p l e R s m args below meth c w M Qf) Q (xs_do M (.ldc ix) pc ls st h)) : as_X p l e R s m args below meth c w M Qf pc ls st h := by
  obtain ⟨hx, hb, hml, hown, hts, hK, hR, hnm⟩ := hc
  obtain ⟨v, h0, hs⟩ := ai_opt hs
  obtain ⟨h1, h2⟩ := xs_cst h0
  intro lsC H locs hn hl hH hL hv
  exact lv_ldc hx hb hown (hts _ h2) hd (hs lsC H locs hn hl hH hL (List.forall_mem_cons.mpr ⟨h1, hv⟩))
theorem as_ldc_w {ix : Nat} (hc : as_Cx p R s m args meth c w M d) (hd : decode M.2.2.1 pc = .ok (.ldc_w ix, 3)) (hs : am_stp C (as_X p l e R s m args below meth c w M Qf) Q (xs_do M (.ldc_w ix) pc ls st h)) : as_X p l e R s m args below meth c w M Qf pc ls st h := by
  obtain ⟨hx, hb, hml, hown, hts, hK, hR, hnm⟩ := hc
  obtain ⟨v, h0, hs⟩ := ai_opt hs
  obtain ⟨h1, h2⟩ := xs_cst h0
  intro lsC H locs hn hl hH hL hv
  exact lv_ldcw hx hb hown (hts _ h2) hd (hs lsC H locs hn hl hH hL (List.forall_mem_cons.mpr ⟨h1, hv⟩))
theorem as_ldc2_w {ix : Nat} (hc : as_Cx p R s m args meth c w M d) (hd : decode M.2.2.1 pc = .ok (.ldc2_w ix, 3)) (hs : am_stp C (as_X p l e R s m args below meth c w M Qf) Q (xs_do M (.ldc2_w ix) pc ls st h)) : as_X p l e R s m args below meth c w M Qf pc ls st h := by
  obtain ⟨hx, hb, hml, hown, hts, hK, hR, hnm⟩ := hc
  obtain ⟨v, h0, hs⟩ := ai_opt hs
  obtain ⟨h1, h2⟩ := xs_csl h0
  intro lsC H locs hn hl hH hL hv
  exact lv_ldc2 hx hb hown (hts _ h2) hd (hs lsC H locs hn hl hH hL (List.forall_mem_cons.mpr ⟨h1, hv⟩))
theorem as_iload {ix : Nat} (hc : as_Cx p R s m args meth c w M d) (hd : decode M.2.2.1 pc = .ok (.iload ix, 2)) (hs : am_stp C (as_X p l e R s m args below meth c w M Qf) Q (xs_do M (.iload ix) pc ls st h)) : as_X p l e R s m args below meth c w M Qf pc ls st h := by
  obtain ⟨hx, hb, hml, hown, hts, hK, hR, hnm⟩ := hc
  obtain ⟨z, h0, hs⟩ := ai_lI hs
  intro lsC H locs hn hl hH hL hv
  exact lv_iload hx hb hd (hl.2 _ _ h0).1 (hs lsC H locs hn hl hH hL (List.forall_mem_cons.mpr ⟨(hl.2 _ _ h0).2, hv⟩))
theorem as_iload_n {ix : Fin 4} (hc : as_Cx p R s m args meth c w M d) (hd : decode M.2.2.1 pc = .ok (.iload_n ix, 1)) (hs : am_stp C (as_X p l e R s m args below meth c w M Qf) Q (xs_do M (.iload_n ix) pc ls st h)) : as_X p l e R s m args below meth c w M Qf pc ls st h := by
  obtain ⟨hx, hb, hml, hown, hts, hK, hR, hnm⟩ := hc
  obtain ⟨z, h0, hs⟩ := ai_lI hs
  intro lsC H locs hn hl hH hL hv
  exact lv_iload_n hx hb hd rfl (hl.2 _ _ h0).1 (hs lsC H locs hn hl hH hL (List.forall_mem_cons.mpr ⟨(hl.2 _ _ h0).2, hv⟩))
theorem as_lload {ix : Nat} (hc : as_Cx p R s m args meth c w M d) (hd : decode M.2.2.1 pc = .ok (.lload ix, 2)) (hs : am_stp C (as_X p l e R s m args below meth c w M Qf) Q (xs_do M (.lload ix) pc ls st h)) : as_X p l e R s m args below meth c w M Qf pc ls st h := by
  obtain ⟨hx, hb, hml, hown, hts, hK, hR, hnm⟩ := hc
  obtain ⟨z, h0, hs⟩ := ai_lL hs
  intro lsC H locs hn hl hH hL hv
  exact lv_lload hx hb hd (hl.2 _ _ h0).1 (hs lsC H locs hn hl hH hL (List.forall_mem_cons.mpr ⟨(hl.2 _ _ h0).2, hv⟩))
theorem as_lload_n {ix : Fin 4} (hc : as_Cx p R s m args meth c w M d) (hd : decode M.2.2.1 pc = .ok (.lload_n ix, 1)) (hs : am_stp C (as_X p l e R s m args below meth c w M Qf) Q (xs_do M (.lload_n ix) pc ls st h)) : as_X p l e R s m args below meth c w M Qf pc ls st h := by
  obtain ⟨hx, hb, hml, hown, hts, hK, hR, hnm⟩ := hc
  obtain ⟨z, h0, hs⟩ := ai_lL hs
  intro lsC H locs hn hl hH hL hv
  exact lv_lload_n hx hb hd rfl (hl.2 _ _ h0).1 (hs lsC H locs hn hl hH hL (List.forall_mem_cons.mpr ⟨(hl.2 _ _ h0).2, hv⟩))
theorem as_aload {ix : Nat} (hc : as_Cx p R s m args meth c w M d) (hd : decode M.2.2.1 pc = .ok (.aload ix, 2)) (hs : am_stp C (as_X p l e R s m args below meth c w M Qf) Q (xs_do M (.aload ix) pc ls st h)) : as_X p l e R s m args below meth c w M Qf pc ls st h := by
  obtain ⟨hx, hb, hml, hown, hts, hK, hR, hnm⟩ := hc
  obtain ⟨z, h0, hs⟩ := ai_lR hs
  intro lsC H locs hn hl hH hL hv
  exact lv_aload hx hb hd (hl.2 _ _ h0).1 (hs lsC H locs hn hl hH hL (List.forall_mem_cons.mpr ⟨(hl.2 _ _ h0).2, hv⟩))
theorem as_aload_n {ix : Fin 4} (hc : as_Cx p R s m args meth c w M d) (hd : decode M.2.2.1 pc = .ok (.aload_n ix, 1)) (hs : am_stp C (as_X p l e R s m args below meth c w M Qf) Q (xs_do M (.aload_n ix) pc ls st h)) : as_X p l e R s m args below meth c w M Qf pc ls st h := by
  obtain ⟨hx, hb, hml, hown, hts, hK, hR, hnm⟩ := hc
  obtain ⟨z, h0, hs⟩ := ai_lR hs
  intro lsC H locs hn hl hH hL hv
  exact lv_aload_n hx hb hd rfl (hl.2 _ _ h0).1 (hs lsC H locs hn hl hH hL (List.forall_mem_cons.mpr ⟨(hl.2 _ _ h0).2, hv⟩))
theorem as_istore {ix : Nat} (hc : as_Cx p R s m args meth c w M d) (hd : decode M.2.2.1 pc = .ok (.istore ix, 2)) (hs : am_stp C (as_X p l e R s m args below meth c w M Qf) Q (xs_do M (.istore ix) pc ls st h)) : as_X p l e R s m args below meth c w M Qf pc ls st h := by
  obtain ⟨hx, hb, hml, hown, hts, hK, hR, hnm⟩ := hc
  obtain ⟨z, r, rfl, hs⟩ := ai_pI hs
  obtain ⟨h0, hs⟩ := ai_if hs
  intro lsC H locs hn hl hH hL hv
  obtain ⟨hv1, hv⟩ := List.forall_mem_cons.mp hv
  exact lv_istore hx hb hd (al_has hl) h0 rfl (fun ls' hl' => hs ls' H locs (by rw [al_sto_len]; exact hn) (al_sto hl hv1 hl') hH hL hv)
theorem as_istore_n {ix : Fin 4} (hc : as_Cx p R s m args meth c w M d) (hd : decode M.2.2.1 pc = .ok (.istore_n ix, 1)) (hs : am_stp C (as_X p l e R s m args below meth c w M Qf) Q (xs_do M (.istore_n ix) pc ls st h)) : as_X p l e R s m args below meth c w M Qf pc ls st h := by
  obtain ⟨hx, hb, hml, hown, hts, hK, hR, hnm⟩ := hc
  obtain ⟨z, r, rfl, hs⟩ := ai_pI hs
  obtain ⟨h0, hs⟩ := ai_if hs
  intro lsC H locs hn hl hH hL hv
  obtain ⟨hv1, hv⟩ := List.forall_mem_cons.mp hv
  exact lv_istore_n hx hb hd rfl (al_has hl) h0 rfl (fun ls' hl' => hs ls' H locs (by rw [al_sto_len]; exact hn) (al_sto hl hv1 hl') hH hL hv)
theorem as_astore {ix : Nat} (hc : as_Cx p R s m args meth c w M d) (hd : decode M.2.2.1 pc = .ok (.astore ix, 2)) (hs : am_stp C (as_X p l e R s m args below meth c w M Qf) Q (xs_do M (.astore ix) pc ls st h)) : as_X p l e R s m args below meth c w M Qf pc ls st h := by
  obtain ⟨hx, hb, hml, hown, hts, hK, hR, hnm⟩ := hc
  obtain ⟨z, r, rfl, hs⟩ := ai_pR hs
  obtain ⟨h0, hs⟩ := ai_if hs
  intro lsC H locs hn hl hH hL hv
  obtain ⟨hv1, hv⟩ := List.forall_mem_cons.mp hv
  exact lv_astore hx hb hd (al_has hl) h0 rfl (fun ls' hl' => hs ls' H locs (by rw [al_sto_len]; exact hn) (al_sto hl hv1 hl') hH hL hv)
theorem as_astore_n {ix : Fin 4} (hc : as_Cx p R s m args meth c w M d) (hd : decode M.2.2.1 pc = .ok (.astore_n ix, 1)) (hs : am_stp C (as_X p l e R s m args below meth c w M Qf) Q (xs_do M (.astore_n ix) pc ls st h)) : as_X p l e R s m args below meth c w M Qf pc ls st h := by
  obtain ⟨hx, hb, hml, hown, hts, hK, hR, hnm⟩ := hc
  obtain ⟨z, r, rfl, hs⟩ := ai_pR hs
  obtain ⟨h0, hs⟩ := ai_if hs
  intro lsC H locs hn hl hH hL hv
  obtain ⟨hv1, hv⟩ := List.forall_mem_cons.mp hv
  exact lv_astore_n hx hb hd rfl (al_has hl) h0 rfl (fun ls' hl' => hs ls' H locs (by rw [al_sto_len]; exact hn) (al_sto hl hv1 hl') hH hL hv)
theorem as_lstore {ix : Nat} (hc : as_Cx p R s m args meth c w M d) (hd : decode M.2.2.1 pc = .ok (.lstore ix, 2)) (hs : am_stp C (as_X p l e R s m args below meth c w M Qf) Q (xs_do M (.lstore ix) pc ls st h)) : as_X p l e R s m args below meth c w M Qf pc ls st h := by
  obtain ⟨hx, hb, hml, hown, hts, hK, hR, hnm⟩ := hc
  obtain ⟨z, r, rfl, hs⟩ := ai_pL hs
  obtain ⟨h0, hs⟩ := ai_if hs
  intro lsC H locs hn hl hH hL hv
  obtain ⟨hv1, hv⟩ := List.forall_mem_cons.mp hv
  exact lv_lstore hx hb hd (al_has hl) h0 rfl (fun ls' hl' => hs ls' H locs (by rw [al_stol_len]; exact hn) (al_stol hl hv1 hl') hH hL hv)
theorem as_lstore_n {ix : Fin 4} (hc : as_Cx p R s m args meth c w M d) (hd : decode M.2.2.1 pc = .ok (.lstore_n ix, 1)) (hs : am_stp C (as_X p l e R s m args below meth c w M Qf) Q (xs_do M (.lstore_n ix) pc ls st h)) : as_X p l e R s m args below meth c w M Qf pc ls st h := by
  obtain ⟨hx, hb, hml, hown, hts, hK, hR, hnm⟩ := hc
  obtain ⟨z, r, rfl, hs⟩ := ai_pL hs
  obtain ⟨h0, hs⟩ := ai_if hs
  intro lsC H locs hn hl hH hL hv
  obtain ⟨hv1, hv⟩ := List.forall_mem_cons.mp hv
  exact lv_lstore_n hx hb hd rfl (al_has hl) h0 rfl (fun ls' hl' => hs ls' H locs (by rw [al_stol_len]; exact hn) (al_stol hl hv1 hl') hH hL hv)
theorem as_iinc {ix : Nat} {n : Int} (hc : as_Cx p R s m args meth c w M d) (hd : decode M.2.2.1 pc = .ok (.iinc ix n, 3)) (hs : am_stp C (as_X p l e R s m args below meth c w M Qf) Q (xs_do M (.iinc ix n) pc ls st h)) : as_X p l e R s m args below meth c w M Qf pc ls st h := by
  obtain ⟨hx, hb, hml, hown, hts, hK, hR, hnm⟩ := hc
  obtain ⟨z, h0, hs⟩ := ai_lI hs
  obtain ⟨h1, hs⟩ := ai_if hs
  intro lsC H locs hn hl hH hL hv
  obtain ⟨k, hk⟩ := List.getElem?_of_mem (al_mem (w := w) (q := (ix, am_cv w (am_i z))).mpr ⟨am_i z, h0, rfl⟩)
  exact lv_iinc (v := Int32.ofInt (am_w (z + n))) hx hb hd (al_has hl) hk (by rw [an_add]) h1 rfl (fun ls' hl' => hs ls' H locs (by rw [al_sto_len]; exact hn) (al_sto (v := am_i (am_w (z + n))) hl (an_okw _) hl') hH hL hv)
theorem as_iadd (hc : as_Cx p R s m args meth c w M d) (hd : decode M.2.2.1 pc = .ok (.iadd, 1)) (hs : am_stp C (as_X p l e R s m args below meth c w M Qf) Q (xs_do M (.iadd) pc ls st h)) : as_X p l e R s m args below meth c w M Qf pc ls st h := by
  obtain ⟨hx, hb, hml, hown, hts, hK, hR, hnm⟩ := hc
  obtain ⟨x, y, r, rfl, hs⟩ := ai_pII hs
  intro lsC H locs hn hl hH hL hv
  obtain ⟨hv1, hv⟩ := List.forall_mem_cons.mp hv
  obtain ⟨hv2, hv⟩ := List.forall_mem_cons.mp hv
  refine lv_iadd hx hb hd ?_
  rw [← an_add x y]
  exact hs lsC H locs hn hl hH hL (List.forall_mem_cons.mpr ⟨an_okw _, hv⟩)
theorem as_isub (hc : as_Cx p R s m args meth c w M d) (hd : decode M.2.2.1 pc = .ok (.isub, 1)) (hs : am_stp C (as_X p l e R s m args below meth c w M Qf) Q (xs_do M (.isub) pc ls st h)) : as_X p l e R s m args below meth c w M Qf pc ls st h := by
  obtain ⟨hx, hb, hml, hown, hts, hK, hR, hnm⟩ := hc
  obtain ⟨x, y, r, rfl, hs⟩ := ai_pII hs
  intro lsC H locs hn hl hH hL hv
  obtain ⟨hv1, hv⟩ := List.forall_mem_cons.mp hv
  obtain ⟨hv2, hv⟩ := List.forall_mem_cons.mp hv
  refine lv_isub hx hb hd ?_
  rw [← an_sub x y]
  exact hs lsC H locs hn hl hH hL (List.forall_mem_cons.mpr ⟨an_okw _, hv⟩)
theorem as_imul (hc : as_Cx p R s m args meth c w M d) (hd : decode M.2.2.1 pc = .ok (.imul, 1)) (hs : am_stp C (as_X p l e R s m args below meth c w M Qf) Q (xs_do M (.imul) pc ls st h)) : as_X p l e R s m args below meth c w M Qf pc ls st h := by
  obtain ⟨hx, hb, hml, hown, hts, hK, hR, hnm⟩ := hc
  obtain ⟨x, y, r, rfl, hs⟩ := ai_pII hs
  intro lsC H locs hn hl hH hL hv
  obtain ⟨hv1, hv⟩ := List.forall_mem_cons.mp hv
  obtain ⟨hv2, hv⟩ := List.forall_mem_cons.mp hv
  refine lv_imul hx hb hd ?_
  rw [← an_mul x y]
  exact hs lsC H locs hn hl hH hL (List.forall_mem_cons.mpr ⟨an_okw _, hv⟩)
theorem as_iand (hc : as_Cx p R s m args meth c w M d) (hd : decode M.2.2.1 pc = .ok (.iand, 1)) (hs : am_stp C (as_X p l e R s m args below meth c w M Qf) Q (xs_do M (.iand) pc ls st h)) : as_X p l e R s m args below meth c w M Qf pc ls st h := by
  obtain ⟨hx, hb, hml, hown, hts, hK, hR, hnm⟩ := hc
  obtain ⟨x, y, r, rfl, hs⟩ := ai_pII hs
  intro lsC H locs hn hl hH hL hv
  obtain ⟨hv1, hv⟩ := List.forall_mem_cons.mp hv
  obtain ⟨hv2, hv⟩ := List.forall_mem_cons.mp hv
  have k := hs lsC H locs hn hl hH hL (List.forall_mem_cons.mpr ⟨(an_ok32 _ : am_ok (am_and x y)), hv⟩)
  rw [List.map_cons, show am_cv w (am_i (am_and x y)) = Value.int _ from congrArg Value.int (an_of _)] at k
  exact lv_iand hx hb hd k
theorem as_ior (hc : as_Cx p R s m args meth c w M d) (hd : decode M.2.2.1 pc = .ok (.ior, 1)) (hs : am_stp C (as_X p l e R s m args below meth c w M Qf) Q (xs_do M (.ior) pc ls st h)) : as_X p l e R s m args below meth c w M Qf pc ls st h := by
  obtain ⟨hx, hb, hml, hown, hts, hK, hR, hnm⟩ := hc
  obtain ⟨x, y, r, rfl, hs⟩ := ai_pII hs
  intro lsC H locs hn hl hH hL hv
  obtain ⟨hv1, hv⟩ := List.forall_mem_cons.mp hv
  obtain ⟨hv2, hv⟩ := List.forall_mem_cons.mp hv
  have k := hs lsC H locs hn hl hH hL (List.forall_mem_cons.mpr ⟨(an_ok32 _ : am_ok (am_or x y)), hv⟩)
  rw [List.map_cons, show am_cv w (am_i (am_or x y)) = Value.int _ from congrArg Value.int (an_of _)] at k
  exact lv_ior hx hb hd k
theorem as_ixor (hc : as_Cx p R s m args meth c w M d) (hd : decode M.2.2.1 pc = .ok (.ixor, 1)) (hs : am_stp C (as_X p l e R s m args below meth c w M Qf) Q (xs_do M (.ixor) pc ls st h)) : as_X p l e R s m args below meth c w M Qf pc ls st h := by
  obtain ⟨hx, hb, hml, hown, hts, hK, hR, hnm⟩ := hc
  obtain ⟨x, y, r, rfl, hs⟩ := ai_pII hs
  intro lsC H locs hn hl hH hL hv
  obtain ⟨hv1, hv⟩ := List.forall_mem_cons.mp hv
  obtain ⟨hv2, hv⟩ := List.forall_mem_cons.mp hv
  have k := hs lsC H locs hn hl hH hL (List.forall_mem_cons.mpr ⟨(an_ok32 _ : am_ok (am_xor x y)), hv⟩)
  rw [List.map_cons, show am_cv w (am_i (am_xor x y)) = Value.int _ from congrArg Value.int (an_of _)] at k
  exact lv_ixor hx hb hd k
theorem as_ishl (hc : as_Cx p R s m args meth c w M d) (hd : decode M.2.2.1 pc = .ok (.ishl, 1)) (hs : am_stp C (as_X p l e R s m args below meth c w M Qf) Q (xs_do M (.ishl) pc ls st h)) : as_X p l e R s m args below meth c w M Qf pc ls st h := by
  obtain ⟨hx, hb, hml, hown, hts, hK, hR, hnm⟩ := hc
  obtain ⟨x, y, r, rfl, hs⟩ := ai_pII hs
  intro lsC H locs hn hl hH hL hv
  obtain ⟨hv1, hv⟩ := List.forall_mem_cons.mp hv
  obtain ⟨hv2, hv⟩ := List.forall_mem_cons.mp hv
  have k := hs lsC H locs hn hl hH hL (List.forall_mem_cons.mpr ⟨(an_ok32 _ : am_ok (am_shl x y)), hv⟩)
  rw [List.map_cons, show am_cv w (am_i (am_shl x y)) = Value.int _ from congrArg Value.int (an_of _)] at k
  exact lv_ishl hx hb hd k
theorem as_ishr (hc : as_Cx p R s m args meth c w M d) (hd : decode M.2.2.1 pc = .ok (.ishr, 1)) (hs : am_stp C (as_X p l e R s m args below meth c w M Qf) Q (xs_do M (.ishr) pc ls st h)) : as_X p l e R s m args below meth c w M Qf pc ls st h := by
  obtain ⟨hx, hb, hml, hown, hts, hK, hR, hnm⟩ := hc
  obtain ⟨x, y, r, rfl, hs⟩ := ai_pII hs
  intro lsC H locs hn hl hH hL hv
  obtain ⟨hv1, hv⟩ := List.forall_mem_cons.mp hv
  obtain ⟨hv2, hv⟩ := List.forall_mem_cons.mp hv
  have k := hs lsC H locs hn hl hH hL (List.forall_mem_cons.mpr ⟨(an_ok32 _ : am_ok (am_shr x y)), hv⟩)
  rw [List.map_cons, show am_cv w (am_i (am_shr x y)) = Value.int _ from congrArg Value.int (an_of _)] at k
  exact lv_ishr hx hb hd k
theorem as_iushr (hc : as_Cx p R s m args meth c w M d) (hd : decode M.2.2.1 pc = .ok (.iushr, 1)) (hs : am_stp C (as_X p l e R s m args below meth c w M Qf) Q (xs_do M (.iushr) pc ls st h)) : as_X p l e R s m args below meth c w M Qf pc ls st h := by
  obtain ⟨hx, hb, hml, hown, hts, hK, hR, hnm⟩ := hc
  obtain ⟨x, y, r, rfl, hs⟩ := ai_pII hs
  intro lsC H locs hn hl hH hL hv
  obtain ⟨hv1, hv⟩ := List.forall_mem_cons.mp hv
  obtain ⟨hv2, hv⟩ := List.forall_mem_cons.mp hv
  exact lv_iushr hx hb hd (an_of _).symm (hs lsC H locs hn hl hH hL (List.forall_mem_cons.mpr ⟨(an_ok32 _ : am_ok (am_ushr x y)), hv⟩))
theorem as_idiv (hc : as_Cx p R s m args meth c w M d) (hd : decode M.2.2.1 pc = .ok (.idiv, 1)) (hs : am_stp C (as_X p l e R s m args below meth c w M Qf) Q (xs_do M (.idiv) pc ls st h)) : as_X p l e R s m args below meth c w M Qf pc ls st h := by
  obtain ⟨hx, hb, hml, hown, hts, hK, hR, hnm⟩ := hc
  obtain ⟨x, y, r, rfl, hs⟩ := ai_pII hs
  obtain ⟨h0, hs⟩ := ai_if hs
  intro lsC H locs hn hl hH hL hv
  obtain ⟨hv1, hv⟩ := List.forall_mem_cons.mp hv
  obtain ⟨hv2, hv⟩ := List.forall_mem_cons.mp hv
  refine lv_idiv hx hb hd (fun q => h0 ((an_eq0 hv1).mp q)) ?_
  rw [← an_div hv2 hv1]
  exact hs lsC H locs hn hl hH hL (List.forall_mem_cons.mpr ⟨an_okw _, hv⟩)
theorem as_irem (hc : as_Cx p R s m args meth c w M d) (hd : decode M.2.2.1 pc = .ok (.irem, 1)) (hs : am_stp C (as_X p l e R s m args below meth c w M Qf) Q (xs_do M (.irem) pc ls st h)) : as_X p l e R s m args below meth c w M Qf pc ls st h := by
  obtain ⟨hx, hb, hml, hown, hts, hK, hR, hnm⟩ := hc
  obtain ⟨x, y, r, rfl, hs⟩ := ai_pII hs
  obtain ⟨h0, hs⟩ := ai_if hs
  intro lsC H locs hn hl hH hL hv
  obtain ⟨hv1, hv⟩ := List.forall_mem_cons.mp hv
  obtain ⟨hv2, hv⟩ := List.forall_mem_cons.mp hv
  refine lv_irem hx hb hd (fun q => h0 ((an_eq0 hv1).mp q)) ?_
  rw [← an_mod hv2 hv1]
  exact hs lsC H locs hn hl hH hL (List.forall_mem_cons.mpr ⟨an_modok hv2, hv⟩)
theorem as_ineg (hc : as_Cx p R s m args meth c w M d) (hd : decode M.2.2.1 pc = .ok (.ineg, 1)) (hs : am_stp C (as_X p l e R s m args below meth c w M Qf) Q (xs_do M (.ineg) pc ls st h)) : as_X p l e R s m args below meth c w M Qf pc ls st h := by
  obtain ⟨hx, hb, hml, hown, hts, hK, hR, hnm⟩ := hc
  obtain ⟨x, r, rfl, hs⟩ := ai_pI hs
  intro lsC H locs hn hl hH hL hv
  obtain ⟨hv1, hv⟩ := List.forall_mem_cons.mp hv
  refine lv_ineg hx hb hd ?_
  rw [← an_neg x]
  exact hs lsC H locs hn hl hH hL (List.forall_mem_cons.mpr ⟨an_okw _, hv⟩)
theorem as_i2b (hc : as_Cx p R s m args meth c w M d) (hd : decode M.2.2.1 pc = .ok (.i2b, 1)) (hs : am_stp C (as_X p l e R s m args below meth c w M Qf) Q (xs_do M (.i2b) pc ls st h)) : as_X p l e R s m args below meth c w M Qf pc ls st h := by
  obtain ⟨hx, hb, hml, hown, hts, hK, hR, hnm⟩ := hc
  obtain ⟨x, r, rfl, hs⟩ := ai_pI hs
  intro lsC H locs hn hl hH hL hv
  obtain ⟨hv1, hv⟩ := List.forall_mem_cons.mp hv
  exact lv_i2b hx hb hd (an_of _).symm (hs lsC H locs hn hl hH hL (List.forall_mem_cons.mpr ⟨(an_ok32 _ : am_ok (am_b8 x)), hv⟩))
theorem as_i2s (hc : as_Cx p R s m args meth c w M d) (hd : decode M.2.2.1 pc = .ok (.i2s, 1)) (hs : am_stp C (as_X p l e R s m args below meth c w M Qf) Q (xs_do M (.i2s) pc ls st h)) : as_X p l e R s m args below meth c w M Qf pc ls st h := by
  obtain ⟨hx, hb, hml, hown, hts, hK, hR, hnm⟩ := hc
  obtain ⟨x, r, rfl, hs⟩ := ai_pI hs
  intro lsC H locs hn hl hH hL hv
  obtain ⟨hv1, hv⟩ := List.forall_mem_cons.mp hv
  exact lv_i2s hx hb hd (an_of _).symm (hs lsC H locs hn hl hH hL (List.forall_mem_cons.mpr ⟨(an_ok32 _ : am_ok (am_b16 x)), hv⟩))
theorem as_i2l (hc : as_Cx p R s m args meth c w M d) (hd : decode M.2.2.1 pc = .ok (.i2l, 1)) (hs : am_stp C (as_X p l e R s m args below meth c w M Qf) Q (xs_do M (.i2l) pc ls st h)) : as_X p l e R s m args below meth c w M Qf pc ls st h := by
  obtain ⟨hx, hb, hml, hown, hts, hK, hR, hnm⟩ := hc
  obtain ⟨x, r, rfl, hs⟩ := ai_pI hs
  intro lsC H locs hn hl hH hL hv
  obtain ⟨hv1, hv⟩ := List.forall_mem_cons.mp hv
  exact lv_i2l hx hb hd (an_i2l hv1) (hs lsC H locs hn hl hH hL (List.forall_mem_cons.mpr ⟨an_okl_of hv1, hv⟩))
theorem as_l2i (hc : as_Cx p R s m args meth c w M d) (hd : decode M.2.2.1 pc = .ok (.l2i, 1)) (hs : am_stp C (as_X p l e R s m args below meth c w M Qf) Q (xs_do M (.l2i) pc ls st h)) : as_X p l e R s m args below meth c w M Qf pc ls st h := by
  obtain ⟨hx, hb, hml, hown, hts, hK, hR, hnm⟩ := hc
  obtain ⟨x, r, rfl, hs⟩ := ai_pL hs
  intro lsC H locs hn hl hH hL hv
  obtain ⟨hv1, hv⟩ := List.forall_mem_cons.mp hv
  exact lv_l2i hx hb hd (an_l2i x) (hs lsC H locs hn hl hH hL (List.forall_mem_cons.mpr ⟨an_okw _, hv⟩))
theorem as_lmul (hc : as_Cx p R s m args meth c w M d) (hd : decode M.2.2.1 pc = .ok (.lmul, 1)) (hs : am_stp C (as_X p l e R s m args below meth c w M Qf) Q (xs_do M (.lmul) pc ls st h)) : as_X p l e R s m args below meth c w M Qf pc ls st h := by
  obtain ⟨hx, hb, hml, hown, hts, hK, hR, hnm⟩ := hc
  obtain ⟨x, y, r, rfl, hs⟩ := ai_pLL hs
  intro lsC H locs hn hl hH hL hv
  obtain ⟨hv1, hv⟩ := List.forall_mem_cons.mp hv
  obtain ⟨hv2, hv⟩ := List.forall_mem_cons.mp hv
  refine lv_lmul hx hb hd ?_
  rw [← an_mull x y]
  exact hs lsC H locs hn hl hH hL (List.forall_mem_cons.mpr ⟨an_okwl _, hv⟩)
theorem as_lrem (hc : as_Cx p R s m args meth c w M d) (hd : decode M.2.2.1 pc = .ok (.lrem, 1)) (hs : am_stp C (as_X p l e R s m args below meth c w M Qf) Q (xs_do M (.lrem) pc ls st h)) : as_X p l e R s m args below meth c w M Qf pc ls st h := by
  obtain ⟨hx, hb, hml, hown, hts, hK, hR, hnm⟩ := hc
  obtain ⟨x, y, r, rfl, hs⟩ := ai_pLL hs
  obtain ⟨h0, hs⟩ := ai_if hs
  intro lsC H locs hn hl hH hL hv
  obtain ⟨hv1, hv⟩ := List.forall_mem_cons.mp hv
  obtain ⟨hv2, hv⟩ := List.forall_mem_cons.mp hv
  refine lv_lrem hx hb hd (fun q => h0 ((an_eql hv1 (by decide : am_okl 0)).mp q)) ?_
  rw [← an_modl hv2 hv1]
  exact hs lsC H locs hn hl hH hL (List.forall_mem_cons.mpr ⟨an_modokl hv2, hv⟩)
theorem as_dup (hc : as_Cx p R s m args meth c w M d) (hd : decode M.2.2.1 pc = .ok (.dup, 1)) (hs : am_stp C (as_X p l e R s m args below meth c w M Qf) Q (xs_do M (.dup) pc ls st h)) : as_X p l e R s m args below meth c w M Qf pc ls st h := by
  obtain ⟨hx, hb, hml, hown, hts, hK, hR, hnm⟩ := hc
  rcases st with _ | ⟨v, r⟩
  · exact hs.elim
  obtain ⟨h0, hs⟩ := ai_if hs
  intro lsC H locs hn hl hH hL hv
  exact lv_dup hx hb hd ((al_cat w v).trans h0) (hs lsC H locs hn hl hH hL (List.forall_mem_cons.mpr ⟨hv v List.mem_cons_self, hv⟩))
theorem as_pop (hc : as_Cx p R s m args meth c w M d) (hd : decode M.2.2.1 pc = .ok (.pop, 1)) (hs : am_stp C (as_X p l e R s m args below meth c w M Qf) Q (xs_do M (.pop) pc ls st h)) : as_X p l e R s m args below meth c w M Qf pc ls st h := by
  obtain ⟨hx, hb, hml, hown, hts, hK, hR, hnm⟩ := hc
  rcases st with _ | ⟨v, r⟩
  · exact hs.elim
  obtain ⟨h0, hs⟩ := ai_if hs
  intro lsC H locs hn hl hH hL hv
  exact lv_pop hx hb hd ((al_cat w v).trans h0) (hs lsC H locs hn hl hH hL (List.forall_mem_cons.mp hv).2)
theorem as_dup2 (hc : as_Cx p R s m args meth c w M d) (hd : decode M.2.2.1 pc = .ok (.dup2, 1)) (hs : am_stp C (as_X p l e R s m args below meth c w M Qf) Q (xs_do M (.dup2) pc ls st h)) : as_X p l e R s m args below meth c w M Qf pc ls st h := by
  obtain ⟨hx, hb, hml, hown, hts, hK, hR, hnm⟩ := hc
  rcases st with _ | ⟨v, _ | ⟨u, r⟩⟩
  · exact hs.elim
  · exact hs.elim
  obtain ⟨h0, hs⟩ := ai_if hs
  intro lsC H locs hn hl hH hL hv
  exact lv_dup2_11 hx hb hd ((al_cat w v).trans h0.1) ((al_cat w u).trans h0.2) (hs lsC H locs hn hl hH hL (List.forall_mem_cons.mpr ⟨hv v List.mem_cons_self, List.forall_mem_cons.mpr ⟨hv u (List.mem_cons_of_mem _ List.mem_cons_self), hv⟩⟩))
theorem as_goto {off : Int} (hc : as_Cx p R s m args meth c w M d) (hd : decode M.2.2.1 pc = .ok (.goto off, 3)) (hs : am_stp C (as_X p l e R s m args below meth c w M Qf) Q (xs_do M (.goto off) pc ls st h)) : as_X p l e R s m args below meth c w M Qf pc ls st h := by
  obtain ⟨hx, hb, hml, hown, hts, hK, hR, hnm⟩ := hc
  have hs : am_stp C _ Q (am_jmp pc off fun t => am_go t ls st h) := hs
  obtain ⟨t, h0, hs⟩ := ai_jmp hs
  intro lsC H locs hn hl hH hL hv
  exact lv_goto hx hb hd h0 (hs lsC H locs hn hl hH hL hv)
theorem as_icmp_eq {off : Int} (hc : as_Cx p R s m args meth c w M d) (hd : decode M.2.2.1 pc = .ok (.if_icmp .eq off, 3)) (hs : am_stp C (as_X p l e R s m args below meth c w M Qf) Q (xs_do M (.if_icmp .eq off) pc ls st h)) : as_X p l e R s m args below meth c w M Qf pc ls st h := by
  obtain ⟨hx, hb, hml, hown, hts, hK, hR, hnm⟩ := hc
  have hs : am_stp C _ Q (am_pII st fun x y r => am_jmp pc off fun t => am_go (if am_cmp .eq x y = true then t else pc + 3) ls r h) := hs
  obtain ⟨x, y, r, rfl, hs2⟩ := ai_pII hs
  obtain ⟨t, h0, hs3⟩ := ai_jmp hs2
  intro lsC H locs hn hl hH hL hv
  obtain ⟨hv1, hv⟩ := List.forall_mem_cons.mp hv
  obtain ⟨hv2, hv⟩ := List.forall_mem_cons.mp hv
  have he := an_eq hv2 hv1
  have k := hs3 lsC H locs hn hl hH hL hv
  by_cases hp : x = y
  · rw [if_pos (show am_cmp .eq x y = true from decide_eq_true hp)] at k
    exact lv_icmp_eq hx hb hd h0 (fun _ => k) (fun q => absurd (he.mpr hp) q)
  · rw [if_neg (show ¬ am_cmp .eq x y = true from fun q => hp (of_decide_eq_true q))] at k
    exact lv_icmp_eq hx hb hd h0 (fun q => absurd (he.mp q) hp) (fun _ => k)
theorem as_if_eq {off : Int} (hc : as_Cx p R s m args meth c w M d) (hd : decode M.2.2.1 pc = .ok (.ifCond .eq off, 3)) (hs : am_stp C (as_X p l e R s m args below meth c w M Qf) Q (xs_do M (.ifCond .eq off) pc ls st h)) : as_X p l e R s m args below meth c w M Qf pc ls st h := by
  obtain ⟨hx, hb, hml, hown, hts, hK, hR, hnm⟩ := hc
  have hs : am_stp C _ Q (am_pI st fun x r => am_jmp pc off fun t => am_go (if am_cmp .eq x 0 = true then t else pc + 3) ls r h) := hs
  obtain ⟨x, r, rfl, hs2⟩ := ai_pI hs
  obtain ⟨t, h0, hs3⟩ := ai_jmp hs2
  intro lsC H locs hn hl hH hL hv
  obtain ⟨hv2, hv⟩ := List.forall_mem_cons.mp hv
  have he := an_eq hv2 an_ok0
  have k := hs3 lsC H locs hn hl hH hL hv
  by_cases hp : x = 0
  · rw [if_pos (show am_cmp .eq x 0 = true from decide_eq_true hp)] at k
    exact lv_if_eq hx hb hd h0 (fun _ => k) (fun q => absurd (he.mpr hp) q)
  · rw [if_neg (show ¬ am_cmp .eq x 0 = true from fun q => hp (of_decide_eq_true q))] at k
    exact lv_if_eq hx hb hd h0 (fun q => absurd (he.mp q) hp) (fun _ => k)
theorem as_icmp_ne {off : Int} (hc : as_Cx p R s m args meth c w M d) (hd : decode M.2.2.1 pc = .ok (.if_icmp .ne off, 3)) (hs : am_stp C (as_X p l e R s m args below meth c w M Qf) Q (xs_do M (.if_icmp .ne off) pc ls st h)) : as_X p l e R s m args below meth c w M Qf pc ls st h := by
  obtain ⟨hx, hb, hml, hown, hts, hK, hR, hnm⟩ := hc
  have hs : am_stp C _ Q (am_pII st fun x y r => am_jmp pc off fun t => am_go (if am_cmp .ne x y = true then t else pc + 3) ls r h) := hs
  obtain ⟨x, y, r, rfl, hs2⟩ := ai_pII hs
  obtain ⟨t, h0, hs3⟩ := ai_jmp hs2
  intro lsC H locs hn hl hH hL hv
  obtain ⟨hv1, hv⟩ := List.forall_mem_cons.mp hv
  obtain ⟨hv2, hv⟩ := List.forall_mem_cons.mp hv
  have he := an_eq hv2 hv1
  have k := hs3 lsC H locs hn hl hH hL hv
  by_cases hp : x = y
  · rw [if_neg (show ¬ am_cmp .ne x y = true by simp [am_cmp, hp])] at k
    exact lv_icmp_ne hx hb hd h0 (fun q => ((q (he.mpr hp))).elim) (fun _ => k)
  · rw [if_pos (show am_cmp .ne x y = true by simp [am_cmp, hp])] at k
    exact lv_icmp_ne hx hb hd h0 (fun _ => k) (fun q => ((fun z => hp (he.mp z)) q).elim)
theorem as_if_ne {off : Int} (hc : as_Cx p R s m args meth c w M d) (hd : decode M.2.2.1 pc = .ok (.ifCond .ne off, 3)) (hs : am_stp C (as_X p l e R s m args below meth c w M Qf) Q (xs_do M (.ifCond .ne off) pc ls st h)) : as_X p l e R s m args below meth c w M Qf pc ls st h := by
  obtain ⟨hx, hb, hml, hown, hts, hK, hR, hnm⟩ := hc
  have hs : am_stp C _ Q (am_pI st fun x r => am_jmp pc off fun t => am_go (if am_cmp .ne x 0 = true then t else pc + 3) ls r h) := hs
  obtain ⟨x, r, rfl, hs2⟩ := ai_pI hs
  obtain ⟨t, h0, hs3⟩ := ai_jmp hs2
  intro lsC H locs hn hl hH hL hv
  obtain ⟨hv2, hv⟩ := List.forall_mem_cons.mp hv
  have he := an_eq hv2 an_ok0
  have k := hs3 lsC H locs hn hl hH hL hv
  by_cases hp : x = 0
  · rw [if_neg (show ¬ am_cmp .ne x 0 = true by simp [am_cmp, hp])] at k
    exact lv_if_ne hx hb hd h0 (fun q => ((q (he.mpr hp))).elim) (fun _ => k)
  · rw [if_pos (show am_cmp .ne x 0 = true by simp [am_cmp, hp])] at k
    exact lv_if_ne hx hb hd h0 (fun _ => k) (fun q => ((fun z => hp (he.mp z)) q).elim)
theorem as_icmp_lt {off : Int} (hc : as_Cx p R s m args meth c w M d) (hd : decode M.2.2.1 pc = .ok (.if_icmp .lt off, 3)) (hs : am_stp C (as_X p l e R s m args below meth c w M Qf) Q (xs_do M (.if_icmp .lt off) pc ls st h)) : as_X p l e R s m args below meth c w M Qf pc ls st h := by
  obtain ⟨hx, hb, hml, hown, hts, hK, hR, hnm⟩ := hc
  have hs : am_stp C _ Q (am_pII st fun x y r => am_jmp pc off fun t => am_go (if am_cmp .lt x y = true then t else pc + 3) ls r h) := hs
  obtain ⟨x, y, r, rfl, hs2⟩ := ai_pII hs
  obtain ⟨t, h0, hs3⟩ := ai_jmp hs2
  intro lsC H locs hn hl hH hL hv
  obtain ⟨hv1, hv⟩ := List.forall_mem_cons.mp hv
  obtain ⟨hv2, hv⟩ := List.forall_mem_cons.mp hv
  have he := an_lt hv2 hv1
  have k := hs3 lsC H locs hn hl hH hL hv
  by_cases hp : x < y
  · rw [if_pos (show am_cmp .lt x y = true from decide_eq_true hp)] at k
    exact lv_icmp_lt hx hb hd h0 (fun _ => k) (fun q => absurd (he.mpr hp) q)
  · rw [if_neg (show ¬ am_cmp .lt x y = true from fun q => hp (of_decide_eq_true q))] at k
    exact lv_icmp_lt hx hb hd h0 (fun q => absurd (he.mp q) hp) (fun _ => k)
theorem as_if_lt {off : Int} (hc : as_Cx p R s m args meth c w M d) (hd : decode M.2.2.1 pc = .ok (.ifCond .lt off, 3)) (hs : am_stp C (as_X p l e R s m args below meth c w M Qf) Q (xs_do M (.ifCond .lt off) pc ls st h)) : as_X p l e R s m args below meth c w M Qf pc ls st h := by
  obtain ⟨hx, hb, hml, hown, hts, hK, hR, hnm⟩ := hc
  have hs : am_stp C _ Q (am_pI st fun x r => am_jmp pc off fun t => am_go (if am_cmp .lt x 0 = true then t else pc + 3) ls r h) := hs
  obtain ⟨x, r, rfl, hs2⟩ := ai_pI hs
  obtain ⟨t, h0, hs3⟩ := ai_jmp hs2
  intro lsC H locs hn hl hH hL hv
  obtain ⟨hv2, hv⟩ := List.forall_mem_cons.mp hv
  have he := an_lt hv2 an_ok0
  have k := hs3 lsC H locs hn hl hH hL hv
  by_cases hp : x < 0
  · rw [if_pos (show am_cmp .lt x 0 = true from decide_eq_true hp)] at k
    exact lv_if_lt hx hb hd h0 (fun _ => k) (fun q => absurd (he.mpr hp) q)
  · rw [if_neg (show ¬ am_cmp .lt x 0 = true from fun q => hp (of_decide_eq_true q))] at k
    exact lv_if_lt hx hb hd h0 (fun q => absurd (he.mp q) hp) (fun _ => k)
theorem as_icmp_ge {off : Int} (hc : as_Cx p R s m args meth c w M d) (hd : decode M.2.2.1 pc = .ok (.if_icmp .ge off, 3)) (hs : am_stp C (as_X p l e R s m args below meth c w M Qf) Q (xs_do M (.if_icmp .ge off) pc ls st h)) : as_X p l e R s m args below meth c w M Qf pc ls st h := by
  obtain ⟨hx, hb, hml, hown, hts, hK, hR, hnm⟩ := hc
  have hs : am_stp C _ Q (am_pII st fun x y r => am_jmp pc off fun t => am_go (if am_cmp .ge x y = true then t else pc + 3) ls r h) := hs
  obtain ⟨x, y, r, rfl, hs2⟩ := ai_pII hs
  obtain ⟨t, h0, hs3⟩ := ai_jmp hs2
  intro lsC H locs hn hl hH hL hv
  obtain ⟨hv1, hv⟩ := List.forall_mem_cons.mp hv
  obtain ⟨hv2, hv⟩ := List.forall_mem_cons.mp hv
  have he := an_lt hv2 hv1
  have k := hs3 lsC H locs hn hl hH hL hv
  by_cases hp : x < y
  · rw [if_neg (show ¬ am_cmp .ge x y = true by simp [am_cmp, hp])] at k
    exact lv_icmp_ge hx hb hd h0 (fun q => ((Int32.not_lt.mpr q) (he.mpr hp)).elim) (fun _ => k)
  · rw [if_pos (show am_cmp .ge x y = true by simp [am_cmp, hp])] at k
    exact lv_icmp_ge hx hb hd h0 (fun _ => k) (fun q => (q (Int32.not_lt.mp (fun z => hp (he.mp z)))).elim)
theorem as_if_ge {off : Int} (hc : as_Cx p R s m args meth c w M d) (hd : decode M.2.2.1 pc = .ok (.ifCond .ge off, 3)) (hs : am_stp C (as_X p l e R s m args below meth c w M Qf) Q (xs_do M (.ifCond .ge off) pc ls st h)) : as_X p l e R s m args below meth c w M Qf pc ls st h := by
  obtain ⟨hx, hb, hml, hown, hts, hK, hR, hnm⟩ := hc
  have hs : am_stp C _ Q (am_pI st fun x r => am_jmp pc off fun t => am_go (if am_cmp .ge x 0 = true then t else pc + 3) ls r h) := hs
  obtain ⟨x, r, rfl, hs2⟩ := ai_pI hs
  obtain ⟨t, h0, hs3⟩ := ai_jmp hs2
  intro lsC H locs hn hl hH hL hv
  obtain ⟨hv2, hv⟩ := List.forall_mem_cons.mp hv
  have he := an_lt hv2 an_ok0
  have k := hs3 lsC H locs hn hl hH hL hv
  by_cases hp : x < 0
  · rw [if_neg (show ¬ am_cmp .ge x 0 = true by simp [am_cmp, hp])] at k
    exact lv_if_ge hx hb hd h0 (fun q => ((Int32.not_lt.mpr q) (he.mpr hp)).elim) (fun _ => k)
  · rw [if_pos (show am_cmp .ge x 0 = true by simp [am_cmp, hp])] at k
    exact lv_if_ge hx hb hd h0 (fun _ => k) (fun q => (q (Int32.not_lt.mp (fun z => hp (he.mp z)))).elim)
theorem as_icmp_gt {off : Int} (hc : as_Cx p R s m args meth c w M d) (hd : decode M.2.2.1 pc = .ok (.if_icmp .gt off, 3)) (hs : am_stp C (as_X p l e R s m args below meth c w M Qf) Q (xs_do M (.if_icmp .gt off) pc ls st h)) : as_X p l e R s m args below meth c w M Qf pc ls st h := by
  obtain ⟨hx, hb, hml, hown, hts, hK, hR, hnm⟩ := hc
  have hs : am_stp C _ Q (am_pII st fun x y r => am_jmp pc off fun t => am_go (if am_cmp .gt x y = true then t else pc + 3) ls r h) := hs
  obtain ⟨x, y, r, rfl, hs2⟩ := ai_pII hs
  obtain ⟨t, h0, hs3⟩ := ai_jmp hs2
  intro lsC H locs hn hl hH hL hv
  obtain ⟨hv1, hv⟩ := List.forall_mem_cons.mp hv
  obtain ⟨hv2, hv⟩ := List.forall_mem_cons.mp hv
  have he := an_le hv2 hv1
  have k := hs3 lsC H locs hn hl hH hL hv
  by_cases hp : x ≤ y
  · rw [if_neg (show ¬ am_cmp .gt x y = true by simp [am_cmp, hp])] at k
    exact lv_icmp_gt hx hb hd h0 (fun q => ((Int32.not_le.mpr q) (he.mpr hp)).elim) (fun _ => k)
  · rw [if_pos (show am_cmp .gt x y = true by simp [am_cmp, hp])] at k
    exact lv_icmp_gt hx hb hd h0 (fun _ => k) (fun q => (q (Int32.not_le.mp (fun z => hp (he.mp z)))).elim)
theorem as_if_gt {off : Int} (hc : as_Cx p R s m args meth c w M d) (hd : decode M.2.2.1 pc = .ok (.ifCond .gt off, 3)) (hs : am_stp C (as_X p l e R s m args below meth c w M Qf) Q (xs_do M (.ifCond .gt off) pc ls st h)) : as_X p l e R s m args below meth c w M Qf pc ls st h := by
  obtain ⟨hx, hb, hml, hown, hts, hK, hR, hnm⟩ := hc
  have hs : am_stp C _ Q (am_pI st fun x r => am_jmp pc off fun t => am_go (if am_cmp .gt x 0 = true then t else pc + 3) ls r h) := hs
  obtain ⟨x, r, rfl, hs2⟩ := ai_pI hs
  obtain ⟨t, h0, hs3⟩ := ai_jmp hs2
  intro lsC H locs hn hl hH hL hv
  obtain ⟨hv2, hv⟩ := List.forall_mem_cons.mp hv
  have he := an_le hv2 an_ok0
  have k := hs3 lsC H locs hn hl hH hL hv
  by_cases hp : x ≤ 0
  · rw [if_neg (show ¬ am_cmp .gt x 0 = true by simp [am_cmp, hp])] at k
    exact lv_if_gt hx hb hd h0 (fun q => ((Int32.not_le.mpr q) (he.mpr hp)).elim) (fun _ => k)
  · rw [if_pos (show am_cmp .gt x 0 = true by simp [am_cmp, hp])] at k
    exact lv_if_gt hx hb hd h0 (fun _ => k) (fun q => (q (Int32.not_le.mp (fun z => hp (he.mp z)))).elim)
theorem as_icmp_le {off : Int} (hc : as_Cx p R s m args meth c w M d) (hd : decode M.2.2.1 pc = .ok (.if_icmp .le off, 3)) (hs : am_stp C (as_X p l e R s m args below meth c w M Qf) Q (xs_do M (.if_icmp .le off) pc ls st h)) : as_X p l e R s m args below meth c w M Qf pc ls st h := by
  obtain ⟨hx, hb, hml, hown, hts, hK, hR, hnm⟩ := hc
  have hs : am_stp C _ Q (am_pII st fun x y r => am_jmp pc off fun t => am_go (if am_cmp .le x y = true then t else pc + 3) ls r h) := hs
  obtain ⟨x, y, r, rfl, hs2⟩ := ai_pII hs
  obtain ⟨t, h0, hs3⟩ := ai_jmp hs2
  intro lsC H locs hn hl hH hL hv
  obtain ⟨hv1, hv⟩ := List.forall_mem_cons.mp hv
  obtain ⟨hv2, hv⟩ := List.forall_mem_cons.mp hv
  have he := an_le hv2 hv1
  have k := hs3 lsC H locs hn hl hH hL hv
  by_cases hp : x ≤ y
  · rw [if_pos (show am_cmp .le x y = true from decide_eq_true hp)] at k
    exact lv_icmp_le hx hb hd h0 (fun _ => k) (fun q => absurd (he.mpr hp) q)
  · rw [if_neg (show ¬ am_cmp .le x y = true from fun q => hp (of_decide_eq_true q))] at k
    exact lv_icmp_le hx hb hd h0 (fun q => absurd (he.mp q) hp) (fun _ => k)
theorem as_if_le {off : Int} (hc : as_Cx p R s m args meth c w M d) (hd : decode M.2.2.1 pc = .ok (.ifCond .le off, 3)) (hs : am_stp C (as_X p l e R s m args below meth c w M Qf) Q (xs_do M (.ifCond .le off) pc ls st h)) : as_X p l e R s m args below meth c w M Qf pc ls st h := by
  obtain ⟨hx, hb, hml, hown, hts, hK, hR, hnm⟩ := hc
  have hs : am_stp C _ Q (am_pI st fun x r => am_jmp pc off fun t => am_go (if am_cmp .le x 0 = true then t else pc + 3) ls r h) := hs
  obtain ⟨x, r, rfl, hs2⟩ := ai_pI hs
  obtain ⟨t, h0, hs3⟩ := ai_jmp hs2
  intro lsC H locs hn hl hH hL hv
  obtain ⟨hv2, hv⟩ := List.forall_mem_cons.mp hv
  have he := an_le hv2 an_ok0
  have k := hs3 lsC H locs hn hl hH hL hv
  by_cases hp : x ≤ 0
  · rw [if_pos (show am_cmp .le x 0 = true from decide_eq_true hp)] at k
    exact lv_if_le hx hb hd h0 (fun _ => k) (fun q => absurd (he.mpr hp) q)
  · rw [if_neg (show ¬ am_cmp .le x 0 = true from fun q => hp (of_decide_eq_true q))] at k
    exact lv_if_le hx hb hd h0 (fun q => absurd (he.mp q) hp) (fun _ => k)
theorem as_tsw {df lo hi : Int} {offs : Array Int} {n : Nat} (hc : as_Cx p R s m args meth c w M d) (hd : decode M.2.2.1 pc = .ok (.tableswitch df lo hi offs, n)) (hs : am_stp C (as_X p l e R s m args below meth c w M Qf) Q (xs_do M (.tableswitch df lo hi offs) pc ls st h)) : as_X p l e R s m args below meth c w M Qf pc ls st h := by
  obtain ⟨hx, hb, hml, hown, hts, hK, hR, hnm⟩ := hc
  have hs : am_stp C _ Q (am_pI st fun x r => if x < lo ∨ hi < x then am_jmp pc df fun t => am_go t ls r h else am_opt (offs[(x - lo).toNat]?) fun off => am_jmp pc off fun t => am_go t ls r h) := hs
  obtain ⟨x, r, rfl, hs2⟩ := ai_pI hs
  intro lsC H locs hn hl hH hL hv
  obtain ⟨hv1, hv⟩ := List.forall_mem_cons.mp hv
  have e9 : (Int32.ofInt x).toInt = x := an_id hv1
  split at hs2
  · rename_i h0
    obtain ⟨t, h1, hs⟩ := ai_jmp hs2
    exact lv_tableOut hx hb hd (by rw [e9]; exact h0) h1 (hs lsC H locs hn hl hH hL hv)
  · rename_i h0
    obtain ⟨off, h2, hs⟩ := ai_opt hs2
    obtain ⟨t, h1, hs⟩ := ai_jmp hs
    exact lv_tableIn hx hb hd (by rw [e9]; exact fun q => h0 (Or.inl q)) (by rw [e9]; exact fun q => h0 (Or.inr q)) (by rw [e9]; exact h2) h1 (hs lsC H locs hn hl hH hL hv)
end
