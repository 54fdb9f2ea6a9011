/-! ===== the whole: what the small machine does, the real one does ===== -/
/-- new int[n][k], as the library has it: given as a rule, proved behind -/
def am_MN (l : Launch) : Prop := ∀ {p : Program} {e : Env} {R : Room} {s : State} {m : MethodId} {args : Array Value} {below : List Frame} {meth : Method} {c : Code} {w : am_W} {M : am_M} {d : Nat} {Qf : State → Prop} {C : am_Cal} {Q : am_Post} {pc : Nat} {ls : am_L} {st : List am_V} {h : am_H} {ix : Nat},
  as_Cx p R s m args meth c w M d → decode M.2.2.1 pc = .ok (.multianewarray ix 2, 4) → am_stp C (as_X p l e R s m args below meth c w M Qf) Q (xs_do M (.multianewarray ix 2) pc ls st h) → as_X p l e R s m args below meth c w M Qf pc ls st h
section
variable {p : Program} {l : Launch} {e : Env} {R : Room} {s : State} {m : MethodId} {args : Array Value} {below : List Frame} {meth : Method} {c : Code} {w : am_W} {M : am_M} {d : Nat} {Qf : State → Prop} {C : am_Cal} {Q : am_Post} {pc : Nat} {ls : am_L} {st : List am_V} {h : am_H}
/-- an end of the method, in the real machine -/
def as_End (p : Program) (l : Launch) (e : Env) (R : Room) (s : State) (m : MethodId) (args : Array Value) (below : List Frame) (meth : Method) (c : Code) (w : am_W) (M : am_M) (Qf : State → Prop) (Q : am_Post) : Prop :=
  (∀ (z : Int) (h : am_H) (pc : Nat) (lsC : Array Slot) (H : Heap) (locs : List Loc), decode M.2.2.1 pc = .ok (.ireturn, 1) → h.2.1 ≤ M.2.2.2.2.2.1 → h.2.2.1 ≤ M.2.2.2.2.2.2 → (M.2.2.2.2.1 = some .int ∨ (M.2.2.2.2.1 = some .boolean ∧ (z = 0 ∨ z = 1))) → am_ok z → Q (some (am_i z)) h → am_HR w h H → (∀ q ∈ locs, aw_bs w ≤ q.base) → W p l e R s m args below meth c H locs h.2.1 h.2.2.1 Qf (F0 m pc lsC [.int (Int32.ofInt z)])) ∧
  (∀ (h : am_H) (pc : Nat) (lsC : Array Slot) (H : Heap) (locs : List Loc), decode M.2.2.1 pc = .ok (.return_, 1) → h.2.1 ≤ M.2.2.2.2.2.1 → h.2.2.1 ≤ M.2.2.2.2.2.2 → M.2.2.2.2.1 = none → Q none h → am_HR w h H → (∀ q ∈ locs, aw_bs w ≤ q.base) → W p l e R s m args below meth c H locs h.2.1 h.2.2.1 Qf (F0 m pc lsC []))
theorem as_invokevirtual {ix : Nat} (hI : am_Snd l w d C) (hc : as_Cx p R s m args meth c w M d) (hd : decode M.2.2.1 pc = .ok (.invokevirtual ix, 3)) (hs : am_stp C (as_X p l e R s m args below meth c w M Qf) Q (xs_do M (.invokevirtual ix) pc ls st h)) : as_X p l e R s m args below meth c w M Qf pc ls st h := by
  obtain ⟨q, hq, hs2⟩ := ai_opt hs
  obtain ⟨⟨hq0, hq1⟩, hs3⟩ := ai_if hs2
  obtain ⟨js, hj, hcw⟩ := xs_mth hq
  split at hs3
  · rename_i a r hst
    obtain ⟨ki, ni, rs, hsh, hs4⟩ := ai_sh hs3
    obtain ⟨⟨h3, hki, h100⟩, hs5⟩ := ai_if hs4
    rw [hq0] at hj
    exact as_callV hI hc hd hj (hcw (by omega)) hq1 hst hsh h3 hki h100 hs5
  · exact hs3.elim
theorem as_invokestatic {ix : Nat} (hI : am_Snd l w d C) (hc : as_Cx p R s m args meth c w M d) (hd : decode M.2.2.1 pc = .ok (.invokestatic ix, 3)) (hs : am_stp C (as_X p l e R s m args below meth c w M Qf) Q (xs_do M (.invokestatic ix) pc ls st h)) : as_X p l e R s m args below meth c w M Qf pc ls st h := by
  obtain ⟨q, hq, hs2⟩ := ai_opt hs
  obtain ⟨js, hj, hcw⟩ := xs_mth hq
  by_cases h5 : q.1 = 5
  · rw [if_pos h5] at hs2
    rw [h5] at hj
    exact as_acp hc hd hj hs2
  rw [if_neg h5] at hs2
  by_cases h6 : q.1 = 6
  · refine as_math (C := C) (Q := Q) hc hd hq (Or.inl h6) ?_
    rw [if_pos h6] at hs2 ⊢
    exact hs2
  by_cases h7 : q.1 = 7
  · refine as_math (C := C) (Q := Q) hc hd hq (Or.inr (Or.inl h7)) ?_
    rw [if_neg h6, if_pos h7] at hs2 ⊢
    exact hs2
  by_cases h8 : q.1 = 8
  · refine as_math (C := C) (Q := Q) hc hd hq (Or.inr (Or.inr h8)) ?_
    rw [if_neg h6, if_neg h7, if_pos h8] at hs2
    rw [if_neg h6, if_neg h7]
    exact hs2
  rw [if_neg h6, if_neg h7, if_neg h8] at hs2
  obtain ⟨h13, hs3⟩ := ai_if hs2
  rcases h13 with h1 | h3
  · rw [h1] at hj
    exact as_callS hI hc hd hj (hcw (by omega)) hs3
  · rw [h3] at hj
    exact as_callN hI hc hd hj (hcw (by omega)) hs3
theorem as_invokespecial {ix : Nat} (hI : am_Snd l w d C) (hc : as_Cx p R s m args meth c w M d) (hd : decode M.2.2.1 pc = .ok (.invokespecial ix, 3)) (hs : am_stp C (as_X p l e R s m args below meth c w M Qf) Q (xs_do M (.invokespecial ix) pc ls st h)) : as_X p l e R s m args below meth c w M Qf pc ls st h := by
  obtain ⟨q, hq, hs2⟩ := ai_opt hs
  obtain ⟨js, hj, hcw⟩ := xs_mth hq
  by_cases h4 : q.1 = 4
  · rw [if_pos h4] at hs2
    rw [h4] at hj
    obtain ⟨a, r, rfl, hs3⟩ := ai_pR hs2
    obtain ⟨hwd, hs4⟩ := ai_if hs3
    obtain ⟨hx, hb, hml, hown, hts, hK, hR, hnm⟩ := hc
    intro lsC H locs hn hl hH hL hv
    obtain ⟨-, hvB⟩ := List.forall_mem_cons.mp hv
    exact W.objInit hx hb hown (hts _ (xs_m4 hj)) (hts _ (as_misc (by decide +kernel))) (hts _ xr_objcode) rfl (by rw [hml, ← hn]; exact hl.1.1) rfl hd (by have := hR.1; omega) (by
      have h2 := as_words (w := w) r
      have := hR.2.1
      show 2 * 0 + _ + 12 ≤ _
      rw [h2]
      omega) (hs4 lsC H locs hn hl hH hL hvB)
  rw [if_neg h4] at hs2
  obtain ⟨⟨hq0, hq1⟩, hs3⟩ := ai_if hs2
  split at hs3
  · rename_i a r hst
    rw [hq0] at hj
    exact as_callI hI hc hd hj (hcw (by omega)) hq1 hst hs3
  · exact hs3.elim
/-- one step -/
theorem as_closed (hMN : am_MN l) (hI : am_Snd l w d C) (hc : as_Cx p R s m args meth c w M d) (hE : as_End p l e R s m args below meth c w M Qf Q) (hs : am_stp C (as_X p l e R s m args below meth c w M Qf) Q (xs_step M pc ls st h)) : as_X p l e R s m args below meth c w M Qf pc ls st h := by
  have hs : am_stp C (as_X p l e R s m args below meth c w M Qf) Q (am_step xr_fld xr_mth xr_cst xr_csl xr_new xr_gst xr_ref xr_num xr_fin M pc ls st h) := hs
  unfold am_step at hs
  cases hd : decode M.2.2.1 pc with
  | error x => rw [hd] at hs; exact hs.elim
  | ok q =>
    rw [hd] at hs
    obtain ⟨hlen, hs⟩ := ai_if hs
    obtain ⟨i, n⟩ := q
    dsimp only at hlen hs
    have hs : am_stp C (as_X p l e R s m args below meth c w M Qf) Q (xs_do M i pc ls st h) := hs
    cases i with
    | iconst v => have hlen : n = 1 := hlen; subst hlen; exact as_iconst hc hd hs
    | bipush v => have hlen : n = 2 := hlen; subst hlen; exact as_bipush hc hd hs
    | sipush v => have hlen : n = 3 := hlen; subst hlen; exact as_sipush hc hd hs
    | ldc ix => have hlen : n = 2 := hlen; subst hlen; exact as_ldc hc hd hs
    | ldc_w ix => have hlen : n = 3 := hlen; subst hlen; exact as_ldc_w hc hd hs
    | ldc2_w ix => have hlen : n = 3 := hlen; subst hlen; exact as_ldc2_w hc hd hs
    | iload ix => have hlen : n = 2 := hlen; subst hlen; exact as_iload hc hd hs
    | iload_n ix => have hlen : n = 1 := hlen; subst hlen; exact as_iload_n hc hd hs
    | lload ix => have hlen : n = 2 := hlen; subst hlen; exact as_lload hc hd hs
    | lload_n ix => have hlen : n = 1 := hlen; subst hlen; exact as_lload_n hc hd hs
    | aload ix => have hlen : n = 2 := hlen; subst hlen; exact as_aload hc hd hs
    | aload_n ix => have hlen : n = 1 := hlen; subst hlen; exact as_aload_n hc hd hs
    | istore ix => have hlen : n = 2 := hlen; subst hlen; exact as_istore hc hd hs
    | istore_n ix => have hlen : n = 1 := hlen; subst hlen; exact as_istore_n hc hd hs
    | lstore ix => have hlen : n = 2 := hlen; subst hlen; exact as_lstore hc hd hs
    | lstore_n ix => have hlen : n = 1 := hlen; subst hlen; exact as_lstore_n hc hd hs
    | astore ix => have hlen : n = 2 := hlen; subst hlen; exact as_astore hc hd hs
    | astore_n ix => have hlen : n = 1 := hlen; subst hlen; exact as_astore_n hc hd hs
    | iinc ix k => have hlen : n = 3 := hlen; subst hlen; exact as_iinc hc hd hs
    | iadd => have hlen : n = 1 := hlen; subst hlen; exact as_iadd hc hd hs
    | isub => have hlen : n = 1 := hlen; subst hlen; exact as_isub hc hd hs
    | imul => have hlen : n = 1 := hlen; subst hlen; exact as_imul hc hd hs
    | idiv => have hlen : n = 1 := hlen; subst hlen; exact as_idiv hc hd hs
    | irem => have hlen : n = 1 := hlen; subst hlen; exact as_irem hc hd hs
    | ineg => have hlen : n = 1 := hlen; subst hlen; exact as_ineg hc hd hs
    | iand => have hlen : n = 1 := hlen; subst hlen; exact as_iand hc hd hs
    | ior => have hlen : n = 1 := hlen; subst hlen; exact as_ior hc hd hs
    | ixor => have hlen : n = 1 := hlen; subst hlen; exact as_ixor hc hd hs
    | ishl => have hlen : n = 1 := hlen; subst hlen; exact as_ishl hc hd hs
    | ishr => have hlen : n = 1 := hlen; subst hlen; exact as_ishr hc hd hs
    | iushr => have hlen : n = 1 := hlen; subst hlen; exact as_iushr hc hd hs
    | i2b => have hlen : n = 1 := hlen; subst hlen; exact as_i2b hc hd hs
    | i2s => have hlen : n = 1 := hlen; subst hlen; exact as_i2s hc hd hs
    | i2l => have hlen : n = 1 := hlen; subst hlen; exact as_i2l hc hd hs
    | l2i => have hlen : n = 1 := hlen; subst hlen; exact as_l2i hc hd hs
    | lmul => have hlen : n = 1 := hlen; subst hlen; exact as_lmul hc hd hs
    | lrem => have hlen : n = 1 := hlen; subst hlen; exact as_lrem hc hd hs
    | dup => have hlen : n = 1 := hlen; subst hlen; exact as_dup hc hd hs
    | pop => have hlen : n = 1 := hlen; subst hlen; exact as_pop hc hd hs
    | dup2 => have hlen : n = 1 := hlen; subst hlen; exact as_dup2 hc hd hs
    | goto off => have hlen : n = 3 := hlen; subst hlen; exact as_goto hc hd hs
    | if_icmp cn off =>
      have hlen : n = 3 := hlen
      subst hlen
      cases cn with
      | eq => exact as_icmp_eq hc hd hs
      | ne => exact as_icmp_ne hc hd hs
      | lt => exact as_icmp_lt hc hd hs
      | ge => exact as_icmp_ge hc hd hs
      | gt => exact as_icmp_gt hc hd hs
      | le => exact as_icmp_le hc hd hs
    | ifCond cn off =>
      have hlen : n = 3 := hlen
      subst hlen
      cases cn with
      | eq => exact as_if_eq hc hd hs
      | ne => exact as_if_ne hc hd hs
      | lt => exact as_if_lt hc hd hs
      | ge => exact as_if_ge hc hd hs
      | gt => exact as_if_gt hc hd hs
      | le => exact as_if_le hc hd hs
    | tableswitch df lo hi offs => exact as_tsw hc hd hs
    | getfield ix => have hlen : n = 3 := hlen; subst hlen; exact as_getfield hc hd hs
    | putfield ix => have hlen : n = 3 := hlen; subst hlen; exact as_putfield hc hd hs
    | getstatic ix => have hlen : n = 3 := hlen; subst hlen; exact as_getstatic hc hd hs
    | iaload => have hlen : n = 1 := hlen; subst hlen; exact as_iaload hc hd hs
    | baload => have hlen : n = 1 := hlen; subst hlen; exact as_baload hc hd hs
    | aaload => have hlen : n = 1 := hlen; subst hlen; exact as_aaload hc hd hs
    | iastore => have hlen : n = 1 := hlen; subst hlen; exact as_iastore hc hd hs
    | bastore => have hlen : n = 1 := hlen; subst hlen; exact as_bastore hc hd hs
    | aastore => have hlen : n = 1 := hlen; subst hlen; exact as_aastore hc hd hs
    | arraylength => have hlen : n = 1 := hlen; subst hlen; exact as_arraylength hc hd hs
    | new ix => have hlen : n = 3 := hlen; subst hlen; exact as_new hc hd hs
    | newarray ty => have hlen : n = 2 := hlen; subst hlen; exact as_newarray hc hd hs
    | anewarray ix => have hlen : n = 3 := hlen; subst hlen; exact as_anewarray hc hd hs
    | multianewarray ix dm =>
      have hlen : n = 4 := hlen
      subst hlen
      match dm, hd, hs with
      | 2, hd, hs => exact hMN hc hd hs
      | 0, hd, hs => exact hs.elim
      | 1, hd, hs => exact hs.elim
      | k + 3, hd, hs => exact hs.elim
    | invokevirtual ix => have hlen : n = 3 := hlen; subst hlen; exact as_invokevirtual hI hc hd hs
    | invokestatic ix => have hlen : n = 3 := hlen; subst hlen; exact as_invokestatic hI hc hd hs
    | invokespecial ix => have hlen : n = 3 := hlen; subst hlen; exact as_invokespecial hI hc hd hs
    | ireturn =>
      have hlen : n = 1 := hlen
      subst hlen
      rcases st with _ | ⟨v, _ | ⟨u, r⟩⟩
      · exact hs.elim
      · rcases v with z | z | a
        · have hs2 : am_stp C (as_X p l e R s m args below meth c w M Qf) Q (am_if (h.2.1 ≤ M.2.2.2.2.2.1 ∧ h.2.2.1 ≤ M.2.2.2.2.2.2 ∧ (M.2.2.2.2.1 = some .int ∨ (M.2.2.2.2.1 = some .boolean ∧ (z = 0 ∨ z = 1)))) <| some (Sum.inr (Sum.inl (some (am_i z), h)))) := hs
          have hs3 := ai_if hs2
          intro lsC H locs hn hl hH hL hv
          exact hE.1 z h pc lsC H locs hd hs3.1.1 hs3.1.2.1 hs3.1.2.2 (hv _ List.mem_cons_self) hs3.2 hH hL
        · exact hs.elim
        · exact hs.elim
      · rcases v with z | z | a <;> exact hs.elim
    | return_ =>
      have hlen : n = 1 := hlen
      subst hlen
      rcases st with _ | ⟨v, r⟩
      · have hs2 : am_stp C (as_X p l e R s m args below meth c w M Qf) Q (am_if (h.2.1 ≤ M.2.2.2.2.2.1 ∧ h.2.2.1 ≤ M.2.2.2.2.2.2 ∧ M.2.2.2.2.1 = none) <| some (Sum.inr (Sum.inl (none, h)))) := hs
        have hs3 := ai_if hs2
        intro lsC H locs hn hl hH hL hv
        exact hE.2 h pc lsC H locs hd hs3.1.1 hs3.1.2.1 hs3.1.2.2 hs3.2 hH hL
      · exact hs.elim
    | _ => exact hs.elim
/-- from any point -/
theorem as_walk (hMN : am_MN l) (hI : am_Snd l w d (xs_aw d)) (hc : as_Cx p R s m args meth c w M d) (hE : as_End p l e R s m args below meth c w M Qf Q) (hs : xs_AW (xs_aw d) M Q pc ls st h) : as_X p l e R s m args below meth c w M Qf pc ls st h :=
  hs (as_X p l e R s m args below meth c w M Qf) (fun _ _ _ _ k => as_closed hMN hI hc hE k)
end
/-- every method, by its depth -/
theorem as_sound (l : Launch) (w : am_W) (hMN : am_MN l) : ∀ d : Nat, am_Snd l w d (xs_aw d)
  | 0 => fun M as h Q hf hs => hs.elim
  | d + 1 => fun M as h Q hf hs => by
    obtain ⟨f1, f2, f3⟩ := hf
    refine Met.ofW (cc := M.2.2.1) (maxL := M.2.2.2.1) (ret := M.2.2.2.2.1) f3 rfl ?_
    intro p e s m args below meth c s₁ B hml hP
    obtain ⟨rfl, hH, hK, hv⟩ := hP
    have hts : ∀ x ∈ am_ws M, x.before _ s = true := atoms_spec (ws := am_ws M) B.pre
    have hown : s.vm.findClass (xr_R M.1) = some m.cls := f2 ▸ findClass_of_methodNamed B.named
    have hlocks := B.notSynchronized
    have hr := B.returns
    rw [lg_entry_eq]
    refine as_walk (pc := 0) (d := d) (M := M) (Q := Q) (ls := am_ent M.2.2.2.1 as) (st := []) (h := (h.1, 0, 0, h.2.2.2)) (Qf := _) hMN (as_sound l w hMN d) ⟨B.exec, B.bytes, hml, hown, fun x hx => hts x (List.mem_cons_of_mem _ hx), hK, ⟨Nat.le_refl _, Nat.le_refl _, rfl, rfl⟩, (name_of_methodNamed B.named B.method).1⟩ ⟨?_, ?_⟩ hs _ _ [] (al_ent_len f1) (al_entry f1 hv) hH (fun q hq => by cases hq) (fun v hv => by cases hv)
    · intro z h' pc lsC H locs hd h1 h2 h3 hz hQ hH' hL'
      refine W.widen h1 h2 ?_
      have hq : ∀ t : State, t.heap = H → s.WarmedH t.vm → am_Qc w Q (as.map (am_cv w)).toArray s (.returned (some (.int (Int32.ofInt z)))) t := fun t ht hW => ⟨some (am_i z), h', rfl, by rw [ht]; exact hH', hQ, fun x hx => by cases hx; exact hz⟩
      rcases h3 with h3 | ⟨h3, hz01⟩
      · exact W.iret B.exec B.bytes (hr.trans h3) hq hL' hd
      · exact W.zret (ty := .boolean) B.exec B.bytes (hr.trans h3) (by rcases hz01 with rfl | rfl <;> decide +kernel) hq hL' hd
    · intro h' pc lsC H locs hd h1 h2 h3 hQ hH' hL'
      refine W.widen h1 h2 ?_
      exact W.vret B.exec B.bytes (hr.trans h3) (fun t ht hW => ⟨none, h', rfl, by rw [ht]; exact hH', hQ, fun x hx => by cases hx⟩) hL' hd
