/-! ===== the JDK's own, calls, ends; the whole ===== -/
def am_ws (M : am_M) : List Cond := Cond.code M.2.1 M.2.2.1 M.2.2.2.1 M.2.2.2.2.1 :: xr_wds
def am_rm (d : Nat) (M : am_M) : Room := { frames := d, cells := M.2.2.2.2.2.1, slots := M.2.2.2.2.2.2, locals := 64 * d }
def am_Pc (w : am_W) (as : List am_V) (h : am_H) : Array Value → State → Prop := fun args U => args = (as.map (am_cv w)).toArray ∧ am_HR w h U.heap ∧ am_KW w U ∧ ∀ v ∈ as, am_okv v
def am_Qc (w : am_W) (Q : am_Post) : Array Value → State → Outcome → State → Prop := fun _ _ o t => ∃ (v : Option am_V) (h : am_H), o = .returned (v.map (am_cv w)) ∧ am_HR w h t.heap ∧ Q v h ∧ ∀ x, v = some x → am_okv x
def am_fr (w : am_W) : Addr → Prop := fun q => aw_bs w ≤ q
theorem am_KW.warm {w : am_W} {s U : State} (hW : s.WarmedH U.vm) (h : am_KW w s) : am_KW w U := by
  obtain ⟨h1, h2, h3, h4, h5, h6, h7⟩ := h
  refine ⟨h1.moved hW.alike, fun a ha => ?_, fun a ha => (h3 a ha).moved hW.alike, h4.moved hW.alike, ?_, va_Nw.warmM hW h6, h7⟩
  · obtain ⟨cell, g1, g2, g3⟩ := h2 a ha
    exact ⟨cell, g1, State.isArrayOf_alike hW.alike g2, g3⟩
  · have hvm := hW.alike
    obtain ⟨comp, c, k, h1, h2, h3, h4, h5⟩ := arrayOverA_spec h5
    obtain ⟨k', hk', he⟩ := hvm.2.2 _ _ h3
    have hi : (U.vm.classes.findIdx? fun (x : Class) => match x.kind with | .array component _ => component == comp | _ => false) = some c := by
      rw [hvm.findIdx?_eq _ (fun _ => rfl)]
      exact h2
    have hkind : k'.kind = .array comp (.array .int) := by rw [he]; exact h4
    have f1 : U.vm.findClass (FieldType.array .int).toString = some comp := by rw [hvm.findClass]; exact h1
    have f2 : U.vm.findClass ("[" ++ (FieldType.array .int).toString) = some c := by rw [hvm.findClass]; exact h5
    unfold Cond.before Cond.holds
    simp only [Cond.value]
    rw [f1, Option.bind_some]
    refine (congrArg (fun o : Option Nat => (o.bind (fun c => (U.vm.classes[c]?).map fun (k : Class) => match k.kind with | .array _ ty => decide (ty = FieldType.array .int) && decide (U.vm.findClass ("[" ++ (FieldType.array .int).toString) = some c) | _ => false) == some true)) hi).trans ?_
    simp [hk', hkind, f2]
theorem am_blind (w : am_W) (as : List am_V) (h : am_H) : FrameBlind (am_Pc w as h) := fun a U g mk q => ⟨q.1, q.2.1, am_KW.warm (s := U) (U := U.calling g mk a) (State.WarmedH.refl U) q.2.2.1, q.2.2.2⟩
section
variable {p : Program} {l : Launch} {e : Env} {R : Room} {s : State} {m : MethodId} {args : Array Value} {below : List Frame} {meth : Method} {c : Code} {w : am_W} {M : am_M} {d : Nat} {Qf : State → Prop} {C : am_Cal} {Q : am_Post} {pc : Nat} {ls : am_L} {st : List am_V} {h : am_H}
theorem as_words (st : List am_V) : ((st.map (am_cv w)).map fun v => v.category).sum = am_words st := by
  unfold am_words
  rw [List.map_map]
  congr 1
  apply List.map_congr_left
  intro v _
  exact al_cat w v
theorem xs_mth {c k : Nat} {q : Nat × am_M × Nat} (h : xr_mth c k = some q) : ∃ js, xr_mthC (c, k, q.1, q.2.1, q.2.2, js) = true ∧ (q.1 ≤ 3 → Cond.code q.2.1.2.1 q.2.1.2.2.1 q.2.1.2.2.2.1 q.2.1.2.2.2.2.1 ∈ xr_wds) := by
  unfold xr_mth at h
  obtain ⟨e, he, rfl⟩ := Option.map_eq_some_iff.mp h
  obtain ⟨h1, h2⟩ := xr_find he
  have h3 := xr_mth_ok e h1
  have h4 := xr_code_ok e h1
  simp only [Bool.and_eq_true, beq_iff_eq] at h2
  obtain ⟨rfl, rfl⟩ := h2
  exact ⟨e.2.2.2.2.2, h3, h4⟩
/-- what the tables say of a method that is called -/
def xs_okM (M : am_M) (na : Nat) : Prop := Cond.initialized M.2.1.cls ∈ xr_wds ∧ M.2.1.cls = xr_R M.1 ∧ plainName M.2.1.cls = true ∧ M.2.1.cls ≠ "java/lang/invoke/MethodHandle" ∧ M.2.1.cls ≠ "java/lang/invoke/VarHandle" ∧ (parseMethodDescriptor M.2.1.desc).map (fun d => d.parameters.length) = some na ∧ M.2.2.2.1 ≤ 40
theorem xs_mok {M : am_M} {na a b : Nat} (h : xr_mokC M na a b = true) : xs_okM M na := by
  simp only [xr_mokC, Bool.and_eq_true, decide_eq_true_eq] at h
  obtain ⟨⟨⟨⟨⟨⟨h1, h2⟩, h3⟩, h4⟩, h5⟩, h6⟩, h7⟩ := h
  exact ⟨xr_wd_in h1, h2, h3, h4, h5, h6, h7⟩
theorem xs_m0 {c k na : Nat} {M : am_M} {js : List Nat} (h : xr_mthC (c, k, 0, M, na, js) = true) : xs_okM M (na - 1) ∧ Cond.methodLink (xr_R c) k M.2.1 ∈ xr_wds ∧ Cond.instanceMethod M.2.1 ∈ xr_wds ∧ Cond.selects (xr_R M.1) M.2.1 M.2.1 ∈ xr_wds := by
  rcases js with _ | ⟨a1, _ | ⟨a2, _ | ⟨a3, _ | ⟨a4, _ | ⟨a5, _ | ⟨a6, js⟩⟩⟩⟩⟩⟩ <;> first | (cases h; done) | skip
  simp only [xr_mthC, Bool.and_eq_true] at h
  obtain ⟨⟨⟨⟨h1, h2⟩, h3⟩, h4⟩, -⟩ := h
  exact ⟨xs_mok h1, xr_wd_in h2, xr_wd_in h3, xr_wd_in h4⟩
theorem xs_m1 {c k na : Nat} {M : am_M} {js : List Nat} (h : xr_mthC (c, k, 1, M, na, js) = true) : xs_okM M na ∧ Cond.methodLink (xr_R c) k M.2.1 ∈ xr_wds ∧ Cond.static M.2.1 ∈ xr_wds := by
  rcases js with _ | ⟨a1, _ | ⟨a2, _ | ⟨a3, _ | ⟨a4, _ | ⟨a5, _ | ⟨a6, js⟩⟩⟩⟩⟩⟩ <;> first | (cases h; done) | skip
  simp only [xr_mthC, Bool.and_eq_true] at h
  obtain ⟨⟨h1, h2⟩, h3⟩ := h
  exact ⟨xs_mok h1, xr_wd_in h2, xr_wd_in h3⟩
theorem xs_m2 {c k na : Nat} {M : am_M} {js : List Nat} (h : xr_mthC (c, k, 2, M, na, js) = true) : xs_okM M (na - 1) ∧ Cond.methodLink (xr_R c) k M.2.1 ∈ xr_wds ∧ Cond.instanceMethod M.2.1 ∈ xr_wds ∧ M.2.1.name = "<init>" ∧ M.2.2.2.2.1 = none := by
  rcases js with _ | ⟨a1, _ | ⟨a2, _ | ⟨a3, _ | ⟨a4, _ | ⟨a5, _ | ⟨a6, js⟩⟩⟩⟩⟩⟩ <;> first | (cases h; done) | skip
  simp only [xr_mthC, Bool.and_eq_true, decide_eq_true_eq] at h
  obtain ⟨⟨⟨⟨⟨h1, h2⟩, h3⟩, h4⟩, h5⟩, -⟩ := h
  exact ⟨xs_mok h1, xr_wd_in h2, xr_wd_in h3, h4, h5⟩
theorem xs_m3 {c k na : Nat} {M : am_M} {js : List Nat} (h : xr_mthC (c, k, 3, M, na, js) = true) : xs_okM M na ∧ (c = 3 ∧ k = 75 ∧ M.2.1 = yX6_power) ∧ Cond.static M.2.1 ∈ xr_wds := by
  rcases js with _ | ⟨a1, _ | ⟨a2, _ | ⟨a3, _ | ⟨a4, _ | ⟨a5, _ | ⟨a6, js⟩⟩⟩⟩⟩⟩ <;> first | (cases h; done) | skip
  simp only [xr_mthC, Bool.and_eq_true, decide_eq_true_eq] at h
  obtain ⟨⟨⟨h1, h2⟩, h3⟩, h4⟩ := h
  exact ⟨xs_mok h1, h4, xr_wd_in h3⟩
theorem xs_m4 {c k na : Nat} {M : am_M} {js : List Nat} (h : xr_mthC (c, k, 4, M, na, js) = true) : Cond.methodLink (xr_R c) k objectInit ∈ xr_wds := by
  rcases js with _ | ⟨a1, _ | ⟨a2, js⟩⟩ <;> first | (cases h; done) | skip
  exact xr_wd_in h
theorem xs_m5 {c k na : Nat} {M : am_M} {js : List Nat} (h : xr_mthC (c, k, 5, M, na, js) = true) : Cond.methodLink (xr_R c) k arraycopyName ∈ xr_wds := by
  rcases js with _ | ⟨a1, _ | ⟨a2, js⟩⟩ <;> first | (cases h; done) | skip
  exact xr_wd_in h
theorem xs_m6 {c k na : Nat} {M : am_M} {js : List Nat} (h : xr_mthC (c, k, 6, M, na, js) = true) : Cond.methodLink (xr_R c) k Lib.Math.max.name ∈ xr_wds := by
  rcases js with _ | ⟨a1, _ | ⟨a2, js⟩⟩ <;> first | (cases h; done) | skip
  exact xr_wd_in h
theorem xs_m7 {c k na : Nat} {M : am_M} {js : List Nat} (h : xr_mthC (c, k, 7, M, na, js) = true) : Cond.methodLink (xr_R c) k Lib.Math.min.name ∈ xr_wds := by
  rcases js with _ | ⟨a1, _ | ⟨a2, js⟩⟩ <;> first | (cases h; done) | skip
  exact xr_wd_in h
theorem xs_m8 {c k na : Nat} {M : am_M} {js : List Nat} (h : xr_mthC (c, k, 8, M, na, js) = true) : Cond.methodLink (xr_R c) k Lib.Math.abs.name ∈ xr_wds := by
  rcases js with _ | ⟨a1, _ | ⟨a2, js⟩⟩ <;> first | (cases h; done) | skip
  exact xr_wd_in h
end
