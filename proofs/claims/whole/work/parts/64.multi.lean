/-! new int[n][k], by the library's own law -/
theorem ax_arr2 : "[" ++ (FieldType.array FieldType.int).toString = "[[I" := by decide +kernel
theorem ax_outer_go (cA : ClassId) (N h0 : Nat) : ∀ i : Nat, Jvm.Free.Multi.outerC cA N h0 i = arrV cA N (fun j => if j < i then .ref (h0 + 1 + j) else .null)
  | 0 => by
    show ({ cls := cA, slots := Array.replicate N .null, vm := .none } : Cell) = _
    rw [arrV_new]
    rfl
  | i + 1 => by
    show (Jvm.Free.Multi.outerC cA N h0 i).setSlot i (.ref (h0 + 1 + i)) = _
    rw [ax_outer_go cA N h0 i, arrV_store]
    congr 1
    funext q
    unfold updV
    by_cases hq : q = i
    · subst hq
      simp
    · simp only [if_neg hq]
      by_cases hl : q < i
      · rw [if_pos hl, if_pos (by omega)]
      · rw [if_neg hl, if_neg (by omega)]
theorem ax_outer (cA : ClassId) (N h0 : Nat) : Jvm.Free.Multi.outerC cA N h0 N = arrV cA N (fun j => .ref (h0 + 1 + j)) := by
  rw [ax_outer_go]
  unfold arrV
  congr 2
  funext j
  exact if_pos j.isLt
theorem ax_mnew {p : Program} {l : Launch} {e : Env} {R : Room} {s : State} {m : MethodId} {args : Array Value} {below : List Frame} {meth : Method} {c : Code} {H : Heap} {locs : List Loc} {cells slots : Nat} {Q : State → Prop} {cc : ByteArray} (hexec : p.tables.exec = Jvm.exec) (hb : c.code = cc) {own : String} {index : Nat} (hown : s.vm.findClass own = some m.cls) (hclink : (Cond.classLink own index "[[I").before args s = true) (hover : (Cond.arrayOver (.array .int)).before args s = true) (harr : (Cond.arrayClass .int).before args s = true) {g : JFrame} (hg : g.method = m) (hdg : decode cc g.pc = .ok (.multianewarray index 2, 4)) {n k : Int32} {rest : List Value} (hstack : g.stack = .int k :: .int n :: rest) (hn : ¬ n < 0) (hk : ¬ k < 0) {N K : Nat} (hN : n.toNatClampNeg = N) (hK : k.toNatClampNeg = K) (hN1 : N ≤ 100000) (hK1 : K ≤ 100000) (hcells : cells + (1 + N) ≤ R.cells) (hslots : slots + (N + N * K) ≤ R.slots)
    (kk : ∀ (cA comp : ClassId) (H1 : Heap), s.vm.findClass ("[" ++ (FieldType.array FieldType.int).toString) = some cA → s.vm.findClass (FieldType.array FieldType.int).toString = some comp → H1.size = H.size + (1 + N) → (∀ q, q < H.size → H1[q]? = H[q]?) → H1[H.size]? = some (arrV cA N (fun j => .ref (H.size + 1 + j))) → (∀ j, j < N → H1[H.size + 1 + j]? = some (arrV comp K (fun _ => .int 0))) → W p l e R s m args below meth c H1 locs (cells + (1 + N)) (slots + (N + N * K)) Q { g with pc := g.pc + 4, stack := .ref H.size :: rest }) : W p l e R s m args below meth c H locs cells slots Q g := by
  intro T hT X
  subst hT hb hN hK
  obtain ⟨vm₁, cA, comp, hW, hfA, hfC, hO, hI, X1, step⟩ := X.multianewarray2F hexec hown (by rw [ax_arr2]; exact hclink) hover harr hg hdg hstack hn hk (by omega) (by show k.toNatClampNeg * 4 ≤ _; omega) (by omega) rfl rfl hcells hslots
  obtain ⟨f1, f2, f3, f4⟩ := Jvm.Free.Multi.fill_facts (T.setVm vm₁) cA comp n.toNatClampNeg k.toNatClampNeg (defaultValue .int) n.toNatClampNeg
  have f5 := fun (a : Addr) (ha : a < T.heap.size) => Jvm.Free.Multi.fill_old (T.setVm vm₁) cA comp n.toNatClampNeg k.toNatClampNeg (defaultValue .int) (a := a) ha n.toNatClampNeg
  have f6 := Jvm.Free.Multi.fill_inner (T.setVm vm₁) cA comp n.toNatClampNeg k.toNatClampNeg (defaultValue .int) n.toNatClampNeg
  rw [ax_outer] at f2
  rw [show cells + 1 + n.toNatClampNeg = cells + (1 + n.toNatClampNeg) by omega, show slots + n.toNatClampNeg + n.toNatClampNeg * k.toNatClampNeg = slots + (n.toNatClampNeg + n.toNatClampNeg * k.toNatClampNeg) by omega] at X1
  obtain ⟨t, a1, b1⟩ := kk cA comp _ hfA hfC (f1.trans (by show T.heap.size + 1 + _ = T.heap.size + _; omega)) f5 f2 (fun j hj => (f6 j hj).trans (congrArg some (arrV_new comp k.toNatClampNeg (.int 0)))) _ rfl X1
  exact ⟨t, step t a1, b1⟩
theorem am_mn (l : Launch) : am_MN l := by
  intro p e R s m args below meth c w M d Qf C Q pc ls st h ix hc hd hs
  obtain ⟨hx, hb, hml, hown, hts, hK, hR, hnm⟩ := hc
  obtain ⟨x, y, r, rfl, hs2⟩ := ai_pII hs
  obtain ⟨⟨hx0, hy0, hx1, hy1, hq⟩, hs3⟩ := ai_if hs2
  have hs3 : am_stp C (as_X p l e R s m args below meth c w M Qf) Q (am_new2 M x.toNat y.toNat pc ls r h) := hs3
  unfold am_new2 at hs3
  obtain ⟨⟨hc1, hc2⟩, hs4⟩ := ai_if hs3
  obtain ⟨-, hlink⟩ := xs_new hq
  rw [if_pos rfl] at hlink
  intro lsC H locs hn hl hH hL hv
  obtain ⟨hvy, hvA⟩ := List.forall_mem_cons.mp hv
  obtain ⟨hvx, hvB⟩ := List.forall_mem_cons.mp hvA
  have hvy : am_ok y := hvy
  have hvx : am_ok x := hvx
  refine ax_mnew hx hb hown (hts _ hlink) hK.2.2.2.2.1 (hts _ (as_misc List.mem_cons_self)) rfl hd (n := Int32.ofInt x) (k := Int32.ofInt y) rfl (fun q => by rw [an_lt0 hvx] at q; omega) (fun q => by rw [an_lt0 hvy] at q; omega) (an_cl hvx) (an_cl hvy) (by omega) (by omega) (by rw [hR.2.2.1]; exact hc1) (by rw [hR.2.2.2]; exact hc2) fun cA comp H1 fA fC z1 o1 eo ei => ?_
  have r3 : s.vm.findClass ("[" ++ (FieldType.array FieldType.int).toString) = some (aw_cy w 103) := (hK.1.2 3 _ rfl).2
  have r0 : s.vm.findClass ("[" ++ FieldType.int.toString) = some (aw_cy w 100) := (hK.1.2 0 _ rfl).2
  have ec : cA = aw_cy w 103 := Option.some.inj (fA.symm.trans r3)
  have ec2 : comp = aw_cy w 100 := Option.some.inj (fC.symm.trans r0)
  subst ec ec2
  have k := hs4 lsC H1 locs hn hl (by
    have hh := ah_app (c' := h.2.1 + (1 + x.toNat)) (s' := h.2.2.1 + (x.toNat + x.toNat * y.toNat)) (es := (103, x.toNat, (List.range x.toNat).map (fun i => h.1.length + 2 + i)) :: List.replicate x.toNat (100, y.toNat, [])) hH (by rw [z1, List.length_cons, List.length_replicate]; omega) o1 (fun i en hi => ?_)
    · rw [List.length_cons, List.length_replicate, Nat.add_comm x.toNat 1] at hh
      exact hh
    · cases i with
      | zero =>
        cases hi
        refine ⟨?_, fun q => absurd q (show ¬ 103 < 100 by decide)⟩
        rw [ah_en_rfs (show ¬ 103 < 100 by decide) (show ¬ 103 < 102 by decide)]
        show H1[H.size + 0]? = some (vp_cell _ _)
        rw [Nat.add_zero, eo, vp_cell_q]
        congr 1
        unfold arrV
        congr 2
        funext j
        have hj : j.val < x.toNat := j.isLt
        show Value.ref (H.size + 1 + j.val) = va_rf (am_rf w (((List.range x.toNat).map (fun i => h.1.length + 2 + i)).getD j.val 0))
        have e1 : ((List.range x.toNat).map (fun i => h.1.length + 2 + i)).getD j.val 0 = (h.1.length + 1 + j.val) + 1 := by
          rw [List.getD_eq_getElem?_getD, List.getElem?_map, List.getElem?_range hj]
          show h.1.length + 2 + j.val = _
          omega
        rw [e1]
        show Value.ref (H.size + 1 + j.val) = Value.ref (am_ad w (h.1.length + 1 + j.val))
        obtain ⟨g1, g2⟩ := hH.2.2.1
        rw [ah_ad (show 3 ≤ h.1.length + 1 + j.val by omega), g2]
        exact congrArg Value.ref (show aw_bs w + (h.1.length - 3) + 1 + j.val = aw_bs w + (h.1.length + 1 + j.val - 3) by omega)
      | succ i =>
        rw [List.getElem?_cons_succ, List.getElem?_replicate] at hi
        by_cases hlt : i < x.toNat
        · rw [if_pos hlt] at hi
          cases hi
          refine ⟨?_, fun q => absurd q (show ¬ 100 < 100 by decide)⟩
          rw [ah_en_arr (show ¬ 100 < 100 by decide) (show 100 < 102 by decide)]
          show H1[H.size + (i + 1)]? = some (vp_cell _ _)
          rw [show H.size + (i + 1) = H.size + 1 + i by omega, ei i hlt]
          rfl
        · rw [if_neg hlt] at hi
          cases hi) hL (List.forall_mem_cons.mpr ⟨trivial, hvB⟩)
  rw [List.map_cons, show am_cv w (am_r h.1.length) = .ref H.size from congrArg Value.ref (as_ad_len hH)] at k
  exact k
