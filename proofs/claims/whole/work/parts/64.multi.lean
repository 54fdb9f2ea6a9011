/-! new int[n][k], out of the model's own text of the instruction, by the library's laws of its words (nothing of Shelf42) -/
theorem ax_arr2 : "[" ++ (FieldType.array FieldType.int).toString = "[[I" := by decide +kernel
/-- i cells alike behind a state -/
def ax_pn (x : Cell) : Nat → State → State
  | 0, s => s
  | i + 1, s => (ax_pn x i s).pushCell x
theorem ax_pn_size (x : Cell) (s : State) : ∀ i : Nat, (ax_pn x i s).heap.size = s.heap.size + i
  | 0 => rfl
  | i + 1 => by
    show ((ax_pn x i s).heap.push x).size = _
    rw [Array.size_push, ax_pn_size x s i]
    omega
theorem ax_pn_used (x : Cell) (s : State) : ∀ i : Nat, (ax_pn x i s).slotsUsed = s.slotsUsed + i * x.slots.size
  | 0 => by
    show s.slotsUsed = _
    omega
  | i + 1 => by
    show (ax_pn x i s).slotsUsed + x.slots.size = _
    rw [ax_pn_used x s i, Nat.succ_mul]
    omega
theorem ax_pn_vm (x : Cell) (s : State) : ∀ i : Nat, (ax_pn x i s).vm = s.vm
  | 0 => rfl
  | i + 1 => ax_pn_vm x s i
theorem ax_pn_fits (x : Cell) (s : State) : ∀ i : Nat, (ax_pn x i s).fitsSlot = s.fitsSlot
  | 0 => rfl
  | i + 1 => ax_pn_fits x s i
theorem ax_pn_top (x : Cell) (s : State) : ∀ i : Nat, (ax_pn x i s).topJava? = s.topJava?
  | 0 => rfl
  | i + 1 => ax_pn_top x s i
theorem ax_pn_old (x : Cell) (s : State) {q : Nat} (h : q < s.heap.size) : ∀ i : Nat, (ax_pn x i s).heap[q]? = s.heap[q]?
  | 0 => rfl
  | i + 1 => by
    show ((ax_pn x i s).heap.push x)[q]? = _
    rw [Array.getElem?_push, if_neg (by rw [ax_pn_size]; omega), ax_pn_old x s h i]
theorem ax_pn_new (x : Cell) (s : State) {j : Nat} : ∀ i : Nat, j < i → (ax_pn x i s).heap[s.heap.size + j]? = some x
  | 0, h => absurd h (by omega)
  | i + 1, h => by
    show ((ax_pn x i s).heap.push x)[s.heap.size + j]? = _
    rw [Array.getElem?_push, ax_pn_size]
    by_cases e : j = i
    · subst e
      rw [if_pos rfl]
    · rw [if_neg (by omega), ax_pn_new x s i (by omega)]
theorem ax_pn_setTop (x : Cell) (s : State) (f : JFrame) : ∀ i : Nat, ax_pn x i (s.setTop f) = (ax_pn x i s).setTop f
  | 0 => rfl
  | i + 1 => by
    show (ax_pn x i (s.setTop f)).pushCell x = _
    rw [ax_pn_setTop x s f i]
    rfl
theorem ax_push_set {s : State} {x y : Cell} {a : Nat} (h : a < s.heap.size) : (s.pushCell x).setCell a y = (s.setCell a y).pushCell x := by
  show ({ s with heap := (s.heap.push x).setIfInBounds a y, slotsUsed := s.slotsUsed + x.slots.size } : State) = { s with heap := (s.heap.setIfInBounds a y).push x, slotsUsed := s.slotsUsed + x.slots.size }
  have e : (s.heap.push x).setIfInBounds a y = (s.heap.setIfInBounds a y).push x := by
    apply Array.ext_getElem?
    intro i
    rw [Array.getElem?_setIfInBounds, Array.getElem?_push, Array.getElem?_push, Array.getElem?_setIfInBounds, Array.size_push, Array.size_setIfInBounds]
    by_cases q : a = i
    · subst q
      rw [if_pos rfl, if_pos (by omega), if_neg (by omega), if_pos rfl, if_pos h]
    · rw [if_neg q, if_neg q]
  rw [e]
theorem ax_push_last {s : State} {x y : Cell} (h : x.slots.size = y.slots.size) : (s.pushCell x).setCell s.heap.size y = s.pushCell y := by
  show ({ s with heap := (s.heap.push x).setIfInBounds s.heap.size y, slotsUsed := s.slotsUsed + x.slots.size } : State) = { s with heap := s.heap.push y, slotsUsed := s.slotsUsed + y.slots.size }
  have e : (s.heap.push x).setIfInBounds s.heap.size y = s.heap.push y := by
    apply Array.ext_getElem?
    intro i
    rw [Array.getElem?_setIfInBounds, Array.getElem?_push, Array.getElem?_push, Array.size_push]
    by_cases q : i = s.heap.size
    · subst q
      rw [if_pos rfl, if_pos (by omega), if_pos rfl]
    · rw [if_neg (fun p => q p.symm), if_neg q, if_neg q]
  rw [e, h]
theorem ax_pn_set (x y : Cell) (s : State) {a : Nat} (h : a < s.heap.size) : ∀ i : Nat, (ax_pn x i s).setCell a y = ax_pn x i (s.setCell a y)
  | 0 => rfl
  | i + 1 => by
    show ((ax_pn x i s).pushCell x).setCell a y = (ax_pn x i (s.setCell a y)).pushCell x
    rw [ax_push_set (by rw [ax_pn_size]; omega), ax_pn_set x y s h i]
theorem ax_pn_stand {p : Program} {l : Launch} {e : Env} {R : Room} {s : State} {m : MethodId} {args : Array Value} {below : List Frame} {meth : Method} {c : Code} {T : State} {locs : List Loc} {cells slots : Nat} (X : Stand p l e R s m args below meth c T locs cells slots) (x : Cell) : ∀ i : Nat, Stand p l e R s m args below meth c (ax_pn x i T) locs (cells + i) (slots + i * x.slots.size)
  | 0 => by
    rw [Nat.zero_mul]
    exact X
  | i + 1 => by
    have k := (ax_pn_stand X x i).pushed x
    rw [show cells + i + 1 = cells + (i + 1) by omega, show slots + i * x.slots.size + x.slots.size = slots + (i + 1) * x.slots.size by rw [Nat.succ_mul]; omega] at k
    exact k
/-- the outer array when i of its places are filled, and the state then -/
def ax_oc (cA : ClassId) (N h i : Nat) : Cell := arrV cA N (fun j => if j < i then .ref (h + 1 + j) else .null)
def ax_st (s : State) (cA comp : ClassId) (N K i : Nat) : State := ax_pn (arrV comp K (fun _ => .int 0)) i (s.pushCell (ax_oc cA N s.heap.size i))
theorem ax_oc_next (cA : ClassId) (N h i : Nat) : (ax_oc cA N h i).setSlot i (.ref (h + 1 + i)) = ax_oc cA N h (i + 1) := by
  unfold ax_oc
  rw [arrV_store]
  congr 1
  funext q
  unfold updV
  by_cases hq : q = i
  · subst hq
    rw [if_pos rfl, if_pos (by omega)]
  · rw [if_neg hq]
    show (if q < i then Value.ref (h + 1 + q) else .null) = _
    by_cases hl : q < i
    · rw [if_pos hl, if_pos (by omega)]
    · rw [if_neg hl, if_neg (by omega)]
theorem ax_oc_size (cA : ClassId) (N h i : Nat) : (ax_oc cA N h i).slots.size = N := arrV_size _ _ _
theorem ax_oc_all (cA : ClassId) (N h : Nat) : ax_oc cA N h N = arrV cA N (fun j => .ref (h + 1 + j)) := by
  unfold ax_oc arrV
  congr 2
  funext j
  exact if_pos j.isLt
theorem ax_st_size (s : State) (cA comp : ClassId) (N K i : Nat) : (ax_st s cA comp N K i).heap.size = s.heap.size + (1 + i) := by
  unfold ax_st
  rw [ax_pn_size, State.heap_pushCell, Array.size_push]
  omega
theorem ax_st_used (s : State) (cA comp : ClassId) (N K i : Nat) : (ax_st s cA comp N K i).slotsUsed = s.slotsUsed + (N + i * K) := by
  unfold ax_st
  rw [ax_pn_used, State.slotsUsed_pushCell, ax_oc_size, arrV_size]
  omega
theorem ax_st_vm (s : State) (cA comp : ClassId) (N K i : Nat) : (ax_st s cA comp N K i).vm = s.vm := by
  unfold ax_st
  rw [ax_pn_vm]
  rfl
theorem ax_st_out (s : State) (cA comp : ClassId) (N K i : Nat) : (ax_st s cA comp N K i).heap[s.heap.size]? = some (ax_oc cA N s.heap.size i) := by
  unfold ax_st
  rw [ax_pn_old _ _ (by rw [State.heap_pushCell, Array.size_push]; omega), State.heap_pushCell, Array.getElem?_push, if_pos rfl]
theorem ax_st_next (s : State) (cA comp : ClassId) (N K i : Nat) : ((ax_st s cA comp N K i).pushCell (arrV comp K (fun _ => .int 0))).setCell s.heap.size ((ax_oc cA N s.heap.size i).setSlot i (.ref (s.heap.size + 1 + i))) = ax_st s cA comp N K (i + 1) := by
  rw [ax_oc_next]
  show (ax_pn (arrV comp K (fun _ => .int 0)) (i + 1) (s.pushCell (ax_oc cA N s.heap.size i))).setCell s.heap.size (ax_oc cA N s.heap.size (i + 1)) = _
  rw [ax_pn_set _ _ _ (by rw [State.heap_pushCell, Array.size_push]; omega), ax_push_last (by rw [ax_oc_size, ax_oc_size])]
  rfl
theorem ax_st_setTop (s : State) (cA comp : ClassId) (N K i : Nat) (f : JFrame) : ax_st (s.setTop f) cA comp N K i = (ax_st s cA comp N K i).setTop f := by
  unfold ax_st
  rw [← ax_pn_setTop]
  rfl
theorem ax_make1 {E : CtlPost} {e : Env} {d : Bool} {acts : List Action} {s : State} {comp cI : ClassId} {kC : Class} {k : Int32} {K : Nat} {Q : Addr → Pre} (hk : ¬ k < 0) (hK : k.toNatClampNeg = K) (hkC : s.vm.classes[comp]? = some kC) (hkind : kC.kind = .array cI .int) (hlim : ¬ K > e.platform.arrayLengthLimit) (hheap : ¬ K * componentBytes .int > e.platform.maxHeapBytes) (hcells : s.heap.size < e.platform.maxCells) (hslots : s.slotsUsed + K ≤ e.platform.maxSlots) (hq : ∀ acts', Q s.heap.size d acts' (s.pushCell (arrV comp K (fun _ => .int 0)))) : wp (Op.multianewarray.make comp [k]) Q E e d acts s := by
  subst hK
  simp only [Op.multianewarray.make, wp_bind', W.ite, hk, if_false, wp_pure', W.theClass, hkC, Option.some.injEq, exists_eq_left', hkind]
  refine W.newArray_of hkC hkind hlim hheap hcells hslots rfl fun acts' => ?_
  have z := hq acts'
  rw [← arrV_new] at z
  exact z
theorem ax_make2 {E : CtlPost} {e : Env} {d : Bool} {acts : List Action} {s : State} {cA comp cI : ClassId} {kA kC : Class} {n k : Int32} {N K : Nat} {Q : Addr → Pre} (hn : ¬ n < 0) (hk : ¬ k < 0) (hN : n.toNatClampNeg = N) (hK : k.toNatClampNeg = K) (hkA : s.vm.classes[cA]? = some kA) (hkindA : kA.kind = .array comp (.array .int)) (hkC : s.vm.classes[comp]? = some kC) (hkind : kC.kind = .array cI .int) (hlimN : ¬ N > e.platform.arrayLengthLimit) (hheapN : ¬ N * componentBytes (.array .int) > e.platform.maxHeapBytes) (hlim : ¬ K > e.platform.arrayLengthLimit) (hheap : ¬ K * componentBytes .int > e.platform.maxHeapBytes) (hcells : s.heap.size + (1 + N) ≤ e.platform.maxCells) (hslots : s.slotsUsed + (N + N * K) ≤ e.platform.maxSlots) (hq : ∀ d' acts', Q s.heap.size d' acts' (ax_st s cA comp N K N)) : wp (Op.multianewarray.make cA [n, k]) Q E e d acts s := by
  subst hN
  rw [Op.multianewarray.make]
  simp only [wp_bind', W.ite, hn, if_false, wp_pure', W.theClass, hkA, Option.some.injEq, exists_eq_left', hkindA]
  refine W.newArray_of hkA hkindA hlimN hheapN (by omega) (by omega) rfl fun acts1 => ?_
  rw [arrV_new]
  have e0 : s.pushCell (arrV cA n.toNatClampNeg fun _ => .null) = ax_st s cA comp n.toNatClampNeg K 0 := by
    show _ = s.pushCell (ax_oc cA n.toNatClampNeg s.heap.size 0)
    congr 1
  rw [e0]
  have hf : List.find? (fun x => decide (x < 0)) [k] = none := by
    rw [List.find?_cons_of_neg (by simpa using hk)]
    rfl
  have hR : ([:n.toNatClampNeg] : Std.Legacy.Range).size = n.toNatClampNeg := by
    show (n.toNatClampNeg - 0 + 1 - 1) / 1 = _
    omega
  simp only [hf, ite_self, wp_bind', Std.Legacy.Range.forIn_eq_forIn_range', hR]
  refine wp_forIn_inv (fun rest s' => ∃ i, i ≤ n.toNatClampNeg ∧ rest = List.range' i (n.toNatClampNeg - i) 1 ∧ s' = ax_st s cA comp n.toNatClampNeg K i) _ _ ⟨0, by omega, rfl, rfl⟩ ?_ ?_
  · rintro x rest s' d' acts' Q' ⟨i, hi, hr, rfl⟩ hnext
    obtain ⟨r, hr1⟩ : ∃ r, n.toNatClampNeg - i = r + 1 := by
      cases hz : n.toNatClampNeg - i with
      | zero =>
        rw [hz] at hr
        cases hr
      | succ r => exact ⟨r, rfl⟩
    rw [hr1, List.range'_succ] at hr
    injection hr with h1 h2
    subst h1 h2
    have hu := ax_st_used s cA comp n.toNatClampNeg K x
    have hz := ax_st_size s cA comp n.toNatClampNeg K x
    have hm : (x + 1) * K ≤ n.toNatClampNeg * K := Nat.mul_le_mul_right K (by omega)
    rw [Nat.succ_mul] at hm
    simp only [wp_bind']
    refine ax_make1 hk hK (by rw [ax_st_vm]; exact hkC) hkind hlim hheap (by omega) (by omega) fun acts2 => ?_
    simp only [wp_bind', W.writeLoc, wp_pure']
    refine ⟨ax_oc cA n.toNatClampNeg s.heap.size x, ?_, ?_, by rw [ax_oc_size]; omega, ?_, ?_⟩
    · rw [State.heap_pushCell, Array.getElem?_push, if_neg (by omega)]
      exact ax_st_out s cA comp n.toNatClampNeg K x
    · intro q
      cases q
    · show ((ax_st s cA comp n.toNatClampNeg K x).pushCell _).fitsSlot cA .none x _ = true
      simp [State.fitsSlot, State.slotType?, ax_st_vm, hkA, hkindA, fits]
    · refine hnext _ _ _ ⟨x + 1, by omega, by rw [show n.toNatClampNeg - (x + 1) = r by omega], ?_⟩
      rw [hz, show s.heap.size + (1 + x) = s.heap.size + 1 + x by omega]
      exact ax_st_next s cA comp n.toNatClampNeg K x
  · rintro s' d' acts' ⟨i, hi, hr, rfl⟩
    have he : i = n.toNatClampNeg := by
      cases hz : n.toNatClampNeg - i with
      | zero => omega
      | succ r =>
        rw [hz] at hr
        cases hr
    rw [he]
    simp only [wp_pure']
    exact hq d' acts'
theorem ax_wp {Q : Unit → Pre} {E : CtlPost} {e : Env} {d : Bool} {acts : List Action} {s : State} {f : JFrame} {index : Nat} {cA comp cI : ClassId} {kA kC : Class} {n k : Int32} {N K : Nat} {rest : List Value} (hs : s.topJava?.isSome) (hr : s.vm.classReady f.method.cls index cA) (hstack : f.stack = .int k :: .int n :: rest) (hn : ¬ n < 0) (hk : ¬ k < 0) (hN : n.toNatClampNeg = N) (hK : k.toNatClampNeg = K) (hkA : s.vm.classes[cA]? = some kA) (hkindA : kA.kind = .array comp (.array .int)) (hkC : s.vm.classes[comp]? = some kC) (hkind : kC.kind = .array cI .int) (hlimN : ¬ N > e.platform.arrayLengthLimit) (hheapN : ¬ N * componentBytes (.array .int) > e.platform.maxHeapBytes) (hlim : ¬ K > e.platform.arrayLengthLimit) (hheap : ¬ K * componentBytes .int > e.platform.maxHeapBytes) (hcells : s.heap.size + (1 + N) ≤ e.platform.maxCells) (hslots : s.slotsUsed + (N + N * K) ≤ e.platform.maxSlots) (hq : ∀ acts', Q () true acts' ((ax_st s cA comp N K N).setTop { f with stack := .ref s.heap.size :: rest })) : wp (Op.multianewarray.sem index 2) Q E e d acts (s.setTop f) := by
  simp only [Op.multianewarray.sem, wp_bind', W.resolveClassAt_ready (State.method?_setTop f hs) hr, Jvm.popN, W.pop, State.topJava?_setTop' _ hs, Option.some.injEq, exists_eq_left', hstack, List.cons.injEq, exists_cons_eq, State.setTop_setTop, wp_pure']
  rw [show ([] ++ [Value.int n] ++ [Value.int k] : List Value) = [.int n, .int k] from rfl]
  simp only [List.mapM_cons, List.mapM_nil, wp_bind', wp_pure']
  refine ax_make2 hn hk hN hK hkA hkindA hkC hkind hlimN hheapN hlim hheap hcells hslots fun d' acts' => ?_
  simp only [wp_bind', W.mark, W.pushRef, ax_st_setTop, State.heap_setTop]
  refine ⟨_, State.topJava?_setTop' _ (by unfold ax_st; rw [ax_pn_top]; exact hs), ?_⟩
  rw [State.setTop_setTop]
  exact hq _
theorem ax_cold {Q : Unit → Pre} {E : CtlPost} {e : Env} {d : Bool} {acts : List Action} {s : State} {f : JFrame} {index c : Nat} {vm' : Vm} (hs : s.topJava?.isSome) (hg : (Jvm.resolveClass f.method.cls index).Gives e.toSetting s.vm (.ok c) vm') (hr : vm'.classReady f.method.cls index c) (hsz : vm'.classes.size ≤ s.vm.classes.size) : wp (Op.multianewarray.sem index 2) Q E e d acts (s.setTop f) ↔ wp (Op.multianewarray.sem index 2) Q E e d acts ((s.setVm vm').setTop f) := by
  simp only [Op.multianewarray.sem, wp_bind']
  exact W.resolveClassAt_transfer (s := s.setTop f) (State.method?_setTop f hs) hg hr hsz
theorem ax_mnew {p : Program} {l : Launch} {e : Env} {R : Room} {s : State} {m : MethodId} {args : Array Value} {below : List Frame} {meth : Method} {c : Code} {H : Heap} {locs : List Loc} {cells slots : Nat} {Q : State → Prop} {cc : ByteArray} (hexec : p.tables.exec = Jvm.exec) (hb : c.code = cc) {own : String} {index : Nat} (hown : s.vm.findClass own = some m.cls) (hclink : (Cond.classLink own index "[[I").before args s = true) (hover : (Cond.arrayOver (.array .int)).before args s = true) (harr : (Cond.arrayClass .int).before args s = true) {g : JFrame} (hg : g.method = m) (hdg : decode cc g.pc = .ok (.multianewarray index 2, 4)) {n k : Int32} {rest : List Value} (hstack : g.stack = .int k :: .int n :: rest) (hn : ¬ n < 0) (hk : ¬ k < 0) {N K : Nat} (hN : n.toNatClampNeg = N) (hK : k.toNatClampNeg = K) (hN1 : N ≤ 100000) (hK1 : K ≤ 100000) (hcells : cells + (1 + N) ≤ R.cells) (hslots : slots + (N + N * K) ≤ R.slots)
    (kk : ∀ (cA comp : ClassId) (H1 : Heap), s.vm.findClass ("[" ++ (FieldType.array FieldType.int).toString) = some cA → s.vm.findClass (FieldType.array FieldType.int).toString = some comp → H1.size = H.size + (1 + N) → (∀ q, q < H.size → H1[q]? = H[q]?) → H1[H.size]? = some (arrV cA N (fun j => .ref (H.size + 1 + j))) → (∀ j, j < N → H1[H.size + 1 + j]? = some (arrV comp K (fun _ => .int 0))) → W p l e R s m args below meth c H1 locs (cells + (1 + N)) (slots + (N + N * K)) Q { g with pc := g.pc + 4, stack := .ref H.size :: rest }) : W p l e R s m args below meth c H locs cells slots Q g := by
  intro T hT X
  subst hT hb hg
  have hpl : e.platform.magicAccessors = ({} : Platform).magicAccessors := by rw [X.admits.platform]
  obtain ⟨comp, cA, kA, hcomp, -, hkA, hkindA, hnameA⟩ := arrayOverA_spec hover
  obtain ⟨cI', kC, cI, hnameC, hkC, hkindC⟩ := Cond.arrayClass_spec harr
  have ecI : comp = cI' := Option.some.inj (hcomp.symm.trans hnameC)
  subst ecI
  obtain ⟨ca, hfca, hcl⟩ := Cond.classLink_spec hown hclink e.platform hpl
  have eca : ca = cA := Option.some.inj (hfca.symm.trans (by rw [← ax_arr2]; exact hnameA))
  subst eca
  obtain ⟨hg1, hwarm, hready⟩ := State.classEntry (e := e) X.warmed hcl
  generalize T.vm.noted g.method.cls index (.cls ca) = vm1 at hg1 hwarm hready
  have hal : s.vm.Alike vm1 := hwarm.alike
  obtain ⟨kA1, hkA1, heA⟩ := hal.2.2 _ _ hkA
  obtain ⟨kC1, hkC1, heC⟩ := hal.2.2 _ _ hkC
  have hkindA1 : kA1.kind = .array comp (.array .int) := by rw [heA]; exact hkindA
  have hkindC1 : kC1.kind = .array cI .int := by rw [heC]; exact hkindC
  have hlim : ∀ {x : Nat}, x ≤ 100000 → ¬ x > e.platform.arrayLengthLimit := fun h => by rw [Launch.admits_arrayLengthLimit X.admits]; omega
  have hheap : ∀ {x : Nat}, x ≤ 100000 → ¬ x * 4 > e.platform.maxHeapBytes := fun h => by rw [Launch.admits_maxHeapBytes X.admits]; omega
  obtain ⟨hr1, hr2⟩ := X.roomAbove hcells hslots
  have X1 := ax_pn_stand ((X.noted hwarm).pushed (ax_oc ca N T.heap.size N)) (arrV comp K (fun _ => .int 0)) N
  rw [ax_oc_size, arrV_size, show cells + 1 + N = cells + (1 + N) by omega, show slots + N + N * K = slots + (N + N * K) by omega] at X1
  have X2 : Stand p l e R s g.method args below meth c (ax_st (T.setVm vm1) ca comp N K N) locs (cells + (1 + N)) (slots + (N + N * K)) := X1
  have z := ax_st_size (T.setVm vm1) ca comp N K N
  have fo : ∀ q, q < T.heap.size → (ax_st (T.setVm vm1) ca comp N K N).heap[q]? = T.heap[q]? := fun q hq => by
    unfold ax_st
    rw [ax_pn_old _ _ (by rw [State.heap_pushCell, Array.size_push]; exact Nat.lt_succ_of_lt hq), State.heap_pushCell, Array.getElem?_push]
    exact if_neg (Nat.ne_of_lt hq)
  have fi : ∀ j, j < N → (ax_st (T.setVm vm1) ca comp N K N).heap[T.heap.size + 1 + j]? = some (arrV comp K (fun _ => .int 0)) := fun j hj => by
    have q := ax_pn_new (arrV comp K (fun _ => .int 0)) ((T.setVm vm1).pushCell (ax_oc ca N T.heap.size N)) N hj
    rw [State.heap_pushCell, Array.size_push] at q
    exact q
  have ft : (ax_st (T.setVm vm1) ca comp N K N).heap[T.heap.size]? = some (arrV ca N (fun j => .ref (T.heap.size + 1 + j))) := (ax_st_out (T.setVm vm1) ca comp N K N).trans (congrArg some (ax_oc_all ca N T.heap.size))
  obtain ⟨t, a1, b1⟩ := kk ca comp _ hnameA hcomp z fo ft fi _ rfl X2
  refine ⟨t, ?_, b1⟩
  refine Steps.instr (c := _) (by simpa using X.here) ?_
  rw [hdg, hexec]
  simp only [wpRun, exec]
  refine (ax_cold X.here.top hg1 hready (by no_record)).mpr ?_
  refine ax_wp (s := T.setVm vm1) X.here.top hready hstack hn hk hN hK hkA1 hkindA1 hkC1 hkindC1 (hlim hN1) (hheap hN1) (hlim hK1) (hheap hK1) hr1 hr2 fun acts1 acts2 => ?_
  rw [afterInstr_ok]
  exact a1
theorem am_mn (l : Launch) : am_MN l := by
  intro p e R s m args below meth c w M d Qf C Q pc ls st h ix hc hd hs
  obtain ⟨hx, hb, hml, hown, hts, hK, hR, hnm⟩ := hc
  obtain ⟨x, y, r, rfl, hs2⟩ := ai_pII hs
  obtain ⟨⟨hx0, hy0, hx1, hy1, hq⟩, hs3⟩ := ai_if hs2
  have hs3 : am_stp C (as_X p l e R s m args below meth c w M Qf) Q (am_new2 M x.toNat y.toNat pc ls r h) := hs3
  unfold am_new2 at hs3
  obtain ⟨⟨hc1, hc2⟩, hs4⟩ := ai_if hs3
  obtain ⟨-, hlink⟩ := xs_new hq
  rw [if_pos rfl] at hlink
  intro lsC H locs hn hl hH hL hv
  obtain ⟨hvy, hvA⟩ := List.forall_mem_cons.mp hv
  obtain ⟨hvx, hvB⟩ := List.forall_mem_cons.mp hvA
  have hvy : am_ok y := hvy
  have hvx : am_ok x := hvx
  refine ax_mnew hx hb hown (hts _ hlink) hK.2.2.2.2.1 (hts _ (as_misc List.mem_cons_self)) rfl hd (n := Int32.ofInt x) (k := Int32.ofInt y) rfl (fun q => by rw [an_lt0 hvx] at q; omega) (fun q => by rw [an_lt0 hvy] at q; omega) (an_cl hvx) (an_cl hvy) (by omega) (by omega) (by rw [hR.2.2.1]; exact hc1) (by rw [hR.2.2.2]; exact hc2) fun cA comp H1 fA fC z1 o1 eo ei => ?_
  have r3 : s.vm.findClass ("[" ++ (FieldType.array FieldType.int).toString) = some (aw_cy w 103) := (hK.1.2 3 _ rfl).2
  have r0 : s.vm.findClass ("[" ++ FieldType.int.toString) = some (aw_cy w 100) := (hK.1.2 0 _ rfl).2
  have ec : cA = aw_cy w 103 := Option.some.inj (fA.symm.trans r3)
  have ec2 : comp = aw_cy w 100 := Option.some.inj (fC.symm.trans r0)
  subst ec ec2
  have k := hs4 lsC H1 locs hn hl (by
    have hh := ah_app (c' := h.2.1 + (1 + x.toNat)) (s' := h.2.2.1 + (x.toNat + x.toNat * y.toNat)) (es := (103, x.toNat, (List.range x.toNat).map (fun i => h.1.length + 2 + i)) :: List.replicate x.toNat (100, y.toNat, [])) hH (by rw [z1, List.length_cons, List.length_replicate]; omega) o1 (fun i en hi => ?_)
    · rw [List.length_cons, List.length_replicate, Nat.add_comm x.toNat 1] at hh
      exact hh
    · cases i with
      | zero =>
        cases hi
        refine ⟨?_, fun q => absurd q (show ¬ 103 < 100 by decide)⟩
        rw [ah_en_rfs (show ¬ 103 < 100 by decide) (show ¬ 103 < 102 by decide)]
        show H1[H.size + 0]? = some (vp_cell _ _)
        rw [Nat.add_zero, eo, vp_cell_q]
        congr 1
        unfold arrV
        congr 2
        funext j
        have hj : j.val < x.toNat := j.isLt
        show Value.ref (H.size + 1 + j.val) = va_rf (am_rf w (((List.range x.toNat).map (fun i => h.1.length + 2 + i)).getD j.val 0))
        have e1 : ((List.range x.toNat).map (fun i => h.1.length + 2 + i)).getD j.val 0 = (h.1.length + 1 + j.val) + 1 := by
          rw [List.getD_eq_getElem?_getD, List.getElem?_map, List.getElem?_range hj]
          show h.1.length + 2 + j.val = _
          omega
        rw [e1]
        show Value.ref (H.size + 1 + j.val) = Value.ref (am_ad w (h.1.length + 1 + j.val))
        obtain ⟨g1, g2⟩ := hH.2.2.1
        rw [ah_ad (show 3 ≤ h.1.length + 1 + j.val by omega), g2]
        exact congrArg Value.ref (show aw_bs w + (h.1.length - 3) + 1 + j.val = aw_bs w + (h.1.length + 1 + j.val - 3) by omega)
      | succ i =>
        rw [List.getElem?_cons_succ, List.getElem?_replicate] at hi
        by_cases hlt : i < x.toNat
        · rw [if_pos hlt] at hi
          cases hi
          refine ⟨?_, fun q => absurd q (show ¬ 100 < 100 by decide)⟩
          rw [ah_en_arr (show ¬ 100 < 100 by decide) (show 100 < 102 by decide)]
          show H1[H.size + (i + 1)]? = some (vp_cell _ _)
          rw [show H.size + (i + 1) = H.size + 1 + i by omega, ei i hlt]
          rfl
        · rw [if_neg hlt] at hi
          cases hi) hL (List.forall_mem_cons.mpr ⟨trivial, hvB⟩)
  rw [List.map_cons, show am_cv w (am_r h.1.length) = .ref H.size from congrArg Value.ref (as_ad_len hH)] at k
  exact k
