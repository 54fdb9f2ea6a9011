/-! the law's entry: the real machine's start as one of the small machine -/
def lz_cy (aI aZ aR aA : ClassId) (k : Nat) : ClassId := if k = 100 then aI else if k = 101 then aZ else if k = 102 then aR else aA
def lz_zz (b t1 t2 : Nat) (a : Nat) : Nat := if a = 0 then b else if a = 1 then t1 else t2
def lz_on (L : Nat) (a : Nat) : Nat := if a = 0 then L else 6
def lz_size (j : Int) : Int := if j = 0 then 10 else if j = 1 then 11 else if j = 2 then 12 else if j = 3 then 11 else if j = 4 then 13 else if j = 5 then 14 else 0
def lz_mark (j : Int) : Int := if j = 0 then 20 else if j = 1 then 21 else if j = 2 then 24 else if j = 3 then 22 else if j = 4 then 23 else if j = 5 then 23 else 0
def lz_oc (xs : Nat → Int32) (a : Nat) (j : Int) : Int := if a = 0 then (xs j.toNat).toInt else if a = 1 then lz_size j else lz_mark j
def lz_mem (xs : Nat → Int32) : am_Mem := fun a j => if a < 3 then lz_oc xs a j else 0
theorem lz_size_ok (j : Int) : am_ok (lz_size j) := by
  unfold lz_size
  repeat' split
  all_goals omega
theorem lz_mark_ok (j : Int) : am_ok (lz_mark j) := by
  unfold lz_mark
  repeat' split
  all_goals omega
theorem lz_oc_ok (xs : Nat → Int32) (a : Nat) (j : Int) : am_ok (lz_oc xs a j) := by
  unfold lz_oc
  split
  · exact an_ok32 _
  · split
    · exact lz_size_ok j
    · exact lz_mark_ok j
theorem lz_mem_ok (xs : Nat → Int32) (a : Nat) (j : Int) : am_ok (lz_mem xs a j) := by
  unfold lz_mem
  split
  · exact lz_oc_ok xs a j
  · omega
theorem lz_cst (xs : Nat → Int32) : mr_cst (lz_mem xs) := ⟨fun i => lz_mem_ok xs 0 i, ⟨rfl, rfl, rfl, rfl, rfl, rfl⟩, ⟨rfl, rfl, rfl, rfl, rfl, rfl⟩⟩
/-- an int[] that the Statement tells whole -/
theorem lz_static {args : Array Value} {s : State} {tm : Term} {N : Nat} {f : Nat → Int32} (hN : N < 2 ^ 31) (harr : (Cond.arrayOf tm .int).before args s = true) (hlen : (Cond.eq (.length tm) (.int (Int32.ofNat N))).before args s = true) (hel : ∀ j : Nat, j < N → (Cond.eq (.elem tm (.int (Int32.ofNat j))) (.int (f j))).before args s = true) : ∃ (t : Nat) (cell : Cell), tm.eval args s none [] s = some (.ref t) ∧ s.heap[t]? = some cell ∧ s.isArrayOf cell .int ∧ cell.vm ≠ .unknown ∧ cell.slots.size = N ∧ ∀ j : Nat, j < N → cell.slots[j]? = some (.int (f j)) := by
  have hl := va_eqt hlen
  obtain ⟨t, ht, cell, h1, h2, h3, h4, h5, h6, -⟩ := va_Tof (f := fun j => .int (f j)) (A := fun _ => False) hN harr hl (fun j hj => va_eqt (hel j hj)) (fun _ _ q => q)
  obtain ⟨t', cell', ht', hat, hv⟩ := Term.length_spec hl
  cases ht.symm.trans ht'
  obtain ⟨hcell, -, -, -⟩ := State.arrayAt?_spec hat
  cases h1.symm.trans hcell
  have hsz : cell.slots.size < 2 ^ 31 := by
    simp only [Term.eval, ht, hat, Option.bind_eq_bind, Option.bind_some] at hl
    by_cases hlt : cell.slots.size < 2147483648
    · exact hlt
    · simp [hlt] at hl
  refine ⟨t, cell, ht, h1, h2, h3, ?_, h6⟩
  have e : (Int32.ofNat cell.slots.size).toNatClampNeg = (Int32.ofNat N).toNatClampNeg := congrArg Int32.toNatClampNeg h5
  rw [Int32.toNatClampNeg_ofNat_of_lt hsz, Int32.toNatClampNeg_ofNat_of_lt hN] at e
  exact e
def lz_W (H : Heap) (D1 : Nat → ClassId) (D2 : Nat → Nat → Nat) (aI aZ aR aA : ClassId) (b t1 t2 L : Nat) (xs : Nat → Int32) : am_W := (H.size, D1, D2, lz_cy aI aZ aR aA, lz_zz b t1 t2, lz_on L, lz_oc xs, H)
theorem lz_sizev : ∀ j : Nat, j < 6 → (Int32.ofInt (lz_size (j : Int))) = (([10, 11, 12, 11, 13, 14] : List Int32).getD j 0) := by decide +kernel
theorem lz_markv : ∀ j : Nat, j < 6 → (Int32.ofInt (lz_mark (j : Int))) = (([20, 21, 24, 22, 23, 23] : List Int32).getD j 0) := by decide +kernel
theorem lz_nest : Cond.methodLinkNest RX3 75 yX6_power "MoodFare" ∈ lw_tbl := by decide +kernel
theorem lz_start {b L : Nat} {s : State} {xs : Nat → Int32} (hts : ∀ w ∈ lw_tbl, w.before #[Value.ref b] s = true) (hX : va_X b L xs s s.heap) (hgv : (Jvm.Cond.and given_1 narrow_1).before #[Value.ref b] s = true) : ∃ (D1 : Nat → ClassId) (D2 : Nat → Nat → Nat) (aI aZ aR aA : ClassId) (t1 t2 : Nat), am_KW (lz_W s.heap D1 D2 aI aZ aR aA b t1 t2 L xs) s := by
  have htw : ∀ x ∈ xr_wds, x.before #[Value.ref b] s = true := fun x hx => hts x (List.mem_filter.mp hx).1
  have hs := flat_of_before _ hgv
  have m2 : ∀ w ∈ ([.arrayOver (.array .int), .arrayOver (.object RX5), .laysStatic RX1 "SIZE_BODIES" "[I", .laysStatic RX1 "MARK_BODIES" "[I"] : List Cond), w.before #[Value.ref b] s = true := fun w hw => hts w (List.contains_iff_mem.mp (List.all_eq_true.mp xr_misc2 w hw))
  have hcls : ∀ k : Nat, ∃ q : ClassId × (Nat → Nat), k < 8 → u_Kn s (xr_R k) (xr_T k) (xr_num k) q.1 q.2 := by
    intro k
    by_cases h : k < 8
    · obtain ⟨cC, iS, hK⟩ := u_known (ws := xr_wds) htw (ah_lays h) (hts _ (xr_inst k h).2.2.1)
      exact ⟨(cC, iS), fun _ => hK⟩
    · exact ⟨(0, fun _ => 0), fun q => absurd q h⟩
  obtain ⟨aI, kI, cI, i1, i2, i3⟩ := Cond.arrayClass_spec (htw _ (as_misc (w := .arrayClass .int) List.mem_cons_self))
  obtain ⟨aZ, kZ, cZ, z1, z2, z3⟩ := Cond.arrayClass_spec (htw _ (as_misc (w := .arrayClass .boolean) (List.mem_cons_of_mem _ List.mem_cons_self)))
  obtain ⟨cR, aR, kR, r1, -, r2, r3, r4⟩ := Cond.arrayOver_spec (m2 (.arrayOver (.object RX5)) (by simp))
  obtain ⟨cA, aA, kA, a1, -, a2, a3, a4⟩ := arrayOverA_spec (m2 (.arrayOver (.array .int)) (by simp))
  obtain ⟨t1, c1, e1, p1, p2, p3, p4, p5⟩ := lz_static (args := #[Value.ref b]) (s := s) (tm := .static "MoodFare$Asker" "SIZE_BODIES" "[I") (N := 6) (f := fun j => ([10, 11, 12, 11, 13, 14] : List Int32).getD j 0) (by decide) (hs _ (by decide +kernel)) (hs _ (by decide +kernel)) (fun j hj => by
    have : j = 0 ∨ j = 1 ∨ j = 2 ∨ j = 3 ∨ j = 4 ∨ j = 5 := by omega
    rcases this with rfl | rfl | rfl | rfl | rfl | rfl
    all_goals exact hs _ (by decide +kernel))
  obtain ⟨t2, c2, e2, q1, q2, q3, q4, q5⟩ := lz_static (args := #[Value.ref b]) (s := s) (tm := .static "MoodFare$Asker" "MARK_BODIES" "[I") (N := 6) (f := fun j => ([20, 21, 24, 22, 23, 23] : List Int32).getD j 0) (by decide) (hs _ (by decide +kernel)) (hs _ (by decide +kernel)) (fun j hj => by
    have : j = 0 ∨ j = 1 ∨ j = 2 ∨ j = 3 ∨ j = 4 ∨ j = 5 := by omega
    rcases this with rfl | rfl | rfl | rfl | rfl | rfl
    all_goals exact hs _ (by decide +kernel))
  obtain ⟨scr, x1, x2, x3, x4, x5⟩ := hX
  have ini : (Cond.initialized RX1).before #[Value.ref b] s = true := hts _ (xr_inst 1 (by decide)).2.2.2
  have hA : ∀ a : Nat, a < s.heap.size → ¬ (fun q : Nat => s.heap.size ≤ q) a := fun a ha q => Nat.not_le.mpr ha q
  refine ⟨fun k => (hcls k).choose.1, fun k => (hcls k).choose.2, aI, aZ, aR, aA, t1, t2, ⟨fun k q hq => ?_, fun k q hk => ?_⟩, fun a ha => ?_, fun a ha => ?_, m2 (.arrayOver (.object RX5)) (by simp), m2 (.arrayOver (.array .int)) (by simp), va_Nw.of rfl (hts _ lz_nest), rfl⟩
  · have h8 : k < 8 := (List.getElem?_eq_some_iff.mp hq).1
    rw [xr_clat k h8] at hq
    cases hq
    exact (hcls k).choose_spec h8
  · have hk4 : k < 4 := (List.getElem?_eq_some_iff.mp hk).1
    match k, hk4, hk with
    | 0, _, hk => cases hk; exact ⟨fun N z => ⟨(fun k h => by cases h), kI, i2, cI, i3⟩, i1⟩
    | 1, _, hk => cases hk; exact ⟨fun N z => ⟨(fun k h => by cases h), kZ, z2, cZ, z3⟩, z1⟩
    | 2, _, hk => cases hk; exact ⟨fun N z => ⟨(fun k h => by cases h), kR, r2, cR, r3⟩, kR, cR, r2, r3, r1, r4⟩
    | 3, _, hk => cases hk; exact ⟨fun N z => ⟨(fun k h => by cases h), kA, a2, cA, a3⟩, a4⟩
  · have : a = 0 ∨ a = 1 ∨ a = 2 := by omega
    rcases this with rfl | rfl | rfl
    · exact ⟨scr, x1, x2, x3, x4, (Array.getElem?_eq_some_iff.mp x1).1, fun j hj => (x5 j hj).trans (by
        show some (Value.int (xs j)) = some (Value.int (Int32.ofInt (xs ((j : Int)).toNat).toInt))
        rw [Int.toNat_natCast, Int32.ofInt_toInt])⟩
    · exact ⟨c1, p1, p2, p3, p4, (Array.getElem?_eq_some_iff.mp p1).1, fun j hj => (p5 j hj).trans (congrArg (fun z => some (Value.int z)) (lz_sizev j hj).symm)⟩
    · exact ⟨c2, q1, q2, q3, q4, (Array.getElem?_eq_some_iff.mp q1).1, fun j hj => (q5 j hj).trans (congrArg (fun z => some (Value.int z)) (lz_markv j hj).symm)⟩
  · rcases ha with rfl | rfl
    · exact va_Zref (m2 (.laysStatic RX1 "SIZE_BODIES" "[I") (by simp)) ini e1 hA
    · exact va_Zref (m2 (.laysStatic RX1 "MARK_BODIES" "[I") (by simp)) ini e2 hA
theorem lz_HR {b L : Nat} {s : State} {xs : Nat → Int32} {D1 : Nat → ClassId} {D2 : Nat → Nat → Nat} {aI aZ aR aA : ClassId} {t1 t2 : Nat} : am_HR (lz_W s.heap D1 D2 aI aZ aR aA b t1 t2 L xs) (sc_0 L, 0, 0, lz_mem xs) s.heap := by
  refine ⟨fun a e ha he => ?_, fun a ha => ?_, ⟨by show 3 ≤ 3; decide, rfl⟩, fun _ _ => rfl, fun a j => lz_mem_ok xs a j⟩
  · have : a < 3 := (List.getElem?_eq_some_iff.mp he).1
    omega
  · refine ⟨?_, fun j => ?_⟩
    · have : a = 0 ∨ a = 1 ∨ a = 2 := by omega
      rcases this with rfl | rfl | rfl <;> rfl
    · show lz_mem xs a j = lz_oc xs a j
      unfold lz_mem
      rw [if_pos ha]
