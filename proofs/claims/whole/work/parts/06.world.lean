/-! ===== what a state of the small machine is in the real one ===== -/
/-- base, class numbers, slots, array classes by kind, addresses, lengths and contents of the three old arrays, the heap at the base -/
abbrev am_W : Type := Nat × (Nat → ClassId) × (Nat → Nat → Nat) × (Nat → ClassId) × (Nat → Nat) × (Nat → Nat) × (Nat → Int → Int) × Heap
abbrev aw_bs (w : am_W) : Nat := w.1
abbrev aw_D (w : am_W) : va_G := (w.2.1, w.2.2.1)
abbrev aw_cy (w : am_W) : Nat → ClassId := w.2.2.2.1
abbrev aw_zz (w : am_W) : Nat → Nat := w.2.2.2.2.1
abbrev aw_on (w : am_W) : Nat → Nat := w.2.2.2.2.2.1
abbrev aw_oc (w : am_W) : Nat → Int → Int := w.2.2.2.2.2.2.1
abbrev aw_H0 (w : am_W) : Heap := w.2.2.2.2.2.2.2
def am_ad (w : am_W) (a : Nat) : Nat := if a < 3 then aw_zz w a else aw_bs w + (a - 3)
def am_cv (w : am_W) (v : am_V) : Value := match v with
  | .inl z => .int (Int32.ofInt z)
  | .inr (.inl z) => .long (Int64.ofInt z)
  | .inr (.inr a) => .ref (am_ad w a)
def am_okv (v : am_V) : Prop := match v with
  | .inl z => am_ok z
  | .inr (.inl z) => am_okl z
  | .inr (.inr _) => True
def am_rf (w : am_W) (r : Nat) : Option Nat := match r with
  | 0 => none
  | t + 1 => some (am_ad w t)
def am_fv (w : am_W) (e : am_SE) (f : Int → Int) (k : Nat) : Value := if xr_ref e.1 k = true then va_rf (am_rf w (e.2.2.getD k 0)) else .int (Int32.ofInt (f k))
def am_fs (w : am_W) (e : am_SE) (f : Int → Int) : List Value := (List.range (xr_num e.1)).map (am_fv w e f)
def am_en (w : am_W) (e : am_SE) (f : Int → Int) : va_E :=
  if e.1 < 100 then .inr (e.1, am_fs w e f)
  else if e.1 < 102 then .inl (aw_cy w e.1, e.2.1, .inl (fun j => Int32.ofInt (f j)))
  else .inl (aw_cy w e.1, e.2.1, .inr (.inr (.inr (.inr (fun j => am_rf w (e.2.2.getD j 0))))))
def am_HR (w : am_W) (h : am_H) (H : Heap) : Prop :=
  (∀ a e, 3 ≤ a → h.1[a]? = some e → va_at (aw_D w) xr_cl (am_ad w a, am_en w e (h.2.2.2 a)) H ∧ (e.1 < 100 → e.1 < 8)) ∧
  (∀ a, a < 3 → h.1[a]? = some (100, aw_on w a, []) ∧ ∀ j, h.2.2.2 a j = aw_oc w a j) ∧
  (3 ≤ h.1.length ∧ H.size = aw_bs w + (h.1.length - 3)) ∧
  (∀ q, q < aw_bs w → H[q]? = (aw_H0 w)[q]?) ∧ ∀ a j, am_ok (h.2.2.2 a j)
def am_tys (w : am_W) : List (ClassId × FieldType) := [(aw_cy w 100, .int), (aw_cy w 101, .boolean), (aw_cy w 102, .object RX5), (aw_cy w 103, .array .int)]
def am_st (a : Nat) : String := if a = 1 then "SIZE_BODIES" else "MARK_BODIES"
def am_KW (w : am_W) (s : State) : Prop :=
  va_K (aw_D w) xr_cl (am_tys w) s ∧
  (∀ a, a < 3 → ∃ cell : Cell, (aw_H0 w)[aw_zz w a]? = some cell ∧ s.isArrayOf cell .int ∧ cell.vm ≠ .unknown ∧ cell.slots.size = aw_on w a ∧ aw_zz w a < aw_bs w ∧ ∀ j : Nat, j < aw_on w a → cell.slots[j]? = some (.int (Int32.ofInt (aw_oc w a j)))) ∧
  (∀ a, a = 1 ∨ a = 2 → va_Z RX1 (am_st a) "[I" (.ref (aw_zz w a)) (fun q => aw_bs w ≤ q) s (aw_H0 w)) ∧
  va_AO RX5 s ∧ (Cond.arrayOver (.array .int)).before #[] s = true ∧ va_Nw (.methodLinkNest RX3 75 yX6_power "MoodFare") s ∧ aw_bs w = (aw_H0 w).size
theorem al_cat (w : am_W) (v : am_V) : (am_cv w v).category = am_cat v := by
  rcases v with z | z | a <;> rfl
/-! locals -/
def al_R (w : am_W) (lsC : Array Slot) (ls : am_L) : Prop := lv_has lsC ls.length [] ∧ ∀ i v, am_get ls i = some v → lsC[i]? = some (.val (am_cv w v)) ∧ am_okv v
def al_ls (w : am_W) (ls : am_L) : List (Nat × Value) := (List.range ls.length).filterMap fun i => (am_get ls i).map fun v => (i, am_cv w v)
theorem al_get_lt {ls : am_L} {i : Nat} {v : am_V} (h : am_get ls i = some v) : i < ls.length := by
  unfold am_get at h
  cases hi : ls[i]? with
  | none => rw [hi] at h; cases h
  | some x => exact (List.getElem?_eq_some_iff.mp hi).1
theorem al_mem {w : am_W} {ls : am_L} {q : Nat × Value} : q ∈ al_ls w ls ↔ ∃ v, am_get ls q.1 = some v ∧ q.2 = am_cv w v := by
  unfold al_ls
  rw [List.mem_filterMap]
  constructor
  · rintro ⟨i, -, hi⟩
    cases hv : am_get ls i with
    | none => rw [hv] at hi; cases hi
    | some v => rw [hv] at hi; cases hi; exact ⟨v, hv, rfl⟩
  · rintro ⟨v, h1, h2⟩
    exact ⟨q.1, List.mem_range.mpr (al_get_lt h1), by rw [h1]; show some (q.1, am_cv w v) = some q; rw [← h2]⟩
theorem al_has {w : am_W} {lsC : Array Slot} {ls : am_L} (h : al_R w lsC ls) : lv_has lsC ls.length (al_ls w ls) := by
  refine ⟨h.1.1, h.1.2.1, fun q hq => ?_⟩
  obtain ⟨v, h1, h2⟩ := al_mem.mp hq
  rw [h2]
  exact (h.2 q.1 v h1).1
theorem al_get_set {ls : am_L} {i j : Nat} {x : Option am_V} {u : am_V} (h : am_get (ls.set i x) j = some u) : (j = i ∧ x = some u) ∨ (j ≠ i ∧ am_get ls j = some u) := by
  unfold am_get at h ⊢
  by_cases hj : j = i
  · subst hj
    refine Or.inl ⟨rfl, ?_⟩
    rw [List.getElem?_set] at h
    by_cases hl : j < ls.length
    · rw [if_pos rfl, if_pos hl] at h
      cases x with
      | none => cases h
      | some y => exact h
    · rw [if_pos rfl, if_neg hl] at h
      cases h
  · rw [List.getElem?_set_ne (Ne.symm hj)] at h
    exact Or.inr ⟨hj, h⟩
theorem al_get_cut {ls : am_L} {i j : Nat} {u : am_V} (h : am_get (am_cut ls i) j = some u) : am_get ls j = some u ∧ ¬ (j + 1 = i ∧ am_cat u = 2) := by
  cases i with
  | zero => exact ⟨h, fun q => by omega⟩
  | succ k =>
    unfold am_cut at h
    dsimp only at h
    split at h
    · rename_i z hz
      rcases al_get_set h with ⟨-, q⟩ | ⟨q, h⟩
      · cases q
      · exact ⟨h, fun r => q (by omega)⟩
    · rename_i hz
      refine ⟨h, fun r => ?_⟩
      have e : j = k := by omega
      subst e
      rcases u with z | z | a
      · cases r.2
      · exact hz z h
      · cases r.2
theorem al_cut_len (ls : am_L) (i : Nat) : (am_cut ls i).length = ls.length := by
  cases i with
  | zero => rfl
  | succ k =>
    unfold am_cut
    dsimp only
    split
    · rw [List.length_set]
    · rfl
theorem al_sto_len (ls : am_L) (i : Nat) (v : am_V) : (am_sto ls i v).length = ls.length := by unfold am_sto; rw [List.length_set, al_cut_len]
theorem al_stol_len (ls : am_L) (i : Nat) (v : am_V) : (am_stol ls i v).length = ls.length := by unfold am_stol; rw [List.length_set, List.length_set, al_cut_len]
theorem al_sto {w : am_W} {lsC lsC' : Array Slot} {ls : am_L} {i : Nat} {v : am_V} (h : al_R w lsC ls) (hv : am_okv v) (h' : lv_has lsC' ls.length ((i, am_cv w v) :: (al_ls w ls).filter (fun q => !(q.1 == i) && !(q.1 + 1 == i && q.2.category == 2)))) : al_R w lsC' (am_sto ls i v) := by
  refine ⟨⟨by rw [al_sto_len]; exact h'.1, h'.2.1, fun q hq => by cases hq⟩, fun j u hu => ?_⟩
  rcases al_get_set hu with ⟨e, q⟩ | ⟨ne, hu⟩
  · cases q
    subst e
    exact ⟨h'.2.2 _ List.mem_cons_self, hv⟩
  · obtain ⟨hu, hc⟩ := al_get_cut hu
    refine ⟨h'.2.2 (j, am_cv w u) (List.mem_cons_of_mem _ (List.mem_filter.mpr ⟨al_mem.mpr ⟨u, hu, rfl⟩, ?_⟩)), (h.2 j u hu).2⟩
    simp only [Bool.and_eq_true, Bool.not_eq_true', beq_eq_false_iff_ne, Bool.and_eq_false_iff, al_cat]
    refine ⟨ne, ?_⟩
    by_cases e : j + 1 = i
    · exact Or.inr fun q => hc ⟨e, q⟩
    · exact Or.inl e
theorem al_stol {w : am_W} {lsC lsC' : Array Slot} {ls : am_L} {i : Nat} {v : am_V} (h : al_R w lsC ls) (hv : am_okv v) (h' : lv_has lsC' ls.length ((i, am_cv w v) :: (al_ls w ls).filter (fun q => !(q.1 == i) && (!(q.1 == i + 1) && !(q.1 + 1 == i && q.2.category == 2))))) : al_R w lsC' (am_stol ls i v) := by
  refine ⟨⟨by rw [al_stol_len]; exact h'.1, h'.2.1, fun q hq => by cases hq⟩, fun j u hu => ?_⟩
  rcases al_get_set hu with ⟨-, q⟩ | ⟨ne1, hu⟩
  · cases q
  rcases al_get_set hu with ⟨e, q⟩ | ⟨ne, hu⟩
  · cases q
    subst e
    exact ⟨h'.2.2 _ List.mem_cons_self, hv⟩
  · obtain ⟨hu, hc⟩ := al_get_cut hu
    refine ⟨h'.2.2 (j, am_cv w u) (List.mem_cons_of_mem _ (List.mem_filter.mpr ⟨al_mem.mpr ⟨u, hu, rfl⟩, ?_⟩)), (h.2 j u hu).2⟩
    simp only [Bool.and_eq_true, Bool.not_eq_true', beq_eq_false_iff_ne, Bool.and_eq_false_iff, al_cat]
    refine ⟨ne, ne1, ?_⟩
    by_cases e : j + 1 = i
    · exact Or.inr fun q => hc ⟨e, q⟩
    · exact Or.inl e
theorem al_slc (w : am_W) : ∀ vs : List am_V, lg_sl (vs.map (am_cv w)) = (am_sl vs).map (fun o => match o with
    | some v => Slot.val (am_cv w v)
    | none => Slot.second)
  | [] => rfl
  | .inl z :: vs => congrArg (fun l => Slot.val (am_cv w (.inl z)) :: l) (al_slc w vs)
  | .inr (.inl z) :: vs => congrArg (fun l => Slot.val (am_cv w (.inr (.inl z))) :: Slot.second :: l) (al_slc w vs)
  | .inr (.inr a) :: vs => congrArg (fun l => Slot.val (am_cv w (.inr (.inr a))) :: l) (al_slc w vs)
theorem al_sl_ok : ∀ (vs : List am_V), (∀ v ∈ vs, am_okv v) → ∀ (i : Nat) (v : am_V), (am_sl vs)[i]? = some (some v) → am_okv v
  | [], _, i, v, h => by simp [am_sl] at h
  | .inl z :: vs, hv, i, v, h => by
    cases i with
    | zero => cases h; exact hv _ List.mem_cons_self
    | succ i => exact al_sl_ok vs (fun u hu => hv u (List.mem_cons_of_mem _ hu)) i v h
  | .inr (.inl z) :: vs, hv, i, v, h => by
    cases i with
    | zero => cases h; exact hv _ List.mem_cons_self
    | succ i =>
      cases i with
      | zero => cases h
      | succ i => exact al_sl_ok vs (fun u hu => hv u (List.mem_cons_of_mem _ hu)) i v h
  | .inr (.inr a) :: vs, hv, i, v, h => by
    cases i with
    | zero => cases h; exact hv _ List.mem_cons_self
    | succ i => exact al_sl_ok vs (fun u hu => hv u (List.mem_cons_of_mem _ hu)) i v h
theorem al_ent_len {n : Nat} {vs : List am_V} (h : (am_sl vs).length ≤ n) : (am_ent n vs).length = n := by
  unfold am_ent
  rw [List.length_append, List.length_replicate]
  omega
theorem al_entry {w : am_W} {n : Nat} {vs : List am_V} (h : (am_sl vs).length ≤ n) (hv : ∀ v ∈ vs, am_okv v) : al_R w ((lg_sl (vs.map (am_cv w)) ++ List.replicate (n - (lg_sl (vs.map (am_cv w))).length) Slot.unset).toArray) (am_ent n vs) := by
  have hl : (lg_sl (vs.map (am_cv w))).length = (am_sl vs).length := by rw [al_slc, List.length_map]
  have h0 := lv_entry (vs.map (am_cv w)) (n := n) (by rw [hl]; exact h)
  refine ⟨⟨by rw [al_ent_len h]; exact h0.1, h0.2.1, fun q hq => by cases hq⟩, fun i v hg => ?_⟩
  have hi : (am_sl vs)[i]? = some (some v) := by
    unfold am_get am_ent at hg
    by_cases hlt : i < (am_sl vs).length
    · rw [List.getElem?_append_left hlt] at hg
      cases hx : (am_sl vs)[i]? with
      | none => rw [hx] at hg; cases hg
      | some x =>
        rw [hx] at hg
        cases x with
        | none => cases hg
        | some y => cases hg; rfl
    · rw [List.getElem?_append_right (by omega), List.getElem?_replicate] at hg
      split at hg
      · rename_i h9
        split at h9
        · cases h9
        · cases h9
      · cases hg
  refine ⟨?_, al_sl_ok vs hv i v hi⟩
  have hlt : i < (am_sl vs).length := (List.getElem?_eq_some_iff.mp hi).1
  rw [List.getElem?_toArray, List.getElem?_append_left (by rw [hl]; exact hlt), al_slc, List.getElem?_map, hi]
  rfl
