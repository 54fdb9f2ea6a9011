/-! ===== the heap's picture under writes and makings ===== -/
theorem ah_ad {w : am_W} {a : Nat} (h : 3 ≤ a) : am_ad w a = aw_bs w + (a - 3) := if_neg (by omega)
theorem ah_inj {w : am_W} {a b : Nat} (ha : 3 ≤ a) (hb : 3 ≤ b) (h : am_ad w a = am_ad w b) : a = b := by
  rw [ah_ad ha, ah_ad hb] at h
  omega
theorem ah_setself {α : Type} {l : List α} {a : Nat} {e : α} (h : l[a]? = some e) : l.set a e = l := by
  apply List.ext_getElem?
  intro i
  by_cases hi : i = a
  · subst hi
    rw [List.getElem?_set_self (List.getElem?_eq_some_iff.mp h).1, h]
  · rw [List.getElem?_set_ne (Ne.symm hi)]
theorem ah_set {w : am_W} {h : am_H} {H H' : Heap} {a : Nat} {e e' : am_SE} {σ' : am_Mem} {c' s' : Nat} (hH : am_HR w h H) (h3 : 3 ≤ a) (he : h.1[a]? = some e) (hsz : H'.size = H.size) (hoth : ∀ q, q ≠ am_ad w a → H'[q]? = H[q]?)
    (hat : va_at (aw_D w) xr_cl (am_ad w a, am_en w e' (σ' a)) H') (h8 : e'.1 < 100 → e'.1 < 8) (hσ : ∀ b, b ≠ a → σ' b = h.2.2.2 b) (hok : ∀ j, am_ok (σ' a j)) : am_HR w (h.1.set a e', c', s', σ') H' := by
  obtain ⟨h1, h2, h4, h5, h6⟩ := hH
  have hlt : a < h.1.length := (List.getElem?_eq_some_iff.mp he).1
  refine ⟨fun b x hb hx => ?_, fun b hb => ?_, ⟨?_, ?_⟩, fun q hq => ?_, fun b j => ?_⟩
  · dsimp only at hx
    by_cases hba : b = a
    · subst hba
      rw [List.getElem?_set_self hlt] at hx
      cases hx
      exact ⟨hat, h8⟩
    · rw [List.getElem?_set_ne (Ne.symm hba)] at hx
      refine ⟨?_, (h1 b x hb hx).2⟩
      show va_at _ _ (_, am_en w x (σ' b)) _
      rw [hσ b hba]
      exact (h1 b x hb hx).1.kept (hoth _ (fun q => hba (ah_inj hb h3 q)))
  · have hba : b ≠ a := by omega
    dsimp only
    rw [List.getElem?_set_ne (Ne.symm hba), hσ b hba]
    exact h2 b hb
  · rw [List.length_set]; exact h4.1
  · rw [List.length_set, hsz]; exact h4.2
  · rw [hoth q (by rw [ah_ad h3]; omega)]
    exact h5 q hq
  · dsimp only
    by_cases hba : b = a
    · subst hba; exact hok j
    · rw [hσ b hba]; exact h6 b j
theorem ah_set' {w : am_W} {h : am_H} {H H' : Heap} {a : Nat} {e : am_SE} {σ' : am_Mem} {c' s' : Nat} (hH : am_HR w h H) (h3 : 3 ≤ a) (he : h.1[a]? = some e) (hsz : H'.size = H.size) (hoth : ∀ q, q ≠ am_ad w a → H'[q]? = H[q]?)
    (hat : va_at (aw_D w) xr_cl (am_ad w a, am_en w e (σ' a)) H') (hσ : ∀ b, b ≠ a → σ' b = h.2.2.2 b) (hok : ∀ j, am_ok (σ' a j)) : am_HR w (h.1, c', s', σ') H' := by
  have h := ah_set (c' := c') (s' := s') hH h3 he hsz hoth hat (hH.1 a e h3 he).2 hσ hok
  rw [ah_setself he] at h
  exact h
theorem ah_clr_lt {σ : am_Mem} {n k b : Nat} (h : b < n) : am_clr σ n k b = σ b := by
  funext j
  unfold am_clr
  rw [if_neg (by omega)]
theorem ah_clr_in {σ : am_Mem} {n k b : Nat} (h : n ≤ b) (h2 : b < n + k) : am_clr σ n k b = fun _ => 0 := by
  funext j
  unfold am_clr
  rw [if_pos ⟨h, h2⟩]
theorem ah_clr_ok {σ : am_Mem} {n k : Nat} (h : ∀ a j, am_ok (σ a j)) (a : Nat) (j : Int) : am_ok (am_clr σ n k a j) := by
  unfold am_clr
  split
  · exact an_ok0
  · exact h a j
theorem ah_app {w : am_W} {h : am_H} {H H' : Heap} {es : List am_SE} {c' s' : Nat} (hH : am_HR w h H) (hsz : H'.size = H.size + es.length) (hold : ∀ q, q < H.size → H'[q]? = H[q]?)
    (hnew : ∀ i e, es[i]? = some e → va_at (aw_D w) xr_cl (H.size + i, am_en w e (fun _ => 0)) H' ∧ (e.1 < 100 → e.1 < 8)) : am_HR w (h.1 ++ es, c', s', am_clr h.2.2.2 h.1.length es.length) H' := by
  obtain ⟨h1, h2, h4, h5, h6⟩ := hH
  refine ⟨fun b x hb hx => ?_, fun b hb => ?_, ⟨?_, ?_⟩, fun q hq => ?_, fun b j => ah_clr_ok h6 b j⟩
  · dsimp only at hx
    by_cases hlt : b < h.1.length
    · rw [List.getElem?_append_left hlt] at hx
      refine ⟨?_, (h1 b x hb hx).2⟩
      show va_at _ _ (_, am_en w x (am_clr h.2.2.2 h.1.length es.length b)) _
      rw [ah_clr_lt hlt]
      exact (h1 b x hb hx).1.kept (hold _ (h1 b x hb hx).1.lt)
    · rw [List.getElem?_append_right (by omega)] at hx
      have hl := (List.getElem?_eq_some_iff.mp hx).1
      refine ⟨?_, (hnew _ x hx).2⟩
      show va_at _ _ (_, am_en w x (am_clr h.2.2.2 h.1.length es.length b)) _
      rw [ah_clr_in (by omega) (by omega)]
      have hh := (hnew _ x hx).1
      have e : H.size + (b - h.1.length) = am_ad w b := by rw [ah_ad hb, h4.2]; have := h4.1; omega
      rw [e] at hh
      exact hh
  · dsimp only
    have hlt : b < h.1.length := by have := h4.1; omega
    rw [List.getElem?_append_left hlt, ah_clr_lt hlt]
    exact h2 b hb
  · rw [List.length_append]; have := h4.1; omega
  · rw [List.length_append, hsz, h4.2]; have := h4.1; omega
  · rw [hold q (by rw [h4.2]; omega)]
    exact h5 q hq
theorem ah_en_obj {w : am_W} {e : am_SE} {f : Int → Int} (h : e.1 < 100) : am_en w e f = .inr (e.1, am_fs w e f) := if_pos h
theorem ah_en_arr {w : am_W} {e : am_SE} {f : Int → Int} (h : ¬ e.1 < 100) (h2 : e.1 < 102) : am_en w e f = .inl (aw_cy w e.1, e.2.1, .inl (fun j => Int32.ofInt (f j))) := by unfold am_en; rw [if_neg h, if_pos h2]
theorem ah_en_rfs {w : am_W} {e : am_SE} {f : Int → Int} (h : ¬ e.1 < 100) (h2 : ¬ e.1 < 102) : am_en w e f = .inl (aw_cy w e.1, e.2.1, .inr (.inr (.inr (.inr (fun j => am_rf w (e.2.2.getD j 0)))))) := by unfold am_en; rw [if_neg h, if_neg h2]
theorem ah_one {D : va_G} {cl : List vw_C} {q : Nat × va_E} {H : Heap} (h : va_at D cl q H) : va_P D cl [q] H := by
  intro k x hx
  cases k with
  | zero => cases hx; exact h
  | succ k => cases hx
theorem ah_fs_get {w : am_W} {e : am_SE} {f : Int → Int} {k : Nat} (hk : k < xr_num e.1) : (am_fs w e f)[k]? = some (am_fv w e f k) := by
  unfold am_fs
  rw [List.getElem?_map, List.getElem?_range hk]
  rfl
theorem ah_fs_len (w : am_W) (e : am_SE) (f : Int → Int) : (am_fs w e f).length = xr_num e.1 := by unfold am_fs; rw [List.length_map, List.length_range]
theorem ah_up_self (σ : am_Mem) (a : Nat) (j z : Int) : am_up σ a j z a = fun k => if k = j then z else σ a k := by
  funext k
  unfold am_up
  by_cases h : k = j
  · rw [if_pos ⟨rfl, h⟩, if_pos h]
  · rw [if_neg (fun q => h q.2), if_neg h]
theorem ah_up_ne (σ : am_Mem) {a b : Nat} (j z : Int) (h : b ≠ a) : am_up σ a j z b = σ b := by
  funext k
  unfold am_up
  rw [if_neg (fun q => h q.1)]
theorem ah_cpy_ne (σ : am_Mem) (a : Nat) {b q : Nat} (i j n : Int) (h : q ≠ b) : am_cpy σ a i b j n q = σ q := by
  funext k
  unfold am_cpy
  rw [if_neg (fun z => h z.1)]
theorem ah_up_ok {σ : am_Mem} {a : Nat} {j z : Int} (h : ∀ b k, am_ok (σ b k)) (hz : am_ok z) (b : Nat) (k : Int) : am_ok (am_up σ a j z b k) := by
  unfold am_up
  split
  · exact hz
  · exact h b k
theorem ah_fs_seti {w : am_W} {e : am_SE} {f : Int → Int} {k : Nat} {z : Int} (hr : xr_ref e.1 k = false) : am_fs w e (fun j => if j = (k : Int) then z else f j) = (am_fs w e f).set k (.int (Int32.ofInt z)) := by
  apply List.ext_getElem?
  intro i
  by_cases hi : i < xr_num e.1
  · rw [ah_fs_get hi]
    by_cases e9 : i = k
    · subst e9
      rw [List.getElem?_set_self (by rw [ah_fs_len]; exact hi)]
      unfold am_fv
      rw [hr]
      simp
    · rw [List.getElem?_set_ne (Ne.symm e9), ah_fs_get hi]
      unfold am_fv
      dsimp only
      rw [if_neg (show ¬ ((i : Nat) : Int) = (k : Int) from fun q => e9 (by omega))]
  · rw [List.getElem?_eq_none (by rw [ah_fs_len]; omega), List.getElem?_eq_none (by rw [List.length_set, ah_fs_len]; omega)]
theorem ah_fs_setr {w : am_W} {ki n : Nat} {rs : List Nat} {f : Int → Int} {k t : Nat} (hr : xr_ref ki k = true) (hl : k < rs.length) : am_fs w (ki, n, rs.set k (t + 1)) f = (am_fs w (ki, n, rs) f).set k (.ref (am_ad w t)) := by
  apply List.ext_getElem?
  intro i
  by_cases hi : i < xr_num ki
  · rw [ah_fs_get (show i < xr_num (ki, n, rs.set k (t + 1)).1 from hi)]
    by_cases e9 : i = k
    · subst e9
      rw [List.getElem?_set_self (by rw [ah_fs_len]; exact hi)]
      unfold am_fv
      rw [if_pos hr]
      simp [hl, am_rf, va_rf]
    · rw [List.getElem?_set_ne (Ne.symm e9), ah_fs_get (show i < xr_num (ki, n, rs).1 from hi)]
      unfold am_fv
      simp [Ne.symm e9]
  · rw [List.getElem?_eq_none (by rw [ah_fs_len]; exact Nat.not_lt.mp hi), List.getElem?_eq_none (by rw [List.length_set, ah_fs_len]; exact Nat.not_lt.mp hi)]
theorem ah_upd {f : Int → Int} {j z : Int} (h0 : 0 ≤ j) : (fun i : Nat => Int32.ofInt (if (i : Int) = j then z else f i)) = upd (fun i : Nat => Int32.ofInt (f i)) j.toNat (Int32.ofInt z) := by
  funext i
  unfold upd
  by_cases h : i = j.toNat
  · rw [if_pos h, if_pos (by omega)]
  · rw [if_neg h, if_neg (by omega)]
theorem ah_lays {c : Nat} (h : c < 8) : ∀ w ∈ u_ws (xr_R c) (xr_T c) (xr_num c), w ∈ xr_wds := by
  intro w hw
  have := List.all_eq_true.mp (xr_lays c h) w hw
  simp only [Bool.and_eq_true] at this
  exact List.mem_filter.mpr ⟨List.contains_iff_mem.mp this.2, this.1⟩
