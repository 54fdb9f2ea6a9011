/-! the start: class and model alike, and the whole law in the small machine -/
theorem mp_init {σ0 σ : am_Mem} (I : mk_I σ0 94 8 8 σ) (hc : mr_cst σ0) : mr_R σ := by
  obtain ⟨h1, z, h4, h5⟩ := I
  refine ⟨fun _ => 0, ⟨⟨by decide, by decide, fun h => absurd h (by decide), by decide, fun c c0 c1 => ?_, fun x x0 x1 => ?_⟩, by decide, ⟨⟨z 18 (by decide) (by decide) (by decide) (by decide) 5, z 18 (by decide) (by decide) (by decide) (by decide) 6, z 18 (by decide) (by decide) (by decide) (by decide) 7, z 18 (by decide) (by decide) (by decide) (by decide) 8, z 18 (by decide) (by decide) (by decide) (by decide) 9, z 18 (by decide) (by decide) (by decide) (by decide) 10, z 18 (by decide) (by decide) (by decide) (by decide) 11, z 18 (by decide) (by decide) (by decide) (by decide) 12⟩, fun c c0 c1 => ?_, fun x x0 x1 => ?_⟩, fun k _ _ => z 81 (by decide) (by decide) (by decide) (by decide) k⟩, ?_, fun r r0 r1 => Or.inl ⟨h4 r r0 r1, h5 r r0 r1⟩, ?_, ?_, ?_, fun k k0 k1 => Or.inl ⟨z 86 (by decide) (by decide) (by decide) (by decide) k, z (31 + 6 * k.toNat) (by omega) (by omega) (by omega) (by omega) 5⟩, ?_, ?_⟩
  · have : c < 0 := c1
    omega
  · have : x < 0 := x1
    omega
  · have : c < 0 := c1
    omega
  · have : x < 0 := x1
    omega
  · unfold mr_acts
    rw [z 43 (by decide) (by decide) (by decide) (by decide) 2, z 43 (by decide) (by decide) (by decide) (by decide) 1, z 75 (by decide) (by decide) (by decide) (by decide) 17]
    exact ⟨rfl, by decide, by decide, by decide, by decide, fun _ _ => 0, fun _ _ _ => rfl, fun i i0 i1 => by omega⟩
  · exact (z 3 (by decide) (by decide) (by decide) (by decide) 8).trans (z 75 (by decide) (by decide) (by decide) (by decide) 4).symm
  · exact (z 3 (by decide) (by decide) (by decide) (by decide) 9).trans (z 75 (by decide) (by decide) (by decide) (by decide) 7).symm
  · unfold mr_tape
    rw [z 16 (by decide) (by decide) (by decide) (by decide) 1, z 75 (by decide) (by decide) (by decide) (by decide) 6]
    exact ⟨rfl, by decide, by decide, fun i i0 i1 => by omega⟩
  · unfold mr_tr
    rw [z 73 (by decide) (by decide) (by decide) (by decide) 1, z 75 (by decide) (by decide) (by decide) (by decide) 31]
    exact ⟨rfl, by decide, by decide, fun i i0 i1 => by omega⟩
  · unfold mr_cst
    rw [h1 0 (by decide), h1 1 (by decide), h1 2 (by decide)]
    exact hc
theorem mp_whole {L d : Nat} {Q : am_Post} {σ : am_Mem} (hd : 21 ≤ d) (hL : L ≤ 512) (hc : mr_cst σ) (hQ : ∀ σ', Q (some (am_i 1)) (rn_h L 91 2912 σ')) : xs_AW (xs_aw d) me_L_law Q 0 [some (am_r 0), none, none, none] [] (sc_0 L, 0, 0, σ) := by
  refine tc_L (σ0 := σ) (by omega) ⟨fun _ _ => rfl, fun a a3 aN => by omega, fun k k0 k1 => by omega, fun k k0 k1 => by omega⟩ (fun σ' I => ?_)
  obtain ⟨σ2, e⟩ := mp_law (n := 10000000000) (L := L) (Nat.le_refl _) hL 64 65 0 σ' (mp_init I hc) (by omega) (by omega) (by omega) (by omega)
  have K := tlq_L_law_18 (L := L) (n := 10000000000) (d := d) (kc := 91) (ks := 2912) (Q := Q) (p0 := 0) (p0_n := L) (rr := 1) (σr := σ2) hd (by decide) (by decide) (sh_0 L) (by omega) (hQ σ2) 65 0 σ' e
  rw [sc_end]
  exact K
