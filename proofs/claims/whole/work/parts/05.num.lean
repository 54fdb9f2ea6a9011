/-! ===== whole numbers and the machine's ints ===== -/
theorem an_toInt (z : Int) : (Int32.ofInt z).toInt = am_w z := Int32.toInt_ofInt
theorem an_toIntl (z : Int) : (Int64.ofInt z).toInt = am_wl z := Int64.toInt_ofInt
theorem an_of (x : Int32) : Int32.ofInt x.toInt = x := Int32.ofInt_toInt x
theorem an_w (z : Int) : Int32.ofInt (am_w z) = Int32.ofInt z := by rw [← an_toInt, an_of]
theorem an_wl (z : Int) : Int64.ofInt (am_wl z) = Int64.ofInt z := by rw [← an_toIntl]; exact Int64.ofInt_toInt _
theorem an_ok32 (x : Int32) : am_ok x.toInt := by
  have h1 := Int32.le_toInt x
  have h2 := Int32.toInt_lt x
  have h3 : x.toInt < 2147483648 := by simpa using h2
  exact ⟨by simpa using h1, by omega⟩
theorem an_ok64 (x : Int64) : am_okl x.toInt := by
  have h1 := Int64.le_toInt x
  have h2 := Int64.toInt_lt x
  have h3 : x.toInt < 9223372036854775808 := by simpa using h2
  exact ⟨by simpa using h1, by omega⟩
theorem an_okw (z : Int) : am_ok (am_w z) := by rw [← an_toInt]; exact an_ok32 _
theorem an_okwl (z : Int) : am_okl (am_wl z) := by rw [← an_toIntl]; exact an_ok64 _
theorem am_w_id {z : Int} (h : -2147483648 ≤ z ∧ z ≤ 2147483647) : am_w z = z := by
  unfold am_w
  rw [Int.bmod_def]
  split <;> omega
theorem am_wl_id {z : Int} (h : am_okl z) : am_wl z = z := by
  unfold am_wl
  rw [Int.bmod_def]
  have h1 := h.1
  have h2 := h.2
  split <;> omega
theorem an_id {z : Int} (h : am_ok z) : (Int32.ofInt z).toInt = z := by rw [an_toInt, am_w_id h]
theorem an_idl {z : Int} (h : am_okl z) : (Int64.ofInt z).toInt = z := by rw [an_toIntl, am_wl_id h]
theorem an_lt {x y : Int} (hx : am_ok x) (hy : am_ok y) : Int32.ofInt x < Int32.ofInt y ↔ x < y := by rw [Int32.lt_iff_toInt_lt, an_id hx, an_id hy]
theorem an_le {x y : Int} (hx : am_ok x) (hy : am_ok y) : Int32.ofInt x ≤ Int32.ofInt y ↔ x ≤ y := by rw [Int32.le_iff_toInt_le, an_id hx, an_id hy]
theorem an_eq {x y : Int} (hx : am_ok x) (hy : am_ok y) : Int32.ofInt x = Int32.ofInt y ↔ x = y := ⟨fun h => by have := congrArg Int32.toInt h; rwa [an_id hx, an_id hy] at this, fun h => by rw [h]⟩
theorem an_0 : Int32.ofInt 0 = 0 := rfl
theorem an_ok0 : am_ok 0 := by decide
theorem an_lt0 {x : Int} (hx : am_ok x) : Int32.ofInt x < 0 ↔ x < 0 := an_lt hx an_ok0
theorem an_eq0 {x : Int} (hx : am_ok x) : Int32.ofInt x = 0 ↔ x = 0 := an_eq hx an_ok0
theorem an_add (x y : Int) : Int32.ofInt (am_w (x + y)) = Int32.ofInt x + Int32.ofInt y := by rw [an_w, Int32.ofInt_add]
theorem an_sub (x y : Int) : Int32.ofInt (am_w (x - y)) = Int32.ofInt x - Int32.ofInt y := by rw [an_w, Int32.ofInt_sub]
theorem an_mul (x y : Int) : Int32.ofInt (am_w (x * y)) = Int32.ofInt x * Int32.ofInt y := by rw [an_w, Int32.ofInt_mul]
theorem an_neg (x : Int) : Int32.ofInt (am_w (-x)) = -Int32.ofInt x := by rw [an_w, Int32.ofInt_neg]
theorem an_div {x y : Int} (hx : am_ok x) (hy : am_ok y) : Int32.ofInt (am_w (Int.tdiv x y)) = Int32.ofInt x / Int32.ofInt y := by
  rw [an_w, Int32.ofInt_tdiv (show Int32.minValue.toInt ≤ x from hx.1) (show x ≤ Int32.maxValue.toInt from hx.2) (show Int32.minValue.toInt ≤ y from hy.1) (show y ≤ Int32.maxValue.toInt from hy.2)]
theorem an_mod {x y : Int} (hx : am_ok x) (hy : am_ok y) : Int32.ofInt (Int.tmod x y) = Int32.ofInt x - Int32.ofInt x / Int32.ofInt y * Int32.ofInt y := by
  rw [← an_div hx hy, an_w, ← Int32.ofInt_mul, ← Int32.ofInt_sub]
  congr 1
  have := Int.mul_tdiv_add_tmod x y
  rw [Int.mul_comm (Int.tdiv x y) y]
  omega
theorem an_modok {x y : Int} (hx : am_ok x) : am_ok (Int.tmod x y) := by
  have h1 := Int.natAbs_tmod x y
  have h2 : x.natAbs % y.natAbs ≤ x.natAbs := Nat.mod_le _ _
  have h3 : (Int.tmod x y) < 0 → x < 0 := fun h => by
    rcases Int.lt_or_le x 0 with g | g
    · exact g
    · exact absurd (Int.tmod_nonneg y g) (by omega)
  have h4 : x < 0 → Int.tmod x y ≤ 0 := fun h => by
    have h5 := Int.tmod_nonneg (a := -x) y (by omega)
    rw [Int.neg_tmod] at h5
    omega
  obtain ⟨a, b⟩ := hx
  constructor <;> omega
theorem an_mull (x y : Int) : Int64.ofInt (am_wl (x * y)) = Int64.ofInt x * Int64.ofInt y := by rw [an_wl, Int64.ofInt_mul]
theorem an_modl {x y : Int} (hx : am_okl x) (hy : am_okl y) : Int64.ofInt (Int.tmod x y) = Int64.ofInt x - Int64.ofInt x / Int64.ofInt y * Int64.ofInt y := by
  rw [← Int64.ofInt_tdiv (show Int64.minValue.toInt ≤ x from hx.1) (show x ≤ Int64.maxValue.toInt from hx.2) (show Int64.minValue.toInt ≤ y from hy.1) (show y ≤ Int64.maxValue.toInt from hy.2), ← Int64.ofInt_mul, ← Int64.ofInt_sub]
  congr 1
  have := Int.mul_tdiv_add_tmod x y
  rw [Int.mul_comm (Int.tdiv x y) y]
  omega
theorem an_modokl {x y : Int} (hx : am_okl x) : am_okl (Int.tmod x y) := by
  have h1 := Int.natAbs_tmod x y
  have h2 : x.natAbs % y.natAbs ≤ x.natAbs := Nat.mod_le _ _
  have h3 : (Int.tmod x y) < 0 → x < 0 := fun h => by
    rcases Int.lt_or_le x 0 with g | g
    · exact g
    · exact absurd (Int.tmod_nonneg y g) (by omega)
  have h4 : x < 0 → Int.tmod x y ≤ 0 := fun h => by
    have h5 := Int.tmod_nonneg (a := -x) y (by omega)
    rw [Int.neg_tmod] at h5
    omega
  obtain ⟨a, b⟩ := hx
  constructor <;> omega
theorem an_eql {x y : Int} (hx : am_okl x) (hy : am_okl y) : Int64.ofInt x = Int64.ofInt y ↔ x = y := ⟨fun h => by have := congrArg Int64.toInt h; rwa [an_idl hx, an_idl hy] at this, fun h => by rw [h]⟩
theorem an_i2l {x : Int} (hx : am_ok x) : (Int32.ofInt x).toInt64 = Int64.ofInt x := by
  apply Int64.toInt_inj.mp
  rw [Int32.toInt_toInt64, an_id hx, an_idl ⟨by have := hx.1; omega, by have := hx.2; omega⟩]
theorem an_l2i (x : Int) : (Int64.ofInt x).toInt32 = Int32.ofInt (am_w x) := by
  rw [an_w]
  apply Int32.toInt_inj.mp
  rw [Int64.toInt_toInt32, an_toIntl, an_toInt]
  unfold am_wl am_w
  rw [Int.bmod_bmod_of_dvd (by decide)]
theorem an_okl_of {x : Int} (h : am_ok x) : am_okl x := ⟨by have := h.1; omega, by have := h.2; omega⟩
theorem an_bi {n : Int} (h : -128 ≤ n ∧ n ≤ 127) : (Int8.ofInt n).toInt32 = Int32.ofInt n := by
  apply Int32.toInt_inj.mp
  rw [Int8.toInt_toInt32, Int8.toInt_ofInt, an_id ⟨by omega, by omega⟩]
  show Int.bmod n 256 = n
  rw [Int.bmod_def]
  split <;> omega
theorem an_si {n : Int} (h : -32768 ≤ n ∧ n ≤ 32767) : (Int16.ofInt n).toInt32 = Int32.ofInt n := by
  apply Int32.toInt_inj.mp
  rw [Int16.toInt_toInt32, Int16.toInt_ofInt, an_id ⟨by omega, by omega⟩]
  show Int.bmod n 65536 = n
  rw [Int.bmod_def]
  split <;> omega
theorem an_cl {z : Int} (h : am_ok z) : (Int32.ofInt z).toNatClampNeg = z.toNat := by
  show (Int32.ofInt z).toInt.toNat = z.toNat
  rw [an_id h]
theorem an_in {z : Int} {n : Nat} (h : am_ok z) (h0 : 0 ≤ z) (h1 : z < n) : vp_in (Int32.ofInt z) n := by
  intro q
  rw [an_lt0 h, an_cl h] at q
  omega
theorem an_nat {z : Int} (h0 : 0 ≤ z) : ((z.toNat : Nat) : Int) = z := Int.toNat_of_nonneg h0
