/-! ===== a small machine over whole numbers: memory by (cell, place), values, frames; its steps ===== -/
abbrev am_Mem : Type := Nat → Int → Int
/-- an int, a long, a cell's number -/
abbrev am_V : Type := Int ⊕ (Int ⊕ Nat)
/-- kind (below 100: an object of that number's class; 100 int[], 101 boolean[], 102 Town[], 103 int[][]), length, references (number + 1; 0: null) -/
abbrev am_SE : Type := Nat × Nat × List Nat
/-- shapes, cells and slots made since the method's entry, memory -/
abbrev am_H : Type := List am_SE × Nat × Nat × am_Mem
abbrev am_L : Type := List (Option am_V)
/-- owner's number, name, code, locals, result, cells and slots that it may make -/
abbrev am_M : Type := Nat × MethodName × ByteArray × Nat × Option FieldType × Nat × Nat
abbrev am_Res : Type := (Nat × am_L × List am_V × am_H) ⊕ ((Option am_V × am_H) ⊕ (am_M × List am_V × Nat × am_L × List am_V × am_H))
abbrev am_i (z : Int) : am_V := Sum.inl z
abbrev am_l (z : Int) : am_V := Sum.inr (Sum.inl z)
abbrev am_r (a : Nat) : am_V := Sum.inr (Sum.inr a)
def am_w (z : Int) : Int := Int.bmod z 4294967296
def am_wl (z : Int) : Int := Int.bmod z 18446744073709551616
abbrev am_ok (z : Int) : Prop := -2147483648 ≤ z ∧ z ≤ 2147483647
abbrev am_okl (z : Int) : Prop := -9223372036854775808 ≤ z ∧ z ≤ 9223372036854775807
def am_and (x y : Int) : Int := (Int32.ofInt x &&& Int32.ofInt y).toInt
def am_or (x y : Int) : Int := (Int32.ofInt x ||| Int32.ofInt y).toInt
def am_xor (x y : Int) : Int := (Int32.ofInt x ^^^ Int32.ofInt y).toInt
def am_shl (x y : Int) : Int := (Int32.ofInt x <<< (Int32.ofInt y &&& 31)).toInt
def am_shr (x y : Int) : Int := (Int32.ofInt x >>> (Int32.ofInt y &&& 31)).toInt
def am_ushr (x y : Int) : Int := ((Int32.ofInt x).toUInt32 >>> ((Int32.ofInt y).toUInt32 &&& Int32.toUInt32 31)).toInt32.toInt
def am_b8 (x : Int) : Int := (Int32.ofInt x).toInt8.toInt32.toInt
def am_b16 (x : Int) : Int := (Int32.ofInt x).toInt16.toInt32.toInt
def am_cat (v : am_V) : Nat := match v with
  | .inr (.inl _) => 2
  | _ => 1
/-- memory with one place changed -/
def am_up (σ : am_Mem) (a : Nat) (j : Int) (z : Int) : am_Mem := fun b k => if b = a ∧ k = j then z else σ b k
def am_clr (σ : am_Mem) (a n : Nat) : am_Mem := fun b k => if a ≤ b ∧ b < a + n then 0 else σ b k
def am_cpy (σ : am_Mem) (a : Nat) (i : Int) (b : Nat) (j n : Int) : am_Mem := fun q k => if q = b ∧ j ≤ k ∧ k < j + n then σ a (i + (k - j)) else σ q k
def am_get (ls : am_L) (i : Nat) : Option am_V := match ls[i]? with
  | some (some v) => some v
  | _ => none
/-- a long ahead of place i is gone when i is written -/
def am_cut (ls : am_L) (i : Nat) : am_L := match i with
  | 0 => ls
  | j + 1 => match am_get ls j with
    | some (.inr (.inl _)) => ls.set j none
    | _ => ls
def am_sto (ls : am_L) (i : Nat) (v : am_V) : am_L := (am_cut ls i).set i (some v)
def am_stol (ls : am_L) (i : Nat) (v : am_V) : am_L := ((am_cut ls i).set i (some v)).set (i + 1) none
def am_sl : List am_V → am_L
  | [] => []
  | .inr (.inl z) :: vs => some (.inr (.inl z)) :: none :: am_sl vs
  | v :: vs => some v :: am_sl vs
def am_ent (n : Nat) (vs : List am_V) : am_L := am_sl vs ++ List.replicate (n - (am_sl vs).length) none
def am_cmp (c : Jvm.ClassFile.Cond) (x y : Int) : Bool := match c with
  | .eq => decide (x = y)
  | .ne => !decide (x = y)
  | .lt => decide (x < y)
  | .ge => !decide (x < y)
  | .gt => !decide (x ≤ y)
  | .le => decide (x ≤ y)
section
variable (T_fld : Nat → Nat → Option (Nat × Nat)) (T_mth : Nat → Nat → Option (Nat × am_M × Nat)) (T_cst T_csl : Nat → Nat → Option Int) (T_new T_gst : Nat → Nat → Option Nat) (T_ref : Nat → Nat → Bool) (T_num : Nat → Nat) (T_fin : Nat → Nat → Bool)
def am_go (pc : Nat) (ls : am_L) (st : List am_V) (h : am_H) : Option am_Res := some (Sum.inl (pc, ls, st, h))
def am_pI (st : List am_V) (f : Int → List am_V → Option am_Res) : Option am_Res := match st with
  | .inl x :: r => f x r
  | _ => none
def am_pII (st : List am_V) (f : Int → Int → List am_V → Option am_Res) : Option am_Res := match st with
  | .inl y :: .inl x :: r => f x y r
  | _ => none
def am_pL (st : List am_V) (f : Int → List am_V → Option am_Res) : Option am_Res := match st with
  | .inr (.inl x) :: r => f x r
  | _ => none
def am_pLL (st : List am_V) (f : Int → Int → List am_V → Option am_Res) : Option am_Res := match st with
  | .inr (.inl y) :: .inr (.inl x) :: r => f x y r
  | _ => none
def am_pR (st : List am_V) (f : Nat → List am_V → Option am_Res) : Option am_Res := match st with
  | .inr (.inr a) :: r => f a r
  | _ => none
def am_pRI (st : List am_V) (f : Nat → Int → List am_V → Option am_Res) : Option am_Res := match st with
  | .inl j :: .inr (.inr a) :: r => f a j r
  | _ => none
def am_pRII (st : List am_V) (f : Nat → Int → Int → List am_V → Option am_Res) : Option am_Res := match st with
  | .inl z :: .inl j :: .inr (.inr a) :: r => f a j z r
  | _ => none
def am_pRIR (st : List am_V) (f : Nat → Int → Nat → List am_V → Option am_Res) : Option am_Res := match st with
  | .inr (.inr v) :: .inl j :: .inr (.inr a) :: r => f a j v r
  | _ => none
def am_pRV (st : List am_V) (f : Nat → am_V → List am_V → Option am_Res) : Option am_Res := match st with
  | v :: .inr (.inr a) :: r => f a v r
  | _ => none
def am_pCp (st : List am_V) (f : Nat → Int → Nat → Int → Int → List am_V → Option am_Res) : Option am_Res := match st with
  | .inl n :: .inl j :: .inr (.inr b) :: .inl i :: .inr (.inr a) :: r => f a i b j n r
  | _ => none
def am_lI (ls : am_L) (i : Nat) (f : Int → Option am_Res) : Option am_Res := match am_get ls i with
  | some (.inl z) => f z
  | _ => none
def am_lL (ls : am_L) (i : Nat) (f : Int → Option am_Res) : Option am_Res := match am_get ls i with
  | some (.inr (.inl z)) => f z
  | _ => none
def am_lR (ls : am_L) (i : Nat) (f : Nat → Option am_Res) : Option am_Res := match am_get ls i with
  | some (.inr (.inr z)) => f z
  | _ => none
def am_jmp (pc : Nat) (off : Int) (f : Nat → Option am_Res) : Option am_Res := if 0 ≤ (pc : Int) + off then f ((pc : Int) + off).toNat else none
def am_if (b : Prop) [Decidable b] (f : Option am_Res) : Option am_Res := if b then f else none
def am_sh (h : am_H) (a : Nat) (f : Nat → Nat → List Nat → Option am_Res) : Option am_Res := match h.1[a]? with
  | some e => f e.1 e.2.1 e.2.2
  | none => none
def am_rfs (rs : List Nat) (k : Nat) (f : Nat → Option am_Res) : Option am_Res := match rs[k]? with
  | some (t + 1) => f t
  | _ => none
def am_opt {α : Type} (o : Option α) (f : α → Option am_Res) : Option am_Res := match o with
  | some x => f x
  | none => none
def am_words (st : List am_V) : Nat := (st.map am_cat).sum
def am_getf (M : am_M) (ix pc : Nat) (ls : am_L) (st : List am_V) (h : am_H) : Option am_Res :=
  am_pR st fun a r => am_opt (T_fld M.1 ix) fun q => am_sh h a fun ki _ rs => am_if (3 ≤ a ∧ ki = q.1 ∧ q.2 < T_num q.1) <|
    if T_ref q.1 q.2 = true then am_rfs rs q.2 fun t => am_go (pc + 3) ls (am_r t :: r) h
    else am_go (pc + 3) ls (am_i (h.2.2.2 a q.2) :: r) h
def am_putf (M : am_M) (ix pc : Nat) (ls : am_L) (st : List am_V) (h : am_H) : Option am_Res :=
  am_pRV st fun a v r => am_opt (T_fld M.1 ix) fun q => am_sh h a fun ki n rs => am_if (3 ≤ a ∧ ki = q.1 ∧ q.2 < T_num q.1 ∧ (T_fin q.1 q.2 = true → M.2.1.name = "<init>" ∧ q.1 = M.1)) <|
    match v with
    | .inl z => am_if (T_ref q.1 q.2 = false) <| am_go (pc + 3) ls r (h.1, h.2.1, h.2.2.1, am_up h.2.2.2 a q.2 z)
    | .inr (.inr t) => am_if (T_ref q.1 q.2 = true ∧ q.2 < rs.length) <| am_go (pc + 3) ls r (h.1.set a (ki, n, rs.set q.2 (t + 1)), h.2)
    | _ => none
def am_call (M M' : am_M) (na pc : Nat) (ls : am_L) (st : List am_V) (h : am_H) : Option am_Res :=
  am_if (na ≤ st.length ∧ am_words (st.drop na) ≤ 8 ∧ h.2.1 + M'.2.2.2.2.2.1 ≤ M.2.2.2.2.2.1 ∧ h.2.2.1 + M'.2.2.2.2.2.2 ≤ M.2.2.2.2.2.2 ∧ (am_sl (st.take na).reverse).length ≤ M'.2.2.2.1) <|
    some (Sum.inr (Sum.inr (M', (st.take na).reverse, pc + 3, ls, st.drop na, h)))
def am_acp (pc : Nat) (ls : am_L) (st : List am_V) (h : am_H) : Option am_Res :=
  am_pCp st fun a i b j n r => am_sh h a fun ka na _ => am_sh h b fun kb nb _ =>
    am_if (3 ≤ a ∧ 3 ≤ b ∧ ka = 100 ∧ kb = 100 ∧ 0 ≤ i ∧ 0 ≤ j ∧ 0 ≤ n ∧ i + n ≤ na ∧ j + n ≤ nb ∧ am_words r ≤ 8) <|
      am_go (pc + 3) ls r (h.1, h.2.1, h.2.2.1, am_cpy h.2.2.2 a i b j n)
def am_mth (M : am_M) (h : am_H) (r : List am_V) (f : Option am_Res) : Option am_Res := am_if (h.2.1 ≤ M.2.2.2.2.2.1 ∧ h.2.2.1 ≤ M.2.2.2.2.2.2 ∧ am_words r ≤ 8) f
def am_new (M : am_M) (k len : Nat) (e : am_SE) (pc : Nat) (ls : am_L) (r : List am_V) (h : am_H) : Option am_Res :=
  am_if (h.2.1 + 1 ≤ M.2.2.2.2.2.1 ∧ h.2.2.1 + k ≤ M.2.2.2.2.2.2) <|
    am_go (pc + len) ls (am_r h.1.length :: r) (h.1 ++ [e], h.2.1 + 1, h.2.2.1 + k, am_clr h.2.2.2 h.1.length 1)
def am_new2 (M : am_M) (n k : Nat) (pc : Nat) (ls : am_L) (r : List am_V) (h : am_H) : Option am_Res :=
  am_if (h.2.1 + (1 + n) ≤ M.2.2.2.2.2.1 ∧ h.2.2.1 + (n + n * k) ≤ M.2.2.2.2.2.2) <|
    am_go (pc + 4) ls (am_r h.1.length :: r) (h.1 ++ ((103, n, (List.range n).map (fun i => h.1.length + 2 + i)) :: List.replicate n (100, k, [])), h.2.1 + (1 + n), h.2.2.1 + (n + n * k), am_clr h.2.2.2 h.1.length (1 + n))
def am_do (M : am_M) (i : Instr) (pc : Nat) (ls : am_L) (st : List am_V) (h : am_H) : Option am_Res := match i with
  | .iconst v => am_if (am_ok v) <| am_go (pc + 1) ls (am_i v :: st) h
  | .bipush v => am_if (-128 ≤ v ∧ v ≤ 127) <| am_go (pc + 2) ls (am_i v :: st) h
  | .sipush v => am_if (-32768 ≤ v ∧ v ≤ 32767) <| am_go (pc + 3) ls (am_i v :: st) h
  | .ldc ix => am_opt (T_cst M.1 ix) fun v => am_go (pc + 2) ls (am_i v :: st) h
  | .ldc_w ix => am_opt (T_cst M.1 ix) fun v => am_go (pc + 3) ls (am_i v :: st) h
  | .ldc2_w ix => am_opt (T_csl M.1 ix) fun v => am_go (pc + 3) ls (am_l v :: st) h
  | .iload ix => am_lI ls ix fun z => am_go (pc + 2) ls (am_i z :: st) h
  | .iload_n k => am_lI ls k.val fun z => am_go (pc + 1) ls (am_i z :: st) h
  | .lload ix => am_lL ls ix fun z => am_go (pc + 2) ls (am_l z :: st) h
  | .lload_n k => am_lL ls k.val fun z => am_go (pc + 1) ls (am_l z :: st) h
  | .aload ix => am_lR ls ix fun z => am_go (pc + 2) ls (am_r z :: st) h
  | .aload_n k => am_lR ls k.val fun z => am_go (pc + 1) ls (am_r z :: st) h
  | .istore ix => am_pI st fun z r => am_if (ix < ls.length) <| am_go (pc + 2) (am_sto ls ix (am_i z)) r h
  | .istore_n k => am_pI st fun z r => am_if (k.val < ls.length) <| am_go (pc + 1) (am_sto ls k.val (am_i z)) r h
  | .lstore ix => am_pL st fun z r => am_if (ix + 1 < ls.length) <| am_go (pc + 2) (am_stol ls ix (am_l z)) r h
  | .lstore_n k => am_pL st fun z r => am_if (k.val + 1 < ls.length) <| am_go (pc + 1) (am_stol ls k.val (am_l z)) r h
  | .astore ix => am_pR st fun z r => am_if (ix < ls.length) <| am_go (pc + 2) (am_sto ls ix (am_r z)) r h
  | .astore_n k => am_pR st fun z r => am_if (k.val < ls.length) <| am_go (pc + 1) (am_sto ls k.val (am_r z)) r h
  | .iinc ix c => am_lI ls ix fun z => am_if (ix < ls.length) <| am_go (pc + 3) (am_sto ls ix (am_i (am_w (z + c)))) st h
  | .iadd => am_pII st fun x y r => am_go (pc + 1) ls (am_i (am_w (x + y)) :: r) h
  | .isub => am_pII st fun x y r => am_go (pc + 1) ls (am_i (am_w (x - y)) :: r) h
  | .imul => am_pII st fun x y r => am_go (pc + 1) ls (am_i (am_w (x * y)) :: r) h
  | .idiv => am_pII st fun x y r => am_if (y ≠ 0) <| am_go (pc + 1) ls (am_i (am_w (Int.tdiv x y)) :: r) h
  | .irem => am_pII st fun x y r => am_if (y ≠ 0) <| am_go (pc + 1) ls (am_i (Int.tmod x y) :: r) h
  | .ineg => am_pI st fun x r => am_go (pc + 1) ls (am_i (am_w (-x)) :: r) h
  | .iand => am_pII st fun x y r => am_go (pc + 1) ls (am_i (am_and x y) :: r) h
  | .ior => am_pII st fun x y r => am_go (pc + 1) ls (am_i (am_or x y) :: r) h
  | .ixor => am_pII st fun x y r => am_go (pc + 1) ls (am_i (am_xor x y) :: r) h
  | .ishl => am_pII st fun x y r => am_go (pc + 1) ls (am_i (am_shl x y) :: r) h
  | .ishr => am_pII st fun x y r => am_go (pc + 1) ls (am_i (am_shr x y) :: r) h
  | .iushr => am_pII st fun x y r => am_go (pc + 1) ls (am_i (am_ushr x y) :: r) h
  | .i2b => am_pI st fun x r => am_go (pc + 1) ls (am_i (am_b8 x) :: r) h
  | .i2s => am_pI st fun x r => am_go (pc + 1) ls (am_i (am_b16 x) :: r) h
  | .i2l => am_pI st fun x r => am_go (pc + 1) ls (am_l x :: r) h
  | .l2i => am_pL st fun x r => am_go (pc + 1) ls (am_i (am_w x) :: r) h
  | .lmul => am_pLL st fun x y r => am_go (pc + 1) ls (am_l (am_wl (x * y)) :: r) h
  | .lrem => am_pLL st fun x y r => am_if (y ≠ 0) <| am_go (pc + 1) ls (am_l (Int.tmod x y) :: r) h
  | .dup => match st with
    | v :: r => am_if (am_cat v = 1) <| am_go (pc + 1) ls (v :: v :: r) h
    | _ => none
  | .pop => match st with
    | v :: r => am_if (am_cat v = 1) <| am_go (pc + 1) ls r h
    | _ => none
  | .dup2 => match st with
    | v :: w :: r => am_if (am_cat v = 1 ∧ am_cat w = 1) <| am_go (pc + 1) ls (v :: w :: v :: w :: r) h
    | _ => none
  | .goto off => am_jmp pc off fun t => am_go t ls st h
  | .if_icmp c off => am_pII st fun x y r => am_jmp pc off fun t => am_go (if am_cmp c x y = true then t else pc + 3) ls r h
  | .ifCond c off => am_pI st fun x r => am_jmp pc off fun t => am_go (if am_cmp c x 0 = true then t else pc + 3) ls r h
  | .tableswitch d lo hi offs => am_pI st fun x r =>
      if x < lo ∨ hi < x then am_jmp pc d fun t => am_go t ls r h
      else am_opt (offs[(x - lo).toNat]?) fun off => am_jmp pc off fun t => am_go t ls r h
  | .getfield ix => am_getf T_fld T_ref T_num M ix pc ls st h
  | .putfield ix => am_putf T_fld T_ref T_num T_fin M ix pc ls st h
  | .getstatic ix => am_opt (T_gst M.1 ix) fun a => am_if (a < 3) <| am_go (pc + 3) ls (am_r a :: st) h
  | .iaload => am_pRI st fun a j r => am_sh h a fun ki n _ => am_if (ki = 100 ∧ 0 ≤ j ∧ j < n) <| am_go (pc + 1) ls (am_i (h.2.2.2 a j) :: r) h
  | .baload => am_pRI st fun a j r => am_sh h a fun ki n _ => am_if (3 ≤ a ∧ ki = 101 ∧ 0 ≤ j ∧ j < n) <| am_go (pc + 1) ls (am_i (h.2.2.2 a j) :: r) h
  | .aaload => am_pRI st fun a j r => am_sh h a fun ki n rs => am_if (3 ≤ a ∧ (ki = 102 ∨ ki = 103) ∧ 0 ≤ j ∧ j < n) <| am_rfs rs j.toNat fun t => am_go (pc + 1) ls (am_r t :: r) h
  | .iastore => am_pRII st fun a j z r => am_sh h a fun ki n _ => am_if (3 ≤ a ∧ ki = 100 ∧ 0 ≤ j ∧ j < n) <| am_go (pc + 1) ls r (h.1, h.2.1, h.2.2.1, am_up h.2.2.2 a j z)
  | .bastore => am_pRII st fun a j z r => am_sh h a fun ki n _ => am_if (3 ≤ a ∧ ki = 101 ∧ 0 ≤ j ∧ j < n ∧ (z = 0 ∨ z = 1)) <| am_go (pc + 1) ls r (h.1, h.2.1, h.2.2.1, am_up h.2.2.2 a j z)
  | .aastore => am_pRIR st fun a j v r => am_sh h a fun ki n rs => am_sh h v fun kv _ _ => am_if (3 ≤ a ∧ 3 ≤ v ∧ ki = 102 ∧ kv = 5 ∧ 0 ≤ j ∧ j < n ∧ n = rs.length) <| am_go (pc + 1) ls r (h.1.set a (ki, n, rs.set j.toNat (v + 1)), h.2)
  | .arraylength => am_pR st fun a r => am_sh h a fun ki n _ => am_if ((ki = 100 ∨ (3 ≤ a ∧ ki = 101)) ∧ n ≤ 2147483647) <| am_go (pc + 1) ls (am_i n :: r) h
  | .new ix => am_opt (T_new M.1 ix) fun ci => am_if (ci < 100) <| am_new M (T_num ci) 3 (ci, T_num ci, List.replicate (T_num ci) 0) pc ls st h
  | .newarray ty => am_pI st fun z r => am_if (0 ≤ z ∧ z ≤ 100000) <| match ty with
    | .int => am_new M z.toNat 2 (100, z.toNat, []) pc ls r h
    | .boolean => am_new M z.toNat 2 (101, z.toNat, []) pc ls r h
    | _ => none
  | .anewarray ix => am_pI st fun z r => am_if (0 ≤ z ∧ z ≤ 100000 ∧ T_new M.1 ix = some 5) <| am_new M z.toNat 3 (102, z.toNat, List.replicate z.toNat 0) pc ls r h
  | .multianewarray ix 2 => am_pII st fun x y r => am_if (0 ≤ x ∧ 0 ≤ y ∧ x ≤ 100000 ∧ y ≤ 100000 ∧ T_new M.1 ix = some 103) <| am_new2 M x.toNat y.toNat pc ls r h
  | .invokevirtual ix => am_opt (T_mth M.1 ix) fun q => am_if (q.1 = 0 ∧ 0 < q.2.2) <| match (st.drop (q.2.2 - 1)) with
    | .inr (.inr a) :: _ => am_sh h a fun ki _ _ => am_if (3 ≤ a ∧ ki = q.2.1.1 ∧ ki < 100) <| am_call M q.2.1 q.2.2 pc ls st h
    | _ => none
  | .invokestatic ix => am_opt (T_mth M.1 ix) fun q => if q.1 = 5 then am_acp pc ls st h
      else if q.1 = 6 then am_pII st fun x y r => am_mth M h r <| am_go (pc + 3) ls (am_i (if x < y then y else x) :: r) h
      else if q.1 = 7 then am_pII st fun x y r => am_mth M h r <| am_go (pc + 3) ls (am_i (if y < x then y else x) :: r) h
      else if q.1 = 8 then am_pI st fun x r => am_mth M h r <| am_go (pc + 3) ls (am_i (if 0 ≤ x then x else am_w (0 - x)) :: r) h
      else am_if (q.1 = 1 ∨ q.1 = 3) <| am_call M q.2.1 q.2.2 pc ls st h
  | .invokespecial ix => am_opt (T_mth M.1 ix) fun q => if q.1 = 4 then (am_pR st fun _ r => am_if (am_words r ≤ 8) <| am_go (pc + 3) ls r h) else am_if (q.1 = 2 ∧ 0 < q.2.2) <| match (st.drop (q.2.2 - 1)) with
    | .inr (.inr _) :: _ => am_call M q.2.1 q.2.2 pc ls st h
    | _ => none
  | .ireturn => match st with
    | [.inl z] => am_if (h.2.1 ≤ M.2.2.2.2.2.1 ∧ h.2.2.1 ≤ M.2.2.2.2.2.2 ∧ (M.2.2.2.2.1 = some .int ∨ (M.2.2.2.2.1 = some .boolean ∧ (z = 0 ∨ z = 1)))) <| some (Sum.inr (Sum.inl (some (am_i z), h)))
    | _ => none
  | .return_ => match st with
    | [] => am_if (h.2.1 ≤ M.2.2.2.2.2.1 ∧ h.2.2.1 ≤ M.2.2.2.2.2.2 ∧ M.2.2.2.2.1 = none) <| some (Sum.inr (Sum.inl (none, h)))
    | _ => none
  | _ => none
def am_len (i : Instr) (n : Nat) : Nat := match i with
  | .bipush _ | .ldc _ | .iload _ | .lload _ | .aload _ | .istore _ | .lstore _ | .astore _ | .newarray _ => 2
  | .sipush _ | .ldc_w _ | .ldc2_w _ | .iinc _ _ | .goto _ | .if_icmp _ _ | .ifCond _ _ | .getfield _ | .putfield _ | .getstatic _ | .new _ | .anewarray _ | .invokevirtual _ | .invokestatic _ | .invokespecial _ => 3
  | .multianewarray _ _ => 4
  | .tableswitch _ _ _ _ => n
  | _ => 1
def am_step (M : am_M) (pc : Nat) (ls : am_L) (st : List am_V) (h : am_H) : Option am_Res := match decode M.2.2.1 pc with
  | .ok q => am_if (q.2 = am_len q.1 q.2) <| am_do T_fld T_mth T_cst T_csl T_new T_gst T_ref T_num T_fin M q.1 pc ls st h
  | _ => none
abbrev am_Post : Type := Option am_V → am_H → Prop
abbrev am_Cf : Type := Nat → am_L → List am_V → am_H → Prop
abbrev am_Cal : Type := am_M → List am_V → am_H → am_Post → Prop
def am_stp (C : am_Cal) (X : am_Cf) (Q : am_Post) (r : Option am_Res) : Prop := match r with
  | none => False
  | some (.inl c) => X c.1 c.2.1 c.2.2.1 c.2.2.2
  | some (.inr (.inl x)) => Q x.1 x.2
  | some (.inr (.inr y)) => C y.1 y.2.1 (y.2.2.2.2.2.1, 0, 0, y.2.2.2.2.2.2.2.2) (fun v h' => X y.2.2.1 y.2.2.2.1 (v.toList ++ y.2.2.2.2.1) (h'.1, y.2.2.2.2.2.2.1 + y.1.2.2.2.2.2.1, y.2.2.2.2.2.2.2.1 + y.1.2.2.2.2.2.2, h'.2.2.2))
/-- from here the method comes to its end with Q: the least such -/
def am_AW (C : am_Cal) (M : am_M) (Q : am_Post) (pc : Nat) (ls : am_L) (st : List am_V) (h : am_H) : Prop :=
  ∀ X : am_Cf, (∀ pc ls st h, am_stp C X Q (am_step T_fld T_mth T_cst T_csl T_new T_gst T_ref T_num T_fin M pc ls st h) → X pc ls st h) → X pc ls st h
def am_aw : Nat → am_Cal
  | 0 => fun _ _ _ _ => False
  | d + 1 => fun M as h Q => am_AW T_fld T_mth T_cst T_csl T_new T_gst T_ref T_num T_fin (am_aw d) M Q 0 (am_ent M.2.2.2.1 as) [] h
end
theorem am_stp_mono {C C' : am_Cal} (hC : ∀ M as h (Q Q' : am_Post), (∀ v h, Q v h → Q' v h) → C M as h Q → C' M as h Q') {X X' : am_Cf} (hX : ∀ pc ls st h, X pc ls st h → X' pc ls st h) {Q Q' : am_Post} (hQ : ∀ v h, Q v h → Q' v h) {r : Option am_Res} (h : am_stp C X Q r) : am_stp C' X' Q' r := by
  rcases r with _ | c | x | y
  · exact h
  · exact hX _ _ _ _ h
  · exact hQ _ _ h
  · exact hC _ _ _ _ _ (fun v h' q => hX _ _ _ _ q) h
