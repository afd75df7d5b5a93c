/-! Ints of the machine as whole numbers -/
def z_i (x : Int) : Value := .int (Int32.ofInt x)
def z_l (x : Int) : Value := .long (Int64.ofInt x)
abbrev zR (x : Int) : Prop := -2147483648 ≤ x ∧ x ≤ 2147483647
abbrev zRL (x : Int) : Prop := -9223372036854775808 ≤ x ∧ x ≤ 9223372036854775807
theorem z_toInt {x : Int} (h : zR x) : (Int32.ofInt x).toInt = x := Int32.toInt_ofInt_of_le (by omega) (by omega)
theorem z_toIntL {x : Int} (h : zRL x) : (Int64.ofInt x).toInt = x := Int64.toInt_ofInt_of_le (by omega) (by omega)
theorem z_inj {x y : Int} (hx : zR x) (hy : zR y) : Int32.ofInt x = Int32.ofInt y ↔ x = y := by
  rw [← Int32.toInt_inj, z_toInt hx, z_toInt hy]
theorem z_zero : Int32.ofInt 0 = 0 := by decide +kernel
theorem z_eq {x y : Int} (hx : zR x) (hy : zR y) : Int32.ofInt x = Int32.ofInt y ↔ x = y := z_inj hx hy
theorem z_eq0 {x : Int} (hx : zR x) : Int32.ofInt x = 0 ↔ x = 0 := by rw [← z_zero]; exact z_inj hx (by omega)
theorem z_lt {x y : Int} (hx : zR x) (hy : zR y) : Int32.ofInt x < Int32.ofInt y ↔ x < y := by rw [Int32.lt_iff_toInt_lt, z_toInt hx, z_toInt hy]
theorem z_le {x y : Int} (hx : zR x) (hy : zR y) : Int32.ofInt x ≤ Int32.ofInt y ↔ x ≤ y := by rw [Int32.le_iff_toInt_le, z_toInt hx, z_toInt hy]
theorem z_ge {x y : Int} (hx : zR x) (hy : zR y) : Int32.ofInt y ≤ Int32.ofInt x ↔ y ≤ x := z_le hy hx
theorem z_gt {x y : Int} (hx : zR x) (hy : zR y) : Int32.ofInt y < Int32.ofInt x ↔ y < x := z_lt hy hx
theorem z_lt0 {x : Int} (hx : zR x) : Int32.ofInt x < 0 ↔ x < 0 := by rw [← z_zero]; exact z_lt hx (by omega)
theorem z_le0 {x : Int} (hx : zR x) : Int32.ofInt x ≤ 0 ↔ x ≤ 0 := by rw [← z_zero]; exact z_le hx (by omega)
theorem z_ge0 {x : Int} (hx : zR x) : 0 ≤ Int32.ofInt x ↔ 0 ≤ x := by rw [← z_zero]; exact z_le (by omega) hx
theorem z_gt0 {x : Int} (hx : zR x) : 0 < Int32.ofInt x ↔ 0 < x := by rw [← z_zero]; exact z_lt (by omega) hx
theorem z_add (x y : Int) : Value.int (Int32.ofInt x + Int32.ofInt y) = z_i (x + y) := congrArg Value.int (Int32.ofInt_add x y).symm
theorem z_sub (x y : Int) : Value.int (Int32.ofInt x - Int32.ofInt y) = z_i (x - y) := congrArg Value.int (Int32.ofInt_sub x y).symm
theorem z_mul (x y : Int) : Value.int (Int32.ofInt x * Int32.ofInt y) = z_i (x * y) := congrArg Value.int (Int32.ofInt_mul x y).symm
theorem z_neg (x : Int) : Value.int (-Int32.ofInt x) = z_i (-x) := congrArg Value.int (Int32.ofInt_neg x).symm
theorem z_ladd (x y : Int) : Value.long (Int64.ofInt x + Int64.ofInt y) = z_l (x + y) := congrArg Value.long (Int64.ofInt_add x y).symm
theorem z_lmul (x y : Int) : Value.long (Int64.ofInt x * Int64.ofInt y) = z_l (x * y) := congrArg Value.long (Int64.ofInt_mul x y).symm
theorem z_min : Int32.minValue.toInt = -2147483648 := by decide +kernel
theorem z_max : Int32.maxValue.toInt = 2147483647 := by decide +kernel
theorem z_minL : Int64.minValue.toInt = -9223372036854775808 := by decide +kernel
theorem z_maxL : Int64.maxValue.toInt = 9223372036854775807 := by decide +kernel
theorem z_div {x y : Int} (hx : zR x) (hy : zR y) : Value.int (Int32.ofInt x / Int32.ofInt y) = z_i (x.tdiv y) :=
  congrArg Value.int (Int32.ofInt_tdiv (by rw [z_min]; omega) (by rw [z_max]; omega) (by rw [z_min]; omega) (by rw [z_max]; omega)).symm
theorem z_rem {x y : Int} (hx : zR x) (hy : zR y) : Value.int (Int32.ofInt x - Int32.ofInt x / Int32.ofInt y * Int32.ofInt y) = z_i (x.tmod y) := by
  have h1 : Int32.ofInt (x.tdiv y) = Int32.ofInt x / Int32.ofInt y := Int32.ofInt_tdiv (by rw [z_min]; omega) (by rw [z_max]; omega) (by rw [z_min]; omega) (by rw [z_max]; omega)
  unfold z_i
  rw [Int.tmod_def, Int32.ofInt_sub, Int32.ofInt_mul, h1, Int32.mul_comm]
theorem z_ldiv {x y : Int} (hx : zRL x) (hy : zRL y) : Value.long (Int64.ofInt x / Int64.ofInt y) = z_l (x.tdiv y) :=
  congrArg Value.long (Int64.ofInt_tdiv (by rw [z_minL]; omega) (by rw [z_maxL]; omega) (by rw [z_minL]; omega) (by rw [z_maxL]; omega)).symm
theorem z_ne {y : Int} (hy : zR y) (hne : y ≠ 0) : ¬ Int32.ofInt y = 0 := fun q => hne ((z_eq0 hy).mp q)
theorem z_lne {y : Int} (hy : zRL y) (hne : y ≠ 0) : ¬ Int64.ofInt y = 0 := fun q => hne (by
  have h := congrArg Int64.toInt q
  rw [z_toIntL hy] at h
  rw [h]
  decide +kernel)
theorem z_i2l {x : Int} (hx : zR x) : (Int32.ofInt x).toInt64 = Int64.ofInt x := Int32.toInt64_ofInt (by rw [z_min]; omega) (by rw [z_max]; omega)
def z_and (x y : Int) : Int := (Int32.ofInt x &&& Int32.ofInt y).toInt
def z_or (x y : Int) : Int := (Int32.ofInt x ||| Int32.ofInt y).toInt
def z_shl (x y : Int) : Int := (Int32.ofInt x <<< (Int32.ofInt y &&& 31)).toInt
def z_shr (x y : Int) : Int := (Int32.ofInt x >>> (Int32.ofInt y &&& 31)).toInt
theorem z_andE (x y : Int) : Value.int (Int32.ofInt x &&& Int32.ofInt y) = z_i (z_and x y) := congrArg Value.int (Int32.ofInt_toInt _).symm
theorem z_orE (x y : Int) : Value.int (Int32.ofInt x ||| Int32.ofInt y) = z_i (z_or x y) := congrArg Value.int (Int32.ofInt_toInt _).symm
theorem z_shlE (x y : Int) : Value.int (Int32.ofInt x <<< (Int32.ofInt y &&& 31)) = z_i (z_shl x y) := congrArg Value.int (Int32.ofInt_toInt _).symm
theorem z_shrE (x y : Int) : Value.int (Int32.ofInt x >>> (Int32.ofInt y &&& 31)) = z_i (z_shr x y) := congrArg Value.int (Int32.ofInt_toInt _).symm
theorem z_rng (x : Int32) : zR x.toInt := by
  have h1 := Int32.minValue_le_toInt x
  have h2 := Int32.toInt_le x
  rw [z_min] at h1
  rw [z_max] at h2
  exact ⟨h1, h2⟩
def z_cmp (x y : Int) : Int := if y < x then 1 else if x = y then 0 else -1
theorem z_cmpE {x y : Int} (hx : zRL x) (hy : zRL y) : Value.int (lg_cmp (Int64.ofInt x) (Int64.ofInt y)) = z_i (z_cmp x y) := by
  unfold lg_cmp z_cmp z_i
  have e1 : (Int64.ofInt x > Int64.ofInt y) ↔ y < x := by rw [gt_iff_lt, Int64.lt_iff_toInt_lt, z_toIntL hx, z_toIntL hy]
  have e2 : (Int64.ofInt x = Int64.ofInt y) ↔ x = y := by rw [← Int64.toInt_inj, z_toIntL hx, z_toIntL hy]
  by_cases h1 : y < x
  · rw [if_pos (e1.mpr h1), if_pos h1]
    decide +kernel
  · rw [if_neg (fun q => h1 (e1.mp q)), if_neg h1]
    by_cases h2 : x = y
    · rw [if_pos (e2.mpr h2), if_pos h2]
      decide +kernel
    · rw [if_neg (fun q => h2 (e2.mp q)), if_neg h2]
      decide +kernel
theorem z_cmp_rng (x y : Int) : zR (z_cmp x y) := by
  unfold z_cmp
  split
  · omega
  · split <;> omega
theorem z_bv (x : Int) : (Int32.ofInt x).toBitVec.toNat = (x % 4294967296).toNat := by
  have h : (Int32.ofInt x).toBitVec = BitVec.ofInt 32 x := rfl
  rw [h, BitVec.toNat_ofInt]
  rfl
theorem z_i2c (x : Int) : ((Int32.ofInt x).toUInt32 % 65536).toInt32 = Int32.ofInt (x % 65536) := by
  rw [pk_char, z_bv]
  have h : ((x % 4294967296).toNat % 65536 : Nat) = (x % 65536).toNat := by omega
  rw [h]
  show Int32.ofNat (x % 65536).toNat = _
  rw [← Int32.ofInt_eq_ofNat]
  congr 1
  omega
theorem z_andM (x : Int) (k : Nat) (hk : k ≤ 30) {y : Int} (hy : y = 2 ^ k - 1) : z_and x y = x % 2 ^ k := by
  have h2 : (2 : Int) ^ k = ((2 ^ k : Nat) : Int) := by simp
  have hp : 2 ^ k ≤ 2 ^ 30 := Nat.pow_le_pow_right (by omega) hk
  have hpos : 0 < 2 ^ k := Nat.two_pow_pos k
  have hd : 2 ^ k ∣ 4294967296 := by
    have h3 : (4294967296 : Nat) = 2 ^ 32 := rfl
    rw [h3]
    exact Nat.pow_dvd_pow 2 (by omega)
  unfold z_and
  have hm : (Int32.ofInt y).toBitVec.toNat = 2 ^ k - 1 := by
    rw [z_bv, hy, h2]
    have h4 : (((2 ^ k : Nat) : Int) - 1) % 4294967296 = ((2 ^ k : Nat) : Int) - 1 := Int.emod_eq_of_lt (by omega) (by omega)
    rw [h4]
    omega
  rw [pk_and _ k hm, z_bv]
  have hlt : (x % 4294967296).toNat % 2 ^ k < 2 ^ k := Nat.mod_lt _ hpos
  rw [nI_toInt (by omega)]
  rw [h2]
  have h5 : ((x % 4294967296).toNat : Int) = x % 4294967296 := by omega
  rw [Int.natCast_emod, h5]
  exact Int.emod_emod_of_dvd x (show ((2 ^ k : Nat) : Int) ∣ ((4294967296 : Nat) : Int) from Int.natCast_dvd_natCast.mpr hd)
