/-! ints as whole numbers: zI x is the int x; zR x: x fits -/
def zI (x : Int) : Int32 := Int32.ofInt x
abbrev zR (x : Int) : Prop := -2147483648 ≤ x ∧ x < 2147483648
theorem zI_toInt {x : Int} (h : zR x) : (zI x).toInt = x := Int32.toInt_ofInt_of_le (by have := h.1; omega) (by have := h.2; omega)
theorem zI_lt {x y : Int} (hx : zR x) (hy : zR y) : zI x < zI y ↔ x < y := by rw [Int32.lt_iff_toInt_lt, zI_toInt hx, zI_toInt hy]
theorem zI_le {x y : Int} (hx : zR x) (hy : zR y) : zI x ≤ zI y ↔ x ≤ y := by rw [Int32.le_iff_toInt_le, zI_toInt hx, zI_toInt hy]
theorem zI_eq {x y : Int} (hx : zR x) (hy : zR y) : zI x = zI y ↔ x = y := by rw [← Int32.toInt_inj, zI_toInt hx, zI_toInt hy]
theorem zI_add (x y : Int) : zI x + zI y = zI (x + y) := (Int32.ofInt_add x y).symm
theorem zI_sub (x y : Int) : zI x - zI y = zI (x - y) := (Int32.ofInt_sub x y).symm
theorem zI_mul (x y : Int) : zI x * zI y = zI (x * y) := (Int32.ofInt_mul x y).symm
theorem zI_neg (x : Int) : -zI x = zI (-x) := (Int32.ofInt_neg x).symm
theorem zI_clamp {x : Int} (h : zR x) : (zI x).toNatClampNeg = x.toNat := by
  show (zI x).toInt.toNat = x.toNat
  rw [zI_toInt h]
theorem zI_n (n : Nat) : nI n = zI (n : Int) := Int32.ofInt_eq_ofNat.symm
theorem zI_of (x : Int32) : x = zI x.toInt := (Int32.ofInt_toInt x).symm
theorem zR_of (x : Int32) : zR x.toInt := ⟨by have := x.le_toInt; omega, by have := x.toInt_lt; omega⟩
theorem zI_0 : (0 : Int32) = zI 0 := rfl
theorem zI_1 : (1 : Int32) = zI 1 := rfl
theorem zI_2 : (2 : Int32) = zI 2 := rfl
theorem zI_3 : (3 : Int32) = zI 3 := rfl
theorem zI_m1 : (-1 : Int32) = zI (-1) := rfl
theorem zvp {x : Int} {n : Nat} (h0 : 0 ≤ x) (h1 : x < n) (hn : n < 2147483648) : vp_in (zI x) n := by
  rw [vp_in_iff, zI_toInt ⟨by omega, by omega⟩]
  exact ⟨h0, h1⟩
theorem zvn {j n : Nat} (h1 : j < n) (hn : n < 2147483648) : vp_in (nI j) n := vp_in_nI h1 (by omega)
/-- division with the remainder thrown away -/
theorem zI_div {x y : Int} (hx : zR x) (hy : zR y) (h0 : 0 < y) : zI x / zI y = zI (x.tdiv y) := by
  rw [← Int32.toInt_inj, Int32.toInt_div_of_ne_right _ _ (fun h => by
    rw [zI_m1, zI_eq hy ⟨by omega, by omega⟩] at h
    omega), zI_toInt hx, zI_toInt hy, zI_toInt]
  have h1 : (x.tdiv y).natAbs ≤ x.natAbs := by
    rw [Int.natAbs_tdiv]
    exact Nat.div_le_self _ _
  have h2 := hx.1
  have h3 := hx.2
  by_cases hneg : x = -2147483648
  · subst hneg
    have h4 : (-2147483648 : Int).tdiv y ≤ 0 := by
      rw [show (-2147483648 : Int) = -2147483648 from rfl, Int.neg_tdiv]
      have := Int.tdiv_nonneg (a := 2147483648) (b := y) (by omega) (by omega)
      omega
    constructor <;> omega
  · constructor <;> omega
theorem zneg_msb (x : Int32) : x < 0 ↔ x.toBitVec.msb = true := by
  rw [Int32.lt_iff_toInt_lt, BitVec.msb_eq_toInt]
  simp
/-- the sign of an exclusive or -/
theorem zxor_sign {x y : Int32} (hy : ¬ y < 0) : 0 ≤ (x ^^^ y) ↔ 0 ≤ x := by
  have h1 : y.toBitVec.msb = false := by
    cases h : y.toBitVec.msb
    · rfl
    · exact absurd ((zneg_msb y).mpr h) hy
  have h2 : (x ^^^ y).toBitVec.msb = x.toBitVec.msb := by
    rw [Int32.toBitVec_xor, BitVec.msb_xor, h1, Bool.xor_false]
  rw [← Int32.not_lt, ← Int32.not_lt, zneg_msb, zneg_msb, h2]
/-- the floor of a quotient out of the one that is cut -/
theorem zfloor {x y : Int} (h0 : 0 < y) : x / y = if 0 ≤ x then x.tdiv y else if x.tdiv y * y = x then x.tdiv y else x.tdiv y - 1 := by
  by_cases hx : 0 ≤ x
  · rw [if_pos hx, Int.tdiv_eq_ediv_of_nonneg hx]
  · rw [if_neg hx]
    have e := Int.mul_tdiv_add_tmod x y
    have hm1 : x.tmod y ≤ 0 := by
      have := Int.tmod_nonneg (a := -x) y (by omega)
      rw [Int.neg_tmod] at this
      omega
    have hm2 : -y < x.tmod y := by
      have := Int.tmod_lt_of_pos (-x) h0
      rw [Int.neg_tmod] at this
      omega
    generalize x.tdiv y = q at *
    generalize x.tmod y = t at *
    have hq : y * q = q * y := Int.mul_comm y q
    by_cases ht : t = 0
    · rw [if_pos (by omega)]
      have : x = q * y := by omega
      rw [this, Int.mul_ediv_cancel q (by omega)]
    · rw [if_neg (by omega)]
      have : x = (t + y) + y * (q - 1) := by rw [Int.mul_sub]; omega
      rw [this, Int.add_mul_ediv_left _ _ (by omega), Int.ediv_eq_zero_of_lt (by omega) (by omega)]
      omega
/-- what is left of a quotient that is cut, by the sign -/
theorem zfloorM {x y : Int} (h0 : 0 < y) : x % y = if x.tmod y < 0 then x.tmod y + y else x.tmod y := by
  by_cases hx : 0 ≤ x
  · have h : x.tmod y = x % y := Int.tmod_eq_emod_of_nonneg hx
    rw [h, if_neg (by have := Int.emod_nonneg x (b := y) (by omega); omega)]
  · have e := Int.mul_tdiv_add_tmod x y
    have hm1 : x.tmod y ≤ 0 := by
      have := Int.tmod_nonneg (a := -x) y (by omega)
      rw [Int.neg_tmod] at this
      omega
    have hm2 : -y < x.tmod y := by
      have := Int.tmod_lt_of_pos (-x) h0
      rw [Int.neg_tmod] at this
      omega
    generalize x.tdiv y = q at *
    generalize x.tmod y = t at *
    by_cases ht : t = 0
    · rw [if_neg (by omega)]
      have : x = y * q := by omega
      rw [this, Int.mul_emod_right]
      omega
    · rw [if_pos (by omega)]
      have : x = (t + y) + y * (q - 1) := by rw [Int.mul_sub]; omega
      rw [this, Int.add_mul_emod_self_left, Int.emod_eq_of_lt (by omega) (by omega)]
theorem zI_rem {x y : Int} (hx : zR x) (hy : zR y) (h0 : 0 < y) : zI x - zI x / zI y * zI y = zI (x.tmod y) := by
  rw [zI_div hx hy h0, zI_mul, zI_sub]
  congr 1
  have e := Int.mul_tdiv_add_tmod x y
  have hq : y * x.tdiv y = x.tdiv y * y := Int.mul_comm _ _
  omega
