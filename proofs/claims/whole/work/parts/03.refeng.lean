-- needs: 02
/-! THE REFERENCE'S CELLS, by names: 0 the object, 1 op, 2 sets, 3 array, 4 factor, 5 plus, 6 kindA, 7 kindB, 8 a, 9 b, 10 tape, 11 times, 12 waitX, 13 waitY, 14 waitD, 15 waitDelay, 16 longest, 17 cycle, 18 latest, 19 height, 20 from, 21 to, 22 offset, 23 order, 24 begins, 25 registers, 26 arrays, 27 values, 28 rotating, 29 .. 76 the rows of longest, 77 .. 80 those of arrays, 81 .. 128 those of values -/
def zDR (k : Nat) : zDesc :=
  if k < 29 then ([.inl (11, [3, 4, 5, 6, 7, 8, 9, 10, 11, 0, 12, 0, 0, 0, 0, 0, 0, 0, 0, 0, 0, 0, 0, 13, 14, 15, 16, 17, 0, 18, 19, 20, 21, 0, 0, 0, 22, 23, 24, 25, 0, 0, 26, 27, 28, 29, 0, 0, 0, 30, 0]), .inr (1, 49, 0, 0), .inr (1, 49, 0, 0), .inr (1, 49, 0, 0), .inr (1, 49, 0, 0), .inr (1, 49, 0, 0), .inr (1, 49, 0, 0), .inr (1, 49, 0, 0), .inr (1, 49, 0, 0), .inr (1, 49, 0, 0), .inr (0, 4096, 0, 0), .inr (1, 4, 0, 0), .inr (1, 4608, 0, 0), .inr (1, 4608, 0, 0), .inr (1, 4608, 0, 0), .inr (1, 4608, 0, 0), .inr (4, 48, 29, 1), .inr (1, 48, 0, 0), .inr (1, 48, 0, 0), .inr (1, 48, 0, 0), .inr (1, 48, 0, 0), .inr (1, 48, 0, 0), .inr (1, 48, 0, 0), .inr (1, 48, 0, 0), .inr (1, 32, 0, 0), .inr (1, 32, 0, 0), .inr (4, 4, 77, 1), .inr (4, 48, 81, 1), .inr (2, 0, 0, 0)] : List zDesc).getD k (.inr (1, 0, 0, 0))
  else if k < 77 then .inr (1, 48, 0, 0) else if k < 81 then .inr (1, 1024, 0, 0) else .inr (1, 64, 0, 0)
def zTR : zT := (129, zDR)
theorem zgr_lt29 {x : Int32} (h : vp_in x 48) : 29 + x.toNatClampNeg < zTR.1 := by
  have := zvp_lt h
  show _ < 129
  omega
theorem zgr29 {x : Int32} (h : vp_in x 48) : zTR.2 (29 + x.toNatClampNeg) = .inr (1, 48, 0, 0) := by
  have := zvp_lt h
  show zDR _ = _
  unfold zDR
  rw [if_neg (by omega), if_pos (by omega)]
theorem zgr_lt77 {x : Int32} (h : vp_in x 4) : 77 + x.toNatClampNeg < zTR.1 := by
  have := zvp_lt h
  show _ < 129
  omega
theorem zgr77 {x : Int32} (h : vp_in x 4) : zTR.2 (77 + x.toNatClampNeg) = .inr (1, 1024, 0, 0) := by
  have := zvp_lt h
  show zDR _ = _
  unfold zDR
  rw [if_neg (by omega), if_neg (by omega), if_pos (by omega)]
theorem zgr_lt81 {x : Int32} (h : vp_in x 48) : 81 + x.toNatClampNeg < zTR.1 := by
  have := zvp_lt h
  show _ < 129
  omega
theorem zgr81 {x : Int32} (h : vp_in x 48) : zTR.2 (81 + x.toNatClampNeg) = .inr (1, 64, 0, 0) := by
  have := zvp_lt h
  show zDR _ = _
  unfold zDR
  rw [if_neg (by omega), if_neg (by omega), if_neg (by omega)]
