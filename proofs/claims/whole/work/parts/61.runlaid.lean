abbrev rmX11_runLaid : Room := { frames := 2, cells := 1, slots := 128, locals := 49 }
theorem kX11_runLaid_0 : Cond.fieldLink RX11 137 RX11 "rows" "I" ∈ wsX11_runLaid := by decide +kernel
theorem kX11_runLaid_1 : zIn RX11 TX11 51 wsX11_runLaid := by decide +kernel
theorem kX11_runLaid_2 : Cond.fieldLink RX11 157 RX11 "rounds" "I" ∈ wsX11_runLaid := by decide +kernel
theorem kX11_runLaid_3 : Cond.fieldLink RX11 216 RX11 "distance" "I" ∈ wsX11_runLaid := by decide +kernel
theorem kX11_runLaid_4 : Cond.fieldLink RX11 189 RX11 "cycle" "[I" ∈ wsX11_runLaid := by decide +kernel
theorem kX11_runLaid_5 : Cond.methodLink RX11 134 Lib.Math.max.name ∈ wsX11_runLaid := by decide +kernel
theorem kX11_runLaid_6 : Cond.static Lib.Math.max.name ∈ wsX11_runLaid := by decide +kernel
theorem kX11_runLaid_7 : Cond.initialized "java/lang/Math" ∈ wsX11_runLaid := by decide +kernel
theorem kX11_runLaid_8 : Cond.code Lib.Math.max.name Lib.Math.max.code 2 (some .int) ∈ wsX11_runLaid := by decide +kernel
theorem kX11_runLaid_9 : Cond.fieldLink RX11 243 RX11 "offset" "[I" ∈ wsX11_runLaid := by decide +kernel
theorem kX11_runLaid_10 : Cond.fieldLink RX11 288 RX11 "rotating" "[I" ∈ wsX11_runLaid := by decide +kernel
theorem kX11_runLaid_11 : Cond.fieldLink RX11 297 RX11 "values" "[[I" ∈ wsX11_runLaid := by decide +kernel
theorem kX11_runLaid_12 : Cond.fieldLink RX11 1 RX11 "op" "[I" ∈ wsX11_runLaid := by decide +kernel
theorem kX11_runLaid_13 : Cond.fieldLink RX11 7 RX11 "kindA" "[I" ∈ wsX11_runLaid := by decide +kernel
theorem kX11_runLaid_14 : Cond.fieldLink RX11 10 RX11 "a" "[I" ∈ wsX11_runLaid := by decide +kernel
theorem kX11_runLaid_15 : Cond.fieldLink RX11 13 RX11 "kindB" "[I" ∈ wsX11_runLaid := by decide +kernel
theorem kX11_runLaid_16 : Cond.fieldLink RX11 16 RX11 "b" "[I" ∈ wsX11_runLaid := by decide +kernel
theorem kX11_runLaid_17 : Cond.fieldLink RX11 265 RX11 "arrays" "[[I" ∈ wsX11_runLaid := by decide +kernel
theorem kX11_runLaid_18 : Cond.fieldLink RX11 79 RX11 "array" "[I" ∈ wsX11_runLaid := by decide +kernel
theorem kX11_runLaid_19 : Cond.fieldLink RX11 268 RX11 "registers" "[I" ∈ wsX11_runLaid := by decide +kernel
theorem kX11_runLaid_20 : Cond.fieldLink RX11 271 RX11 "begins" "[I" ∈ wsX11_runLaid := by decide +kernel
abbrev BX11_runLaid_401 (G : zG) (Z : zC)  (ad ln : Nat → Nat) (x1 x2 : Int32) (al : Nat → Nat → Int32) : Prop := zB G Z rmX11_runLaid 5 zTR ad ln 1 128 401 [(0, .ref (ad 0)), (1, .int x1), (2, .int x2)] [] al
abbrev BX11_runLaid_311 (G : zG) (Z : zC)  (ad ln : Nat → Nat) (x1 x2 x3 x4 : Int32) (al : Nat → Nat → Int32) : Prop := zB G Z rmX11_runLaid 5 zTR ad ln 1 128 311 [(0, .ref (ad 0)), (1, .int x1), (2, .int x2), (3, .int x3), (4, .int x4)] [] al
abbrev BX11_runLaid_300 (G : zG) (Z : zC)  (ad ln : Nat → Nat) (x1 x2 x3 : Int32) (al : Nat → Nat → Int32) : Prop := zB G Z rmX11_runLaid 5 zTR ad ln 1 128 300 [(0, .ref (ad 0)), (1, .int x1), (2, .int x2), (3, .int x3)] [] al
abbrev BX11_runLaid_149 (G : zG) (Z : zC)  (ad ln : Nat → Nat) (x1 x2 x3 : Int32) (al : Nat → Nat → Int32) : Prop := zB G Z rmX11_runLaid 5 zTR ad ln 1 128 149 [(0, .ref (ad 0)), (1, .int x1), (2, .int x2), (3, .int x3)] [] al
abbrev BX11_runLaid_84 (G : zG) (Z : zC)  (ad ln : Nat → Nat) (x1 x2 x3 : Int32) (al : Nat → Nat → Int32) : Prop := zB G Z rmX11_runLaid 5 zTR ad ln 1 128 84 [(0, .ref (ad 0)), (1, .int x1), (2, .int x2), (3, .int x3)] [] al
abbrev BX11_runLaid_77 (G : zG) (Z : zC)  (ad ln : Nat → Nat) (x1 x2 : Int32) (al : Nat → Nat → Int32) : Prop := zB G Z rmX11_runLaid 5 zTR ad ln 1 128 77 [(0, .ref (ad 0)), (1, .int x1), (2, .int x2)] [] al
abbrev BX11_runLaid_30 (G : zG) (Z : zC)  (ad ln : Nat → Nat) (x1 x2 : Int32) (al : Nat → Nat → Int32) : Prop := zB G Z rmX11_runLaid 5 zTR ad ln 1 128 30 [(0, .ref (ad 0)), (1, .int x1), (2, .int x2)] [] al
def vcX11_runLaid_26 (G : zG)  (ad ln : Nat → Nat) (K30 : Int32 → Int32 → (Nat → Nat → Int32) → Prop) (K77 : Int32 → Int32 → (Nat → Nat → Int32) → Prop) (K84 : Int32 → Int32 → Int32 → (Nat → Nat → Int32) → Prop) (K149 : Int32 → Int32 → Int32 → (Nat → Nat → Int32) → Prop) (K300 : Int32 → Int32 → Int32 → (Nat → Nat → Int32) → Prop) (K311 : Int32 → Int32 → Int32 → Int32 → (Nat → Nat → Int32) → Prop) (K401 : Int32 → Int32 → (Nat → Nat → Int32) → Prop) (post : Int32 → (Nat → Nat → Int32) → Prop) (al : Nat → Nat → Int32) : Prop :=
  K30 (0 : Int32) (0 : Int32) al
def vcX11_runLaid_30 (G : zG)  (ad ln : Nat → Nat) (K30 : Int32 → Int32 → (Nat → Nat → Int32) → Prop) (K77 : Int32 → Int32 → (Nat → Nat → Int32) → Prop) (K84 : Int32 → Int32 → Int32 → (Nat → Nat → Int32) → Prop) (K149 : Int32 → Int32 → Int32 → (Nat → Nat → Int32) → Prop) (K300 : Int32 → Int32 → Int32 → (Nat → Nat → Int32) → Prop) (K311 : Int32 → Int32 → Int32 → Int32 → (Nat → Nat → Int32) → Prop) (K401 : Int32 → Int32 → (Nat → Nat → Int32) → Prop) (post : Int32 → (Nat → Nat → Int32) → Prop) (x1 x2 : Int32) (al : Nat → Nat → Int32) : Prop :=
  ((al 0 9) ≤ x2 → K77 (x1 + (((al 0 18) - (1 : Int32)) * (al 0 33))) (0 : Int32) al) ∧ (¬ (al 0 9) ≤ x2 → (vp_in x2 48 ∧ zMi G yX11_time wsX11_time rmX11_time zTR ad ln [.ref (ad 0), .int x2] al (fun q2 a2 => K30 (if x1 < ((al 17 x2.toNatClampNeg) + q2) then ((al 17 x2.toNatClampNeg) + q2) else x1) (x2 + (1 : Int32)) a2)))
def vcX11_runLaid_77 (G : zG)  (ad ln : Nat → Nat) (K30 : Int32 → Int32 → (Nat → Nat → Int32) → Prop) (K77 : Int32 → Int32 → (Nat → Nat → Int32) → Prop) (K84 : Int32 → Int32 → Int32 → (Nat → Nat → Int32) → Prop) (K149 : Int32 → Int32 → Int32 → (Nat → Nat → Int32) → Prop) (K300 : Int32 → Int32 → Int32 → (Nat → Nat → Int32) → Prop) (K311 : Int32 → Int32 → Int32 → Int32 → (Nat → Nat → Int32) → Prop) (K401 : Int32 → Int32 → (Nat → Nat → Int32) → Prop) (post : Int32 → (Nat → Nat → Int32) → Prop) (x1 x2 : Int32) (al : Nat → Nat → Int32) : Prop :=
  (x1 < x2 → K401 x1 (0 : Int32) al) ∧ (¬ x1 < x2 → K84 x1 x2 (0 : Int32) al)
def vcX11_runLaid_141 (G : zG)  (ad ln : Nat → Nat) (K30 : Int32 → Int32 → (Nat → Nat → Int32) → Prop) (K77 : Int32 → Int32 → (Nat → Nat → Int32) → Prop) (K84 : Int32 → Int32 → Int32 → (Nat → Nat → Int32) → Prop) (K149 : Int32 → Int32 → Int32 → (Nat → Nat → Int32) → Prop) (K300 : Int32 → Int32 → Int32 → (Nat → Nat → Int32) → Prop) (K311 : Int32 → Int32 → Int32 → Int32 → (Nat → Nat → Int32) → Prop) (K401 : Int32 → Int32 → (Nat → Nat → Int32) → Prop) (post : Int32 → (Nat → Nat → Int32) → Prop) (x1 x2 x3 : Int32) (al : Nat → Nat → Int32) : Prop :=
  K84 x1 x2 (x3 + (1 : Int32)) al
def vcX11_runLaid_84 (G : zG)  (ad ln : Nat → Nat) (K30 : Int32 → Int32 → (Nat → Nat → Int32) → Prop) (K77 : Int32 → Int32 → (Nat → Nat → Int32) → Prop) (K84 : Int32 → Int32 → Int32 → (Nat → Nat → Int32) → Prop) (K149 : Int32 → Int32 → Int32 → (Nat → Nat → Int32) → Prop) (K300 : Int32 → Int32 → Int32 → (Nat → Nat → Int32) → Prop) (K311 : Int32 → Int32 → Int32 → Int32 → (Nat → Nat → Int32) → Prop) (K401 : Int32 → Int32 → (Nat → Nat → Int32) → Prop) (post : Int32 → (Nat → Nat → Int32) → Prop) (x1 x2 x3 : Int32) (al : Nat → Nat → Int32) : Prop :=
  ((al 0 9) ≤ x3 → K149 x1 x2 (0 : Int32) al) ∧ (¬ (al 0 9) ≤ x3 → zMi G yX11_time wsX11_time rmX11_time zTR ad ln [.ref (ad 0), .int x3] al (fun q2 a2 => zMi G yX11_roundAt wsX11_roundAt rmX11_roundAt zTR ad ln [.ref (ad 0), .int x3, .int (x2 - q2)] a2 (fun q3 a3 => (q3 < 0 → vcX11_runLaid_141 G  ad ln K30 K77 K84 K149 K300 K311 K401 post x1 x2 x3 a3) ∧ (¬ q3 < 0 → (vp_in x3 48 ∧ ((a3 22 x3.toNatClampNeg) < 0 → vcX11_runLaid_141 G  ad ln K30 K77 K84 K149 K300 K311 K401 post x1 x2 x3 a3) ∧ (¬ (a3 22 x3.toNatClampNeg) < 0 → zMi G yX11_spot wsX11_spot rmX11_spot zTR ad ln [.ref (ad 0), .int x3, .int q3] a3 (fun q6 a6 => (vp_in x3 48 ∧ vp_in q3 64 ∧ vp_in q6 (ln 28) ∧ vcX11_runLaid_141 G  ad ln K30 K77 K84 K149 K300 K311 K401 post x1 x2 x3 (up2 a6 28 q6.toNatClampNeg (a6 (81 + x3.toNatClampNeg) q3.toNatClampNeg))))))))))
def vcX11_runLaid_292 (G : zG)  (ad ln : Nat → Nat) (K30 : Int32 → Int32 → (Nat → Nat → Int32) → Prop) (K77 : Int32 → Int32 → (Nat → Nat → Int32) → Prop) (K84 : Int32 → Int32 → Int32 → (Nat → Nat → Int32) → Prop) (K149 : Int32 → Int32 → Int32 → (Nat → Nat → Int32) → Prop) (K300 : Int32 → Int32 → Int32 → (Nat → Nat → Int32) → Prop) (K311 : Int32 → Int32 → Int32 → Int32 → (Nat → Nat → Int32) → Prop) (K401 : Int32 → Int32 → (Nat → Nat → Int32) → Prop) (post : Int32 → (Nat → Nat → Int32) → Prop) (x1 x2 x3 : Int32) (al : Nat → Nat → Int32) : Prop :=
  K149 x1 x2 (x3 + (1 : Int32)) al
def vcX11_runLaid_149 (G : zG)  (ad ln : Nat → Nat) (K30 : Int32 → Int32 → (Nat → Nat → Int32) → Prop) (K77 : Int32 → Int32 → (Nat → Nat → Int32) → Prop) (K84 : Int32 → Int32 → Int32 → (Nat → Nat → Int32) → Prop) (K149 : Int32 → Int32 → Int32 → (Nat → Nat → Int32) → Prop) (K300 : Int32 → Int32 → Int32 → (Nat → Nat → Int32) → Prop) (K311 : Int32 → Int32 → Int32 → Int32 → (Nat → Nat → Int32) → Prop) (K401 : Int32 → Int32 → (Nat → Nat → Int32) → Prop) (post : Int32 → (Nat → Nat → Int32) → Prop) (x1 x2 x3 : Int32) (al : Nat → Nat → Int32) : Prop :=
  ((al 0 9) ≤ x3 → K300 x1 x2 (0 : Int32) al) ∧ (¬ (al 0 9) ≤ x3 → zMi G yX11_roundAt wsX11_roundAt rmX11_roundAt zTR ad ln [.ref (ad 0), .int x3, .int x2] al (fun q2 a2 => (q2 < 0 → vcX11_runLaid_292 G  ad ln K30 K77 K84 K149 K300 K311 K401 post x1 x2 x3 a2) ∧ (¬ q2 < 0 → (vp_in x3 48 ∧ vp_in x3 49 ∧ (¬ (a2 1 x3.toNatClampNeg) = (11 : Int32) → (vp_in x3 49 ∧ (¬ (a2 1 x3.toNatClampNeg) = (12 : Int32) → (vp_in x3 49 ∧ vp_in x3 49 ∧ vp_in x3 49 ∧ zMi G yX11_laid wsX11_laid rmX11_laid zTR ad ln [.ref (ad 0), .int (a2 6 x3.toNatClampNeg), .int (a2 8 x3.toNatClampNeg), .int x3, .int q2] a2 (fun q7 a7 => (vp_in x3 49 ∧ vp_in x3 49 ∧ zMi G yX11_laid wsX11_laid rmX11_laid zTR ad ln [.ref (ad 0), .int (a7 7 x3.toNatClampNeg), .int (a7 9 x3.toNatClampNeg), .int x3, .int q2] a7 (fun q8 a8 => zMi G yX11_result wsX11_result rmX11_result zTR ad ln [.int (a2 1 x3.toNatClampNeg), .int q7, .int q8] a8 (fun q9 a9 => (vp_in q2 64 ∧ vcX11_runLaid_292 G  ad ln K30 K77 K84 K149 K300 K311 K401 post x1 x2 x3 (up2 a9 (81 + x3.toNatClampNeg) q2.toNatClampNeg q9)))))))) ∧ ((a2 1 x3.toNatClampNeg) = (12 : Int32) → (vp_in x3 49 ∧ vp_in x3 49 ∧ zMi G yX11_laid wsX11_laid rmX11_laid zTR ad ln [.ref (ad 0), .int (a2 6 x3.toNatClampNeg), .int (a2 8 x3.toNatClampNeg), .int x3, .int q2] a2 (fun q7 a7 => (vp_in q2 64 ∧ vcX11_runLaid_292 G  ad ln K30 K77 K84 K149 K300 K311 K401 post x1 x2 x3 (up2 a7 (81 + x3.toNatClampNeg) q2.toNatClampNeg q7))))))) ∧ ((a2 1 x3.toNatClampNeg) = (11 : Int32) → (vp_in x3 49 ∧ vp_in (a2 3 x3.toNatClampNeg) 4 ∧ zMi G yX11_place wsX11_place rmX11_place zTR ad ln [.ref (ad 0), .int x3, .int q2] a2 (fun q7 a7 => (vp_in q7 1024 ∧ vp_in q2 64 ∧ vcX11_runLaid_292 G  ad ln K30 K77 K84 K149 K300 K311 K401 post x1 x2 x3 (up2 a7 (81 + x3.toNatClampNeg) q2.toNatClampNeg (a7 (77 + (a2 3 x3.toNatClampNeg).toNatClampNeg) q7.toNatClampNeg))))))))))
def vcX11_runLaid_300 (G : zG)  (ad ln : Nat → Nat) (K30 : Int32 → Int32 → (Nat → Nat → Int32) → Prop) (K77 : Int32 → Int32 → (Nat → Nat → Int32) → Prop) (K84 : Int32 → Int32 → Int32 → (Nat → Nat → Int32) → Prop) (K149 : Int32 → Int32 → Int32 → (Nat → Nat → Int32) → Prop) (K300 : Int32 → Int32 → Int32 → (Nat → Nat → Int32) → Prop) (K311 : Int32 → Int32 → Int32 → Int32 → (Nat → Nat → Int32) → Prop) (K401 : Int32 → Int32 → (Nat → Nat → Int32) → Prop) (post : Int32 → (Nat → Nat → Int32) → Prop) (x1 x2 x3 : Int32) (al : Nat → Nat → Int32) : Prop :=
  ((al 0 18) ≤ x3 → K77 x1 (x2 + (1 : Int32)) al) ∧ (¬ (al 0 18) ≤ x3 → K311 x1 x2 x3 (0 : Int32) al)
def vcX11_runLaid_381 (G : zG)  (ad ln : Nat → Nat) (K30 : Int32 → Int32 → (Nat → Nat → Int32) → Prop) (K77 : Int32 → Int32 → (Nat → Nat → Int32) → Prop) (K84 : Int32 → Int32 → Int32 → (Nat → Nat → Int32) → Prop) (K149 : Int32 → Int32 → Int32 → (Nat → Nat → Int32) → Prop) (K300 : Int32 → Int32 → Int32 → (Nat → Nat → Int32) → Prop) (K311 : Int32 → Int32 → Int32 → Int32 → (Nat → Nat → Int32) → Prop) (K401 : Int32 → Int32 → (Nat → Nat → Int32) → Prop) (post : Int32 → (Nat → Nat → Int32) → Prop) (x1 x2 x3 x4 : Int32) (al : Nat → Nat → Int32) : Prop :=
  K311 x1 x2 x3 (x4 + (1 : Int32)) al
def vcX11_runLaid_311 (G : zG)  (ad ln : Nat → Nat) (K30 : Int32 → Int32 → (Nat → Nat → Int32) → Prop) (K77 : Int32 → Int32 → (Nat → Nat → Int32) → Prop) (K84 : Int32 → Int32 → Int32 → (Nat → Nat → Int32) → Prop) (K149 : Int32 → Int32 → Int32 → (Nat → Nat → Int32) → Prop) (K300 : Int32 → Int32 → Int32 → (Nat → Nat → Int32) → Prop) (K311 : Int32 → Int32 → Int32 → Int32 → (Nat → Nat → Int32) → Prop) (K401 : Int32 → Int32 → (Nat → Nat → Int32) → Prop) (post : Int32 → (Nat → Nat → Int32) → Prop) (x1 x2 x3 x4 : Int32) (al : Nat → Nat → Int32) : Prop :=
  ((al 0 9) ≤ x4 → K300 x1 x2 (x3 + (1 : Int32)) al) ∧ (¬ (al 0 9) ≤ x4 → (vp_in x4 49 ∧ (¬ (al 1 x4.toNatClampNeg) = (12 : Int32) → vcX11_runLaid_381 G  ad ln K30 K77 K84 K149 K300 K311 K401 post x1 x2 x3 x4 al) ∧ ((al 1 x4.toNatClampNeg) = (12 : Int32) → zMi G yX11_time wsX11_time rmX11_time zTR ad ln [.ref (ad 0), .int x4] al (fun q3 a3 => zMi G yX11_roundAt wsX11_roundAt rmX11_roundAt zTR ad ln [.ref (ad 0), .int x4, .int ((x2 - q3) + (1 : Int32))] a3 (fun q4 a4 => (¬ q4 = x3 → vcX11_runLaid_381 G  ad ln K30 K77 K84 K149 K300 K311 K401 post x1 x2 x3 x4 a4) ∧ (q4 = x3 → (vp_in x4 49 ∧ vp_in (a4 3 x4.toNatClampNeg) 4 ∧ zMi G yX11_place wsX11_place rmX11_place zTR ad ln [.ref (ad 0), .int x4, .int x3] a4 (fun q7 a7 => (vp_in x4 48 ∧ vp_in x3 64 ∧ vp_in q7 1024 ∧ vcX11_runLaid_381 G  ad ln K30 K77 K84 K149 K300 K311 K401 post x1 x2 x3 x4 (up2 a7 (77 + (a4 3 x4.toNatClampNeg).toNatClampNeg) q7.toNatClampNeg (a7 (81 + x4.toNatClampNeg) x3.toNatClampNeg)))))))))))
def vcX11_runLaid_401 (G : zG)  (ad ln : Nat → Nat) (K30 : Int32 → Int32 → (Nat → Nat → Int32) → Prop) (K77 : Int32 → Int32 → (Nat → Nat → Int32) → Prop) (K84 : Int32 → Int32 → Int32 → (Nat → Nat → Int32) → Prop) (K149 : Int32 → Int32 → Int32 → (Nat → Nat → Int32) → Prop) (K300 : Int32 → Int32 → Int32 → (Nat → Nat → Int32) → Prop) (K311 : Int32 → Int32 → Int32 → Int32 → (Nat → Nat → Int32) → Prop) (K401 : Int32 → Int32 → (Nat → Nat → Int32) → Prop) (post : Int32 → (Nat → Nat → Int32) → Prop) (x1 x2 : Int32) (al : Nat → Nat → Int32) : Prop :=
  ((32 : Int32) ≤ x2 → post x1 al) ∧ (¬ (32 : Int32) ≤ x2 → zMi G yX11_setter wsX11_setter rmX11_setter zTR ad ln [.ref (ad 0), .int x2] al (fun q2 a2 => (0 ≤ q2 → (vp_in q2 48 ∧ vp_in ((a2 0 18) - (1 : Int32)) 64 ∧ vp_in x2 32 ∧ K401 x1 (x2 + (1 : Int32)) (up2 a2 25 x2.toNatClampNeg (a2 (81 + q2.toNatClampNeg) (((a2 0 18) - (1 : Int32)).toNatClampNeg))))) ∧ (¬ 0 ≤ q2 → (vp_in x2 32 ∧ vp_in x2 32 ∧ K401 x1 (x2 + (1 : Int32)) (up2 a2 25 x2.toNatClampNeg (a2 24 x2.toNatClampNeg))))))
set_option maxRecDepth 20000 in
theorem tX11_runLaid_26 {G : zG} {Z : zC}  {ad ln : Nat → Nat} (X : zX G Z cX11_runLaid 5 RX11 wsX11_runLaid) {K30 : Int32 → Int32 → (Nat → Nat → Int32) → Prop} {K77 : Int32 → Int32 → (Nat → Nat → Int32) → Prop} {K84 : Int32 → Int32 → Int32 → (Nat → Nat → Int32) → Prop} {K149 : Int32 → Int32 → Int32 → (Nat → Nat → Int32) → Prop} {K300 : Int32 → Int32 → Int32 → (Nat → Nat → Int32) → Prop} {K311 : Int32 → Int32 → Int32 → Int32 → (Nat → Nat → Int32) → Prop} {K401 : Int32 → Int32 → (Nat → Nat → Int32) → Prop} {post : Int32 → (Nat → Nat → Int32) → Prop} (hR : zRi G Z rmX11_runLaid 5 zTR ad ln cX11_runLaid .int post) (hK30 : ∀ x1 x2 : Int32, ∀ al, K30 x1 x2 al → zB G Z rmX11_runLaid 5 zTR ad ln 1 128 30 [(0, .ref (ad 0)), (1, .int x1), (2, .int x2)] [] al) (hK77 : ∀ x1 x2 : Int32, ∀ al, K77 x1 x2 al → zB G Z rmX11_runLaid 5 zTR ad ln 1 128 77 [(0, .ref (ad 0)), (1, .int x1), (2, .int x2)] [] al) (hK84 : ∀ x1 x2 x3 : Int32, ∀ al, K84 x1 x2 x3 al → zB G Z rmX11_runLaid 5 zTR ad ln 1 128 84 [(0, .ref (ad 0)), (1, .int x1), (2, .int x2), (3, .int x3)] [] al) (hK149 : ∀ x1 x2 x3 : Int32, ∀ al, K149 x1 x2 x3 al → zB G Z rmX11_runLaid 5 zTR ad ln 1 128 149 [(0, .ref (ad 0)), (1, .int x1), (2, .int x2), (3, .int x3)] [] al) (hK300 : ∀ x1 x2 x3 : Int32, ∀ al, K300 x1 x2 x3 al → zB G Z rmX11_runLaid 5 zTR ad ln 1 128 300 [(0, .ref (ad 0)), (1, .int x1), (2, .int x2), (3, .int x3)] [] al) (hK311 : ∀ x1 x2 x3 x4 : Int32, ∀ al, K311 x1 x2 x3 x4 al → zB G Z rmX11_runLaid 5 zTR ad ln 1 128 311 [(0, .ref (ad 0)), (1, .int x1), (2, .int x2), (3, .int x3), (4, .int x4)] [] al) (hK401 : ∀ x1 x2 : Int32, ∀ al, K401 x1 x2 al → zB G Z rmX11_runLaid 5 zTR ad ln 1 128 401 [(0, .ref (ad 0)), (1, .int x1), (2, .int x2)] [] al) (al : Nat → Nat → Int32) (h : vcX11_runLaid_26 G  ad ln K30 K77 K84 K149 K300 K311 K401 post  al) : zB G Z rmX11_runLaid 5 zTR ad ln 1 128 26 [(0, .ref (ad 0))] [] al := by
  unfold vcX11_runLaid_26 at h
  refine zb_iconst X (0 : Int32) dX11_runLaid_26 (by decide) ?_
  refine zb_istore_n X (lv' := [(1, .int (0 : Int32)), (0, .ref (ad 0))]) dX11_runLaid_27 rfl (by decide) rfl ?_
  refine zb_iconst X (0 : Int32) dX11_runLaid_28 (by decide) ?_
  refine zb_istore_n X (lv' := [(2, .int (0 : Int32)), (1, .int (0 : Int32)), (0, .ref (ad 0))]) dX11_runLaid_29 rfl (by decide) rfl ?_
  refine zb_sub [2, 1, 0] rfl ?_
  exact hK30 (0 : Int32) (0 : Int32) al h
set_option maxRecDepth 20000 in
theorem tX11_runLaid_30 {G : zG} {Z : zC}  {ad ln : Nat → Nat} (X : zX G Z cX11_runLaid 5 RX11 wsX11_runLaid) {K30 : Int32 → Int32 → (Nat → Nat → Int32) → Prop} {K77 : Int32 → Int32 → (Nat → Nat → Int32) → Prop} {K84 : Int32 → Int32 → Int32 → (Nat → Nat → Int32) → Prop} {K149 : Int32 → Int32 → Int32 → (Nat → Nat → Int32) → Prop} {K300 : Int32 → Int32 → Int32 → (Nat → Nat → Int32) → Prop} {K311 : Int32 → Int32 → Int32 → Int32 → (Nat → Nat → Int32) → Prop} {K401 : Int32 → Int32 → (Nat → Nat → Int32) → Prop} {post : Int32 → (Nat → Nat → Int32) → Prop} (hR : zRi G Z rmX11_runLaid 5 zTR ad ln cX11_runLaid .int post) (hK30 : ∀ x1 x2 : Int32, ∀ al, K30 x1 x2 al → zB G Z rmX11_runLaid 5 zTR ad ln 1 128 30 [(0, .ref (ad 0)), (1, .int x1), (2, .int x2)] [] al) (hK77 : ∀ x1 x2 : Int32, ∀ al, K77 x1 x2 al → zB G Z rmX11_runLaid 5 zTR ad ln 1 128 77 [(0, .ref (ad 0)), (1, .int x1), (2, .int x2)] [] al) (hK84 : ∀ x1 x2 x3 : Int32, ∀ al, K84 x1 x2 x3 al → zB G Z rmX11_runLaid 5 zTR ad ln 1 128 84 [(0, .ref (ad 0)), (1, .int x1), (2, .int x2), (3, .int x3)] [] al) (hK149 : ∀ x1 x2 x3 : Int32, ∀ al, K149 x1 x2 x3 al → zB G Z rmX11_runLaid 5 zTR ad ln 1 128 149 [(0, .ref (ad 0)), (1, .int x1), (2, .int x2), (3, .int x3)] [] al) (hK300 : ∀ x1 x2 x3 : Int32, ∀ al, K300 x1 x2 x3 al → zB G Z rmX11_runLaid 5 zTR ad ln 1 128 300 [(0, .ref (ad 0)), (1, .int x1), (2, .int x2), (3, .int x3)] [] al) (hK311 : ∀ x1 x2 x3 x4 : Int32, ∀ al, K311 x1 x2 x3 x4 al → zB G Z rmX11_runLaid 5 zTR ad ln 1 128 311 [(0, .ref (ad 0)), (1, .int x1), (2, .int x2), (3, .int x3), (4, .int x4)] [] al) (hK401 : ∀ x1 x2 : Int32, ∀ al, K401 x1 x2 al → zB G Z rmX11_runLaid 5 zTR ad ln 1 128 401 [(0, .ref (ad 0)), (1, .int x1), (2, .int x2)] [] al) (x1 x2 : Int32) (al : Nat → Nat → Int32) (h : vcX11_runLaid_30 G  ad ln K30 K77 K84 K149 K300 K311 K401 post x1 x2 al) : zB G Z rmX11_runLaid 5 zTR ad ln 1 128 30 [(0, .ref (ad 0)), (1, .int x1), (2, .int x2)] [] al := by
  unfold vcX11_runLaid_30 at h
  refine zb_iload_n X dX11_runLaid_30 rfl 2 rfl ?_
  refine zb_aload_n X dX11_runLaid_31 rfl 0 rfl ?_
  refine zb_getI X 0 (by decide) 11 [3, 4, 5, 6, 7, 8, 9, 10, 11, 0, 12, 0, 0, 0, 0, 0, 0, 0, 0, 0, 0, 0, 0, 13, 14, 15, 16, 17, 0, 18, 19, 20, 21, 0, 0, 0, 22, 23, 24, 25, 0, 0, 26, 27, 28, 29, 0, 0, 0, 30, 0] rfl (C := RX11) (Tt := TX11) (N := 51) rfl kX11_runLaid_1 9 (by decide) rfl kX11_runLaid_0 rfl dX11_runLaid_32 (al 0 9) rfl ?_
  refine zb_icmp_ge X 61 dX11_runLaid_35 (by decide) (fun c1 => ?_) (fun c1 => ?_)
  · have h := h.1 c1
    refine zb_iload_n X dX11_runLaid_61 rfl 1 rfl ?_
    refine zb_aload_n X dX11_runLaid_62 rfl 0 rfl ?_
    refine zb_getI X 0 (by decide) 11 [3, 4, 5, 6, 7, 8, 9, 10, 11, 0, 12, 0, 0, 0, 0, 0, 0, 0, 0, 0, 0, 0, 0, 13, 14, 15, 16, 17, 0, 18, 19, 20, 21, 0, 0, 0, 22, 23, 24, 25, 0, 0, 26, 27, 28, 29, 0, 0, 0, 30, 0] rfl (C := RX11) (Tt := TX11) (N := 51) rfl kX11_runLaid_1 18 (by decide) rfl kX11_runLaid_2 rfl dX11_runLaid_63 (al 0 18) rfl ?_
    refine zb_iconst X (1 : Int32) dX11_runLaid_66 (by decide) ?_
    refine zb_isub X dX11_runLaid_67 ?_
    refine zb_aload_n X dX11_runLaid_68 rfl 0 rfl ?_
    refine zb_getI X 0 (by decide) 11 [3, 4, 5, 6, 7, 8, 9, 10, 11, 0, 12, 0, 0, 0, 0, 0, 0, 0, 0, 0, 0, 0, 0, 13, 14, 15, 16, 17, 0, 18, 19, 20, 21, 0, 0, 0, 22, 23, 24, 25, 0, 0, 26, 27, 28, 29, 0, 0, 0, 30, 0] rfl (C := RX11) (Tt := TX11) (N := 51) rfl kX11_runLaid_1 33 (by decide) rfl kX11_runLaid_3 rfl dX11_runLaid_69 (al 0 33) rfl ?_
    refine zb_imul X dX11_runLaid_72 ?_
    refine zb_iadd X dX11_runLaid_73 ?_
    refine zb_istore_n X (lv' := [(1, .int (x1 + (((al 0 18) - (1 : Int32)) * (al 0 33)))), (0, .ref (ad 0)), (2, .int x2)]) dX11_runLaid_74 rfl (by decide) rfl ?_
    refine zb_iconst X (0 : Int32) dX11_runLaid_75 (by decide) ?_
    refine zb_istore_n X (lv' := [(2, .int (0 : Int32)), (1, .int (x1 + (((al 0 18) - (1 : Int32)) * (al 0 33)))), (0, .ref (ad 0))]) dX11_runLaid_76 rfl (by decide) rfl ?_
    refine zb_sub [2, 1, 0] rfl ?_
    exact hK77 (x1 + (((al 0 18) - (1 : Int32)) * (al 0 33))) (0 : Int32) al h
  · have h := h.2 c1
    refine zb_iload_n X dX11_runLaid_38 rfl 1 rfl ?_
    refine zb_aload_n X dX11_runLaid_39 rfl 0 rfl ?_
    refine zb_getR X 0 (by decide) 11 [3, 4, 5, 6, 7, 8, 9, 10, 11, 0, 12, 0, 0, 0, 0, 0, 0, 0, 0, 0, 0, 0, 0, 13, 14, 15, 16, 17, 0, 18, 19, 20, 21, 0, 0, 0, 22, 23, 24, 25, 0, 0, 26, 27, 28, 29, 0, 0, 0, 30, 0] rfl (C := RX11) (Tt := TX11) (N := 51) rfl kX11_runLaid_1 30 (by decide) 17 rfl kX11_runLaid_4 rfl dX11_runLaid_40 ?_
    refine zb_iload_n X dX11_runLaid_43 rfl 2 rfl ?_
    obtain ⟨hz, h⟩ := h
    refine zb_iald X 17 (by decide) 1 48 0 0 rfl (Or.inl rfl) x2.toNatClampNeg rfl hz dX11_runLaid_44 (al 17 x2.toNatClampNeg) rfl ?_
    refine zb_aload_n X dX11_runLaid_45 rfl 0 rfl ?_
    refine zb_iload_n X dX11_runLaid_46 rfl 2 rfl ?_
    refine zb_callVi (n := 1) X 0 (by decide) 11 [3, 4, 5, 6, 7, 8, 9, 10, 11, 0, 12, 0, 0, 0, 0, 0, 0, 0, 0, 0, 0, 0, 0, 13, 14, 15, 16, 17, 0, 18, 19, 20, 21, 0, 0, 0, 22, 23, 24, 25, 0, 0, 26, 27, 28, 29, 0, 0, 0, 30, 0] rfl (C := RX11) (Tt := TX11) (N := 51) rfl h gX11_runLaid_X11_time rfl (by decide +kernel) (by decide) rfl rfl (Nat.le_of_ble_eq_true rfl) dX11_runLaid_47 (kc' := 1) (ks' := 128) rfl rfl (fun q2 a2 h => ?_)
    refine zb_iadd X dX11_runLaid_50 ?_
    refine zb_mmax X kX11_runLaid_5 kX11_runLaid_6 kX11_runLaid_7 kX11_runLaid_8 ⟨⟨Nat.le_of_ble_eq_true rfl, Nat.le_of_ble_eq_true rfl⟩, Nat.le_of_ble_eq_true rfl, Nat.le_of_ble_eq_true rfl⟩ dX11_runLaid_51 ?_
    refine zb_istore_n X (lv' := [(1, .int (if x1 < ((al 17 x2.toNatClampNeg) + q2) then ((al 17 x2.toNatClampNeg) + q2) else x1)), (0, .ref (ad 0)), (2, .int x2)]) dX11_runLaid_54 rfl (by decide) rfl ?_
    refine zb_iinc X (lv' := [(2, .int (x2 + (1 : Int32))), (1, .int (if x1 < ((al 17 x2.toNatClampNeg) + q2) then ((al 17 x2.toNatClampNeg) + q2) else x1)), (0, .ref (ad 0))]) (x2 + (1 : Int32)) dX11_runLaid_55 2 rfl rfl (by decide) rfl ?_
    refine zb_goto X 30 dX11_runLaid_58 (by decide) ?_
    refine zb_sub [2, 1, 0] rfl ?_
    exact hK30 (if x1 < ((al 17 x2.toNatClampNeg) + q2) then ((al 17 x2.toNatClampNeg) + q2) else x1) (x2 + (1 : Int32)) a2 h
set_option maxRecDepth 20000 in
theorem tX11_runLaid_77 {G : zG} {Z : zC}  {ad ln : Nat → Nat} (X : zX G Z cX11_runLaid 5 RX11 wsX11_runLaid) {K30 : Int32 → Int32 → (Nat → Nat → Int32) → Prop} {K77 : Int32 → Int32 → (Nat → Nat → Int32) → Prop} {K84 : Int32 → Int32 → Int32 → (Nat → Nat → Int32) → Prop} {K149 : Int32 → Int32 → Int32 → (Nat → Nat → Int32) → Prop} {K300 : Int32 → Int32 → Int32 → (Nat → Nat → Int32) → Prop} {K311 : Int32 → Int32 → Int32 → Int32 → (Nat → Nat → Int32) → Prop} {K401 : Int32 → Int32 → (Nat → Nat → Int32) → Prop} {post : Int32 → (Nat → Nat → Int32) → Prop} (hR : zRi G Z rmX11_runLaid 5 zTR ad ln cX11_runLaid .int post) (hK30 : ∀ x1 x2 : Int32, ∀ al, K30 x1 x2 al → zB G Z rmX11_runLaid 5 zTR ad ln 1 128 30 [(0, .ref (ad 0)), (1, .int x1), (2, .int x2)] [] al) (hK77 : ∀ x1 x2 : Int32, ∀ al, K77 x1 x2 al → zB G Z rmX11_runLaid 5 zTR ad ln 1 128 77 [(0, .ref (ad 0)), (1, .int x1), (2, .int x2)] [] al) (hK84 : ∀ x1 x2 x3 : Int32, ∀ al, K84 x1 x2 x3 al → zB G Z rmX11_runLaid 5 zTR ad ln 1 128 84 [(0, .ref (ad 0)), (1, .int x1), (2, .int x2), (3, .int x3)] [] al) (hK149 : ∀ x1 x2 x3 : Int32, ∀ al, K149 x1 x2 x3 al → zB G Z rmX11_runLaid 5 zTR ad ln 1 128 149 [(0, .ref (ad 0)), (1, .int x1), (2, .int x2), (3, .int x3)] [] al) (hK300 : ∀ x1 x2 x3 : Int32, ∀ al, K300 x1 x2 x3 al → zB G Z rmX11_runLaid 5 zTR ad ln 1 128 300 [(0, .ref (ad 0)), (1, .int x1), (2, .int x2), (3, .int x3)] [] al) (hK311 : ∀ x1 x2 x3 x4 : Int32, ∀ al, K311 x1 x2 x3 x4 al → zB G Z rmX11_runLaid 5 zTR ad ln 1 128 311 [(0, .ref (ad 0)), (1, .int x1), (2, .int x2), (3, .int x3), (4, .int x4)] [] al) (hK401 : ∀ x1 x2 : Int32, ∀ al, K401 x1 x2 al → zB G Z rmX11_runLaid 5 zTR ad ln 1 128 401 [(0, .ref (ad 0)), (1, .int x1), (2, .int x2)] [] al) (x1 x2 : Int32) (al : Nat → Nat → Int32) (h : vcX11_runLaid_77 G  ad ln K30 K77 K84 K149 K300 K311 K401 post x1 x2 al) : zB G Z rmX11_runLaid 5 zTR ad ln 1 128 77 [(0, .ref (ad 0)), (1, .int x1), (2, .int x2)] [] al := by
  unfold vcX11_runLaid_77 at h
  refine zb_iload_n X dX11_runLaid_77 rfl 2 rfl ?_
  refine zb_iload_n X dX11_runLaid_78 rfl 1 rfl ?_
  refine zb_icmp_gt X 399 dX11_runLaid_79 (by decide) (fun c1 => ?_) (fun c1 => ?_)
  · have h := h.1 c1
    refine zb_iconst X (0 : Int32) dX11_runLaid_399 (by decide) ?_
    refine zb_istore_n X (lv' := [(2, .int (0 : Int32)), (0, .ref (ad 0)), (1, .int x1)]) dX11_runLaid_400 rfl (by decide) rfl ?_
    refine zb_sub [1, 2, 0] rfl ?_
    exact hK401 x1 (0 : Int32) al h
  · have h := h.2 c1
    refine zb_iconst X (0 : Int32) dX11_runLaid_82 (by decide) ?_
    refine zb_istore_n X (lv' := [(3, .int (0 : Int32)), (0, .ref (ad 0)), (1, .int x1), (2, .int x2)]) dX11_runLaid_83 rfl (by decide) rfl ?_
    refine zb_sub [1, 2, 3, 0] rfl ?_
    exact hK84 x1 x2 (0 : Int32) al h
set_option maxRecDepth 20000 in
theorem tX11_runLaid_141 {G : zG} {Z : zC}  {ad ln : Nat → Nat} (X : zX G Z cX11_runLaid 5 RX11 wsX11_runLaid) {K30 : Int32 → Int32 → (Nat → Nat → Int32) → Prop} {K77 : Int32 → Int32 → (Nat → Nat → Int32) → Prop} {K84 : Int32 → Int32 → Int32 → (Nat → Nat → Int32) → Prop} {K149 : Int32 → Int32 → Int32 → (Nat → Nat → Int32) → Prop} {K300 : Int32 → Int32 → Int32 → (Nat → Nat → Int32) → Prop} {K311 : Int32 → Int32 → Int32 → Int32 → (Nat → Nat → Int32) → Prop} {K401 : Int32 → Int32 → (Nat → Nat → Int32) → Prop} {post : Int32 → (Nat → Nat → Int32) → Prop} (hR : zRi G Z rmX11_runLaid 5 zTR ad ln cX11_runLaid .int post) (hK30 : ∀ x1 x2 : Int32, ∀ al, K30 x1 x2 al → zB G Z rmX11_runLaid 5 zTR ad ln 1 128 30 [(0, .ref (ad 0)), (1, .int x1), (2, .int x2)] [] al) (hK77 : ∀ x1 x2 : Int32, ∀ al, K77 x1 x2 al → zB G Z rmX11_runLaid 5 zTR ad ln 1 128 77 [(0, .ref (ad 0)), (1, .int x1), (2, .int x2)] [] al) (hK84 : ∀ x1 x2 x3 : Int32, ∀ al, K84 x1 x2 x3 al → zB G Z rmX11_runLaid 5 zTR ad ln 1 128 84 [(0, .ref (ad 0)), (1, .int x1), (2, .int x2), (3, .int x3)] [] al) (hK149 : ∀ x1 x2 x3 : Int32, ∀ al, K149 x1 x2 x3 al → zB G Z rmX11_runLaid 5 zTR ad ln 1 128 149 [(0, .ref (ad 0)), (1, .int x1), (2, .int x2), (3, .int x3)] [] al) (hK300 : ∀ x1 x2 x3 : Int32, ∀ al, K300 x1 x2 x3 al → zB G Z rmX11_runLaid 5 zTR ad ln 1 128 300 [(0, .ref (ad 0)), (1, .int x1), (2, .int x2), (3, .int x3)] [] al) (hK311 : ∀ x1 x2 x3 x4 : Int32, ∀ al, K311 x1 x2 x3 x4 al → zB G Z rmX11_runLaid 5 zTR ad ln 1 128 311 [(0, .ref (ad 0)), (1, .int x1), (2, .int x2), (3, .int x3), (4, .int x4)] [] al) (hK401 : ∀ x1 x2 : Int32, ∀ al, K401 x1 x2 al → zB G Z rmX11_runLaid 5 zTR ad ln 1 128 401 [(0, .ref (ad 0)), (1, .int x1), (2, .int x2)] [] al) (x1 x2 x3 : Int32) (al : Nat → Nat → Int32) (h : vcX11_runLaid_141 G  ad ln K30 K77 K84 K149 K300 K311 K401 post x1 x2 x3 al) : zB G Z rmX11_runLaid 5 zTR ad ln 1 128 141 [(0, .ref (ad 0)), (1, .int x1), (2, .int x2), (3, .int x3)] [] al := by
  unfold vcX11_runLaid_141 at h
  refine zb_iinc X (lv' := [(3, .int (x3 + (1 : Int32))), (0, .ref (ad 0)), (1, .int x1), (2, .int x2)]) (x3 + (1 : Int32)) dX11_runLaid_141 3 rfl rfl (by decide) rfl ?_
  refine zb_goto X 84 dX11_runLaid_144 (by decide) ?_
  refine zb_sub [1, 2, 3, 0] rfl ?_
  exact hK84 x1 x2 (x3 + (1 : Int32)) al h
set_option maxRecDepth 20000 in
theorem tX11_runLaid_84 {G : zG} {Z : zC}  {ad ln : Nat → Nat} (X : zX G Z cX11_runLaid 5 RX11 wsX11_runLaid) {K30 : Int32 → Int32 → (Nat → Nat → Int32) → Prop} {K77 : Int32 → Int32 → (Nat → Nat → Int32) → Prop} {K84 : Int32 → Int32 → Int32 → (Nat → Nat → Int32) → Prop} {K149 : Int32 → Int32 → Int32 → (Nat → Nat → Int32) → Prop} {K300 : Int32 → Int32 → Int32 → (Nat → Nat → Int32) → Prop} {K311 : Int32 → Int32 → Int32 → Int32 → (Nat → Nat → Int32) → Prop} {K401 : Int32 → Int32 → (Nat → Nat → Int32) → Prop} {post : Int32 → (Nat → Nat → Int32) → Prop} (hR : zRi G Z rmX11_runLaid 5 zTR ad ln cX11_runLaid .int post) (hK30 : ∀ x1 x2 : Int32, ∀ al, K30 x1 x2 al → zB G Z rmX11_runLaid 5 zTR ad ln 1 128 30 [(0, .ref (ad 0)), (1, .int x1), (2, .int x2)] [] al) (hK77 : ∀ x1 x2 : Int32, ∀ al, K77 x1 x2 al → zB G Z rmX11_runLaid 5 zTR ad ln 1 128 77 [(0, .ref (ad 0)), (1, .int x1), (2, .int x2)] [] al) (hK84 : ∀ x1 x2 x3 : Int32, ∀ al, K84 x1 x2 x3 al → zB G Z rmX11_runLaid 5 zTR ad ln 1 128 84 [(0, .ref (ad 0)), (1, .int x1), (2, .int x2), (3, .int x3)] [] al) (hK149 : ∀ x1 x2 x3 : Int32, ∀ al, K149 x1 x2 x3 al → zB G Z rmX11_runLaid 5 zTR ad ln 1 128 149 [(0, .ref (ad 0)), (1, .int x1), (2, .int x2), (3, .int x3)] [] al) (hK300 : ∀ x1 x2 x3 : Int32, ∀ al, K300 x1 x2 x3 al → zB G Z rmX11_runLaid 5 zTR ad ln 1 128 300 [(0, .ref (ad 0)), (1, .int x1), (2, .int x2), (3, .int x3)] [] al) (hK311 : ∀ x1 x2 x3 x4 : Int32, ∀ al, K311 x1 x2 x3 x4 al → zB G Z rmX11_runLaid 5 zTR ad ln 1 128 311 [(0, .ref (ad 0)), (1, .int x1), (2, .int x2), (3, .int x3), (4, .int x4)] [] al) (hK401 : ∀ x1 x2 : Int32, ∀ al, K401 x1 x2 al → zB G Z rmX11_runLaid 5 zTR ad ln 1 128 401 [(0, .ref (ad 0)), (1, .int x1), (2, .int x2)] [] al) (x1 x2 x3 : Int32) (al : Nat → Nat → Int32) (h : vcX11_runLaid_84 G  ad ln K30 K77 K84 K149 K300 K311 K401 post x1 x2 x3 al) : zB G Z rmX11_runLaid 5 zTR ad ln 1 128 84 [(0, .ref (ad 0)), (1, .int x1), (2, .int x2), (3, .int x3)] [] al := by
  unfold vcX11_runLaid_84 at h
  refine zb_iload_n X dX11_runLaid_84 rfl 3 rfl ?_
  refine zb_aload_n X dX11_runLaid_85 rfl 0 rfl ?_
  refine zb_getI X 0 (by decide) 11 [3, 4, 5, 6, 7, 8, 9, 10, 11, 0, 12, 0, 0, 0, 0, 0, 0, 0, 0, 0, 0, 0, 0, 13, 14, 15, 16, 17, 0, 18, 19, 20, 21, 0, 0, 0, 22, 23, 24, 25, 0, 0, 26, 27, 28, 29, 0, 0, 0, 30, 0] rfl (C := RX11) (Tt := TX11) (N := 51) rfl kX11_runLaid_1 9 (by decide) rfl kX11_runLaid_0 rfl dX11_runLaid_86 (al 0 9) rfl ?_
  refine zb_icmp_ge X 147 dX11_runLaid_89 (by decide) (fun c1 => ?_) (fun c1 => ?_)
  · have h := h.1 c1
    refine zb_iconst X (0 : Int32) dX11_runLaid_147 (by decide) ?_
    refine zb_istore_n X (lv' := [(3, .int (0 : Int32)), (0, .ref (ad 0)), (1, .int x1), (2, .int x2)]) dX11_runLaid_148 rfl (by decide) rfl ?_
    refine zb_sub [1, 2, 3, 0] rfl ?_
    exact hK149 x1 x2 (0 : Int32) al h
  · have h := h.2 c1
    refine zb_aload_n X dX11_runLaid_92 rfl 0 rfl ?_
    refine zb_iload_n X dX11_runLaid_93 rfl 3 rfl ?_
    refine zb_iload_n X dX11_runLaid_94 rfl 2 rfl ?_
    refine zb_aload_n X dX11_runLaid_95 rfl 0 rfl ?_
    refine zb_iload_n X dX11_runLaid_96 rfl 3 rfl ?_
    refine zb_callVi (n := 1) X 0 (by decide) 11 [3, 4, 5, 6, 7, 8, 9, 10, 11, 0, 12, 0, 0, 0, 0, 0, 0, 0, 0, 0, 0, 0, 0, 13, 14, 15, 16, 17, 0, 18, 19, 20, 21, 0, 0, 0, 22, 23, 24, 25, 0, 0, 26, 27, 28, 29, 0, 0, 0, 30, 0] rfl (C := RX11) (Tt := TX11) (N := 51) rfl h gX11_runLaid_X11_time rfl (by decide +kernel) (by decide) rfl rfl (Nat.le_of_ble_eq_true rfl) dX11_runLaid_97 (kc' := 1) (ks' := 128) rfl rfl (fun q2 a2 h => ?_)
    refine zb_isub X dX11_runLaid_100 ?_
    refine zb_callVi (n := 2) X 0 (by decide) 11 [3, 4, 5, 6, 7, 8, 9, 10, 11, 0, 12, 0, 0, 0, 0, 0, 0, 0, 0, 0, 0, 0, 0, 13, 14, 15, 16, 17, 0, 18, 19, 20, 21, 0, 0, 0, 22, 23, 24, 25, 0, 0, 26, 27, 28, 29, 0, 0, 0, 30, 0] rfl (C := RX11) (Tt := TX11) (N := 51) rfl h gX11_runLaid_X11_roundAt rfl (by decide +kernel) (by decide) rfl rfl (Nat.le_of_ble_eq_true rfl) dX11_runLaid_101 (kc' := 1) (ks' := 128) rfl rfl (fun q3 a3 h => ?_)
    refine zb_istore X (lv' := [(4, .int q3), (0, .ref (ad 0)), (1, .int x1), (2, .int x2), (3, .int x3)]) dX11_runLaid_104 (by decide) rfl ?_
    refine zb_iload X dX11_runLaid_106 0 rfl ?_
    refine zb_if_lt X 141 dX11_runLaid_108 (by decide) (fun c4 => ?_) (fun c4 => ?_)
    · have h := h.1 c4
      refine zb_sub [1, 2, 3, 4] rfl ?_
      exact tX11_runLaid_141 X hR hK30 hK77 hK84 hK149 hK300 hK311 hK401 x1 x2 x3 a3 h
    · have h := h.2 c4
      refine zb_aload_n X dX11_runLaid_111 rfl 1 rfl ?_
      refine zb_getR X 0 (by decide) 11 [3, 4, 5, 6, 7, 8, 9, 10, 11, 0, 12, 0, 0, 0, 0, 0, 0, 0, 0, 0, 0, 0, 0, 13, 14, 15, 16, 17, 0, 18, 19, 20, 21, 0, 0, 0, 22, 23, 24, 25, 0, 0, 26, 27, 28, 29, 0, 0, 0, 30, 0] rfl (C := RX11) (Tt := TX11) (N := 51) rfl kX11_runLaid_1 38 (by decide) 22 rfl kX11_runLaid_9 rfl dX11_runLaid_112 ?_
      refine zb_iload_n X dX11_runLaid_115 rfl 4 rfl ?_
      obtain ⟨hz, h⟩ := h
      refine zb_iald X 22 (by decide) 1 48 0 0 rfl (Or.inl rfl) x3.toNatClampNeg rfl hz dX11_runLaid_116 (a3 22 x3.toNatClampNeg) rfl ?_
      refine zb_if_lt X 141 dX11_runLaid_117 (by decide) (fun c5 => ?_) (fun c5 => ?_)
      · have h := h.1 c5
        refine zb_sub [1, 2, 3, 4] rfl ?_
        exact tX11_runLaid_141 X hR hK30 hK77 hK84 hK149 hK300 hK311 hK401 x1 x2 x3 a3 h
      · have h := h.2 c5
        refine zb_aload_n X dX11_runLaid_120 rfl 1 rfl ?_
        refine zb_getR X 0 (by decide) 11 [3, 4, 5, 6, 7, 8, 9, 10, 11, 0, 12, 0, 0, 0, 0, 0, 0, 0, 0, 0, 0, 0, 0, 13, 14, 15, 16, 17, 0, 18, 19, 20, 21, 0, 0, 0, 22, 23, 24, 25, 0, 0, 26, 27, 28, 29, 0, 0, 0, 30, 0] rfl (C := RX11) (Tt := TX11) (N := 51) rfl kX11_runLaid_1 49 (by decide) 28 rfl kX11_runLaid_10 rfl dX11_runLaid_121 ?_
        refine zb_aload_n X dX11_runLaid_124 rfl 1 rfl ?_
        refine zb_iload_n X dX11_runLaid_125 rfl 4 rfl ?_
        refine zb_iload X dX11_runLaid_126 0 rfl ?_
        refine zb_callVi (n := 2) X 0 (by decide) 11 [3, 4, 5, 6, 7, 8, 9, 10, 11, 0, 12, 0, 0, 0, 0, 0, 0, 0, 0, 0, 0, 0, 0, 13, 14, 15, 16, 17, 0, 18, 19, 20, 21, 0, 0, 0, 22, 23, 24, 25, 0, 0, 26, 27, 28, 29, 0, 0, 0, 30, 0] rfl (C := RX11) (Tt := TX11) (N := 51) rfl h gX11_runLaid_X11_spot rfl (by decide +kernel) (by decide) rfl rfl (Nat.le_of_ble_eq_true rfl) dX11_runLaid_128 (kc' := 1) (ks' := 128) rfl rfl (fun q6 a6 h => ?_)
        refine zb_aload_n X dX11_runLaid_131 rfl 1 rfl ?_
        refine zb_getR X 0 (by decide) 11 [3, 4, 5, 6, 7, 8, 9, 10, 11, 0, 12, 0, 0, 0, 0, 0, 0, 0, 0, 0, 0, 0, 0, 13, 14, 15, 16, 17, 0, 18, 19, 20, 21, 0, 0, 0, 22, 23, 24, 25, 0, 0, 26, 27, 28, 29, 0, 0, 0, 30, 0] rfl (C := RX11) (Tt := TX11) (N := 51) rfl kX11_runLaid_1 45 (by decide) 27 rfl kX11_runLaid_11 rfl dX11_runLaid_132 ?_
        refine zb_iload_n X dX11_runLaid_135 rfl 4 rfl ?_
        obtain ⟨hq7, h⟩ := h
        refine zb_gald X 27 (by decide) 48 81 rfl x3.toNatClampNeg rfl hq7 dX11_runLaid_136 ?_
        refine zb_iload X dX11_runLaid_137 0 rfl ?_
        obtain ⟨hz, h⟩ := h
        refine zb_iald X (81 + x3.toNatClampNeg) (zgr_lt81 hq7) 1 64 0 0 (zgr81 hq7) (Or.inl rfl) q3.toNatClampNeg rfl hz dX11_runLaid_139 (a6 (81 + x3.toNatClampNeg) q3.toNatClampNeg) rfl ?_
        obtain ⟨hz, h⟩ := h
        refine zb_iast X 28 (by decide) 2 0 0 0 rfl (Or.inr rfl) q6.toNatClampNeg rfl hz dX11_runLaid_140 ?_
        refine zb_sub [1, 2, 3, 4] rfl ?_
        exact tX11_runLaid_141 X hR hK30 hK77 hK84 hK149 hK300 hK311 hK401 x1 x2 x3 (up2 a6 28 q6.toNatClampNeg (a6 (81 + x3.toNatClampNeg) q3.toNatClampNeg)) h
set_option maxRecDepth 20000 in
theorem tX11_runLaid_292 {G : zG} {Z : zC}  {ad ln : Nat → Nat} (X : zX G Z cX11_runLaid 5 RX11 wsX11_runLaid) {K30 : Int32 → Int32 → (Nat → Nat → Int32) → Prop} {K77 : Int32 → Int32 → (Nat → Nat → Int32) → Prop} {K84 : Int32 → Int32 → Int32 → (Nat → Nat → Int32) → Prop} {K149 : Int32 → Int32 → Int32 → (Nat → Nat → Int32) → Prop} {K300 : Int32 → Int32 → Int32 → (Nat → Nat → Int32) → Prop} {K311 : Int32 → Int32 → Int32 → Int32 → (Nat → Nat → Int32) → Prop} {K401 : Int32 → Int32 → (Nat → Nat → Int32) → Prop} {post : Int32 → (Nat → Nat → Int32) → Prop} (hR : zRi G Z rmX11_runLaid 5 zTR ad ln cX11_runLaid .int post) (hK30 : ∀ x1 x2 : Int32, ∀ al, K30 x1 x2 al → zB G Z rmX11_runLaid 5 zTR ad ln 1 128 30 [(0, .ref (ad 0)), (1, .int x1), (2, .int x2)] [] al) (hK77 : ∀ x1 x2 : Int32, ∀ al, K77 x1 x2 al → zB G Z rmX11_runLaid 5 zTR ad ln 1 128 77 [(0, .ref (ad 0)), (1, .int x1), (2, .int x2)] [] al) (hK84 : ∀ x1 x2 x3 : Int32, ∀ al, K84 x1 x2 x3 al → zB G Z rmX11_runLaid 5 zTR ad ln 1 128 84 [(0, .ref (ad 0)), (1, .int x1), (2, .int x2), (3, .int x3)] [] al) (hK149 : ∀ x1 x2 x3 : Int32, ∀ al, K149 x1 x2 x3 al → zB G Z rmX11_runLaid 5 zTR ad ln 1 128 149 [(0, .ref (ad 0)), (1, .int x1), (2, .int x2), (3, .int x3)] [] al) (hK300 : ∀ x1 x2 x3 : Int32, ∀ al, K300 x1 x2 x3 al → zB G Z rmX11_runLaid 5 zTR ad ln 1 128 300 [(0, .ref (ad 0)), (1, .int x1), (2, .int x2), (3, .int x3)] [] al) (hK311 : ∀ x1 x2 x3 x4 : Int32, ∀ al, K311 x1 x2 x3 x4 al → zB G Z rmX11_runLaid 5 zTR ad ln 1 128 311 [(0, .ref (ad 0)), (1, .int x1), (2, .int x2), (3, .int x3), (4, .int x4)] [] al) (hK401 : ∀ x1 x2 : Int32, ∀ al, K401 x1 x2 al → zB G Z rmX11_runLaid 5 zTR ad ln 1 128 401 [(0, .ref (ad 0)), (1, .int x1), (2, .int x2)] [] al) (x1 x2 x3 : Int32) (al : Nat → Nat → Int32) (h : vcX11_runLaid_292 G  ad ln K30 K77 K84 K149 K300 K311 K401 post x1 x2 x3 al) : zB G Z rmX11_runLaid 5 zTR ad ln 1 128 292 [(0, .ref (ad 0)), (1, .int x1), (2, .int x2), (3, .int x3)] [] al := by
  unfold vcX11_runLaid_292 at h
  refine zb_iinc X (lv' := [(3, .int (x3 + (1 : Int32))), (0, .ref (ad 0)), (1, .int x1), (2, .int x2)]) (x3 + (1 : Int32)) dX11_runLaid_292 3 rfl rfl (by decide) rfl ?_
  refine zb_goto X 149 dX11_runLaid_295 (by decide) ?_
  refine zb_sub [1, 2, 3, 0] rfl ?_
  exact hK149 x1 x2 (x3 + (1 : Int32)) al h
set_option maxRecDepth 20000 in
theorem tX11_runLaid_149 {G : zG} {Z : zC}  {ad ln : Nat → Nat} (X : zX G Z cX11_runLaid 5 RX11 wsX11_runLaid) {K30 : Int32 → Int32 → (Nat → Nat → Int32) → Prop} {K77 : Int32 → Int32 → (Nat → Nat → Int32) → Prop} {K84 : Int32 → Int32 → Int32 → (Nat → Nat → Int32) → Prop} {K149 : Int32 → Int32 → Int32 → (Nat → Nat → Int32) → Prop} {K300 : Int32 → Int32 → Int32 → (Nat → Nat → Int32) → Prop} {K311 : Int32 → Int32 → Int32 → Int32 → (Nat → Nat → Int32) → Prop} {K401 : Int32 → Int32 → (Nat → Nat → Int32) → Prop} {post : Int32 → (Nat → Nat → Int32) → Prop} (hR : zRi G Z rmX11_runLaid 5 zTR ad ln cX11_runLaid .int post) (hK30 : ∀ x1 x2 : Int32, ∀ al, K30 x1 x2 al → zB G Z rmX11_runLaid 5 zTR ad ln 1 128 30 [(0, .ref (ad 0)), (1, .int x1), (2, .int x2)] [] al) (hK77 : ∀ x1 x2 : Int32, ∀ al, K77 x1 x2 al → zB G Z rmX11_runLaid 5 zTR ad ln 1 128 77 [(0, .ref (ad 0)), (1, .int x1), (2, .int x2)] [] al) (hK84 : ∀ x1 x2 x3 : Int32, ∀ al, K84 x1 x2 x3 al → zB G Z rmX11_runLaid 5 zTR ad ln 1 128 84 [(0, .ref (ad 0)), (1, .int x1), (2, .int x2), (3, .int x3)] [] al) (hK149 : ∀ x1 x2 x3 : Int32, ∀ al, K149 x1 x2 x3 al → zB G Z rmX11_runLaid 5 zTR ad ln 1 128 149 [(0, .ref (ad 0)), (1, .int x1), (2, .int x2), (3, .int x3)] [] al) (hK300 : ∀ x1 x2 x3 : Int32, ∀ al, K300 x1 x2 x3 al → zB G Z rmX11_runLaid 5 zTR ad ln 1 128 300 [(0, .ref (ad 0)), (1, .int x1), (2, .int x2), (3, .int x3)] [] al) (hK311 : ∀ x1 x2 x3 x4 : Int32, ∀ al, K311 x1 x2 x3 x4 al → zB G Z rmX11_runLaid 5 zTR ad ln 1 128 311 [(0, .ref (ad 0)), (1, .int x1), (2, .int x2), (3, .int x3), (4, .int x4)] [] al) (hK401 : ∀ x1 x2 : Int32, ∀ al, K401 x1 x2 al → zB G Z rmX11_runLaid 5 zTR ad ln 1 128 401 [(0, .ref (ad 0)), (1, .int x1), (2, .int x2)] [] al) (x1 x2 x3 : Int32) (al : Nat → Nat → Int32) (h : vcX11_runLaid_149 G  ad ln K30 K77 K84 K149 K300 K311 K401 post x1 x2 x3 al) : zB G Z rmX11_runLaid 5 zTR ad ln 1 128 149 [(0, .ref (ad 0)), (1, .int x1), (2, .int x2), (3, .int x3)] [] al := by
  unfold vcX11_runLaid_149 at h
  refine zb_iload_n X dX11_runLaid_149 rfl 3 rfl ?_
  refine zb_aload_n X dX11_runLaid_150 rfl 0 rfl ?_
  refine zb_getI X 0 (by decide) 11 [3, 4, 5, 6, 7, 8, 9, 10, 11, 0, 12, 0, 0, 0, 0, 0, 0, 0, 0, 0, 0, 0, 0, 13, 14, 15, 16, 17, 0, 18, 19, 20, 21, 0, 0, 0, 22, 23, 24, 25, 0, 0, 26, 27, 28, 29, 0, 0, 0, 30, 0] rfl (C := RX11) (Tt := TX11) (N := 51) rfl kX11_runLaid_1 9 (by decide) rfl kX11_runLaid_0 rfl dX11_runLaid_151 (al 0 9) rfl ?_
  refine zb_icmp_ge X 298 dX11_runLaid_154 (by decide) (fun c1 => ?_) (fun c1 => ?_)
  · have h := h.1 c1
    refine zb_iconst X (0 : Int32) dX11_runLaid_298 (by decide) ?_
    refine zb_istore_n X (lv' := [(3, .int (0 : Int32)), (0, .ref (ad 0)), (1, .int x1), (2, .int x2)]) dX11_runLaid_299 rfl (by decide) rfl ?_
    refine zb_sub [1, 2, 3, 0] rfl ?_
    exact hK300 x1 x2 (0 : Int32) al h
  · have h := h.2 c1
    refine zb_aload_n X dX11_runLaid_157 rfl 0 rfl ?_
    refine zb_iload_n X dX11_runLaid_158 rfl 3 rfl ?_
    refine zb_iload_n X dX11_runLaid_159 rfl 2 rfl ?_
    refine zb_callVi (n := 2) X 0 (by decide) 11 [3, 4, 5, 6, 7, 8, 9, 10, 11, 0, 12, 0, 0, 0, 0, 0, 0, 0, 0, 0, 0, 0, 0, 13, 14, 15, 16, 17, 0, 18, 19, 20, 21, 0, 0, 0, 22, 23, 24, 25, 0, 0, 26, 27, 28, 29, 0, 0, 0, 30, 0] rfl (C := RX11) (Tt := TX11) (N := 51) rfl h gX11_runLaid_X11_roundAt rfl (by decide +kernel) (by decide) rfl rfl (Nat.le_of_ble_eq_true rfl) dX11_runLaid_160 (kc' := 1) (ks' := 128) rfl rfl (fun q2 a2 h => ?_)
    refine zb_istore X (lv' := [(4, .int q2), (0, .ref (ad 0)), (1, .int x1), (2, .int x2), (3, .int x3)]) dX11_runLaid_163 (by decide) rfl ?_
    refine zb_iload X dX11_runLaid_165 0 rfl ?_
    refine zb_if_lt X 292 dX11_runLaid_167 (by decide) (fun c3 => ?_) (fun c3 => ?_)
    · have h := h.1 c3
      refine zb_sub [1, 2, 3, 4] rfl ?_
      exact tX11_runLaid_292 X hR hK30 hK77 hK84 hK149 hK300 hK311 hK401 x1 x2 x3 a2 h
    · have h := h.2 c3
      refine zb_aload_n X dX11_runLaid_170 rfl 1 rfl ?_
      refine zb_getR X 0 (by decide) 11 [3, 4, 5, 6, 7, 8, 9, 10, 11, 0, 12, 0, 0, 0, 0, 0, 0, 0, 0, 0, 0, 0, 0, 13, 14, 15, 16, 17, 0, 18, 19, 20, 21, 0, 0, 0, 22, 23, 24, 25, 0, 0, 26, 27, 28, 29, 0, 0, 0, 30, 0] rfl (C := RX11) (Tt := TX11) (N := 51) rfl kX11_runLaid_1 45 (by decide) 27 rfl kX11_runLaid_11 rfl dX11_runLaid_171 ?_
      refine zb_iload_n X dX11_runLaid_174 rfl 4 rfl ?_
      obtain ⟨hq4, h⟩ := h
      refine zb_gald X 27 (by decide) 48 81 rfl x3.toNatClampNeg rfl hq4 dX11_runLaid_175 ?_
      refine zb_iload X dX11_runLaid_176 0 rfl ?_
      refine zb_aload_n X dX11_runLaid_178 rfl 1 rfl ?_
      refine zb_getR X 0 (by decide) 11 [3, 4, 5, 6, 7, 8, 9, 10, 11, 0, 12, 0, 0, 0, 0, 0, 0, 0, 0, 0, 0, 0, 0, 13, 14, 15, 16, 17, 0, 18, 19, 20, 21, 0, 0, 0, 22, 23, 24, 25, 0, 0, 26, 27, 28, 29, 0, 0, 0, 30, 0] rfl (C := RX11) (Tt := TX11) (N := 51) rfl kX11_runLaid_1 0 (by decide) 1 rfl kX11_runLaid_12 rfl dX11_runLaid_179 ?_
      refine zb_iload_n X dX11_runLaid_182 rfl 4 rfl ?_
      obtain ⟨hz, h⟩ := h
      refine zb_iald X 1 (by decide) 1 49 0 0 rfl (Or.inl rfl) x3.toNatClampNeg rfl hz dX11_runLaid_183 (a2 1 x3.toNatClampNeg) rfl ?_
      refine zb_bipush X (11 : Int32) dX11_runLaid_184 (by decide) ?_
      refine zb_icmp_ne X 211 dX11_runLaid_186 (by decide) (fun c5 => ?_) (fun c5 => ?_)
      · have h := h.1 c5
        refine zb_aload_n X dX11_runLaid_211 rfl 1 rfl ?_
        refine zb_getR X 0 (by decide) 11 [3, 4, 5, 6, 7, 8, 9, 10, 11, 0, 12, 0, 0, 0, 0, 0, 0, 0, 0, 0, 0, 0, 0, 13, 14, 15, 16, 17, 0, 18, 19, 20, 21, 0, 0, 0, 22, 23, 24, 25, 0, 0, 26, 27, 28, 29, 0, 0, 0, 30, 0] rfl (C := RX11) (Tt := TX11) (N := 51) rfl kX11_runLaid_1 0 (by decide) 1 rfl kX11_runLaid_12 rfl dX11_runLaid_212 ?_
        refine zb_iload_n X dX11_runLaid_215 rfl 4 rfl ?_
        obtain ⟨hz, h⟩ := h
        refine zb_iald X 1 (by decide) 1 49 0 0 rfl (Or.inl rfl) x3.toNatClampNeg rfl hz dX11_runLaid_216 (a2 1 x3.toNatClampNeg) rfl ?_
        refine zb_bipush X (12 : Int32) dX11_runLaid_217 (by decide) ?_
        refine zb_icmp_ne X 244 dX11_runLaid_219 (by decide) (fun c6 => ?_) (fun c6 => ?_)
        · have h := h.1 c6
          refine zb_aload_n X dX11_runLaid_244 rfl 1 rfl ?_
          refine zb_getR X 0 (by decide) 11 [3, 4, 5, 6, 7, 8, 9, 10, 11, 0, 12, 0, 0, 0, 0, 0, 0, 0, 0, 0, 0, 0, 0, 13, 14, 15, 16, 17, 0, 18, 19, 20, 21, 0, 0, 0, 22, 23, 24, 25, 0, 0, 26, 27, 28, 29, 0, 0, 0, 30, 0] rfl (C := RX11) (Tt := TX11) (N := 51) rfl kX11_runLaid_1 0 (by decide) 1 rfl kX11_runLaid_12 rfl dX11_runLaid_245 ?_
          refine zb_iload_n X dX11_runLaid_248 rfl 4 rfl ?_
          obtain ⟨hz, h⟩ := h
          refine zb_iald X 1 (by decide) 1 49 0 0 rfl (Or.inl rfl) x3.toNatClampNeg rfl hz dX11_runLaid_249 (a2 1 x3.toNatClampNeg) rfl ?_
          refine zb_aload_n X dX11_runLaid_250 rfl 1 rfl ?_
          refine zb_aload_n X dX11_runLaid_251 rfl 1 rfl ?_
          refine zb_getR X 0 (by decide) 11 [3, 4, 5, 6, 7, 8, 9, 10, 11, 0, 12, 0, 0, 0, 0, 0, 0, 0, 0, 0, 0, 0, 0, 13, 14, 15, 16, 17, 0, 18, 19, 20, 21, 0, 0, 0, 22, 23, 24, 25, 0, 0, 26, 27, 28, 29, 0, 0, 0, 30, 0] rfl (C := RX11) (Tt := TX11) (N := 51) rfl kX11_runLaid_1 5 (by decide) 6 rfl kX11_runLaid_13 rfl dX11_runLaid_252 ?_
          refine zb_iload_n X dX11_runLaid_255 rfl 4 rfl ?_
          obtain ⟨hz, h⟩ := h
          refine zb_iald X 6 (by decide) 1 49 0 0 rfl (Or.inl rfl) x3.toNatClampNeg rfl hz dX11_runLaid_256 (a2 6 x3.toNatClampNeg) rfl ?_
          refine zb_aload_n X dX11_runLaid_257 rfl 1 rfl ?_
          refine zb_getR X 0 (by decide) 11 [3, 4, 5, 6, 7, 8, 9, 10, 11, 0, 12, 0, 0, 0, 0, 0, 0, 0, 0, 0, 0, 0, 0, 13, 14, 15, 16, 17, 0, 18, 19, 20, 21, 0, 0, 0, 22, 23, 24, 25, 0, 0, 26, 27, 28, 29, 0, 0, 0, 30, 0] rfl (C := RX11) (Tt := TX11) (N := 51) rfl kX11_runLaid_1 7 (by decide) 8 rfl kX11_runLaid_14 rfl dX11_runLaid_258 ?_
          refine zb_iload_n X dX11_runLaid_261 rfl 4 rfl ?_
          obtain ⟨hz, h⟩ := h
          refine zb_iald X 8 (by decide) 1 49 0 0 rfl (Or.inl rfl) x3.toNatClampNeg rfl hz dX11_runLaid_262 (a2 8 x3.toNatClampNeg) rfl ?_
          refine zb_iload_n X dX11_runLaid_263 rfl 4 rfl ?_
          refine zb_iload X dX11_runLaid_264 0 rfl ?_
          refine zb_callVi (n := 4) X 0 (by decide) 11 [3, 4, 5, 6, 7, 8, 9, 10, 11, 0, 12, 0, 0, 0, 0, 0, 0, 0, 0, 0, 0, 0, 0, 13, 14, 15, 16, 17, 0, 18, 19, 20, 21, 0, 0, 0, 22, 23, 24, 25, 0, 0, 26, 27, 28, 29, 0, 0, 0, 30, 0] rfl (C := RX11) (Tt := TX11) (N := 51) rfl h gX11_runLaid_X11_laid rfl (by decide +kernel) (by decide) rfl rfl (Nat.le_of_ble_eq_true rfl) dX11_runLaid_266 (kc' := 1) (ks' := 128) rfl rfl (fun q7 a7 h => ?_)
          refine zb_aload_n X dX11_runLaid_269 rfl 1 rfl ?_
          refine zb_aload_n X dX11_runLaid_270 rfl 1 rfl ?_
          refine zb_getR X 0 (by decide) 11 [3, 4, 5, 6, 7, 8, 9, 10, 11, 0, 12, 0, 0, 0, 0, 0, 0, 0, 0, 0, 0, 0, 0, 13, 14, 15, 16, 17, 0, 18, 19, 20, 21, 0, 0, 0, 22, 23, 24, 25, 0, 0, 26, 27, 28, 29, 0, 0, 0, 30, 0] rfl (C := RX11) (Tt := TX11) (N := 51) rfl kX11_runLaid_1 6 (by decide) 7 rfl kX11_runLaid_15 rfl dX11_runLaid_271 ?_
          refine zb_iload_n X dX11_runLaid_274 rfl 4 rfl ?_
          obtain ⟨hz, h⟩ := h
          refine zb_iald X 7 (by decide) 1 49 0 0 rfl (Or.inl rfl) x3.toNatClampNeg rfl hz dX11_runLaid_275 (a7 7 x3.toNatClampNeg) rfl ?_
          refine zb_aload_n X dX11_runLaid_276 rfl 1 rfl ?_
          refine zb_getR X 0 (by decide) 11 [3, 4, 5, 6, 7, 8, 9, 10, 11, 0, 12, 0, 0, 0, 0, 0, 0, 0, 0, 0, 0, 0, 0, 13, 14, 15, 16, 17, 0, 18, 19, 20, 21, 0, 0, 0, 22, 23, 24, 25, 0, 0, 26, 27, 28, 29, 0, 0, 0, 30, 0] rfl (C := RX11) (Tt := TX11) (N := 51) rfl kX11_runLaid_1 8 (by decide) 9 rfl kX11_runLaid_16 rfl dX11_runLaid_277 ?_
          refine zb_iload_n X dX11_runLaid_280 rfl 4 rfl ?_
          obtain ⟨hz, h⟩ := h
          refine zb_iald X 9 (by decide) 1 49 0 0 rfl (Or.inl rfl) x3.toNatClampNeg rfl hz dX11_runLaid_281 (a7 9 x3.toNatClampNeg) rfl ?_
          refine zb_iload_n X dX11_runLaid_282 rfl 4 rfl ?_
          refine zb_iload X dX11_runLaid_283 0 rfl ?_
          refine zb_callVi (n := 4) X 0 (by decide) 11 [3, 4, 5, 6, 7, 8, 9, 10, 11, 0, 12, 0, 0, 0, 0, 0, 0, 0, 0, 0, 0, 0, 0, 13, 14, 15, 16, 17, 0, 18, 19, 20, 21, 0, 0, 0, 22, 23, 24, 25, 0, 0, 26, 27, 28, 29, 0, 0, 0, 30, 0] rfl (C := RX11) (Tt := TX11) (N := 51) rfl h gX11_runLaid_X11_laid rfl (by decide +kernel) (by decide) rfl rfl (Nat.le_of_ble_eq_true rfl) dX11_runLaid_285 (kc' := 1) (ks' := 128) rfl rfl (fun q8 a8 h => ?_)
          refine zb_callSi (n := 3) X h gX11_runLaid_X11_result rfl (by decide +kernel) (by decide) rfl rfl (Nat.le_of_ble_eq_true rfl) dX11_runLaid_288 (kc' := 1) (ks' := 128) rfl rfl (fun q9 a9 h => ?_)
          obtain ⟨hz, h⟩ := h
          refine zb_iast X (81 + x3.toNatClampNeg) (zgr_lt81 hq4) 1 64 0 0 (zgr81 hq4) (Or.inl rfl) q2.toNatClampNeg rfl hz dX11_runLaid_291 ?_
          refine zb_sub [1, 2, 3, 4] rfl ?_
          exact tX11_runLaid_292 X hR hK30 hK77 hK84 hK149 hK300 hK311 hK401 x1 x2 x3 (up2 a9 (81 + x3.toNatClampNeg) q2.toNatClampNeg q9) h
        · have h := h.2 c6
          refine zb_aload_n X dX11_runLaid_222 rfl 1 rfl ?_
          refine zb_aload_n X dX11_runLaid_223 rfl 1 rfl ?_
          refine zb_getR X 0 (by decide) 11 [3, 4, 5, 6, 7, 8, 9, 10, 11, 0, 12, 0, 0, 0, 0, 0, 0, 0, 0, 0, 0, 0, 0, 13, 14, 15, 16, 17, 0, 18, 19, 20, 21, 0, 0, 0, 22, 23, 24, 25, 0, 0, 26, 27, 28, 29, 0, 0, 0, 30, 0] rfl (C := RX11) (Tt := TX11) (N := 51) rfl kX11_runLaid_1 5 (by decide) 6 rfl kX11_runLaid_13 rfl dX11_runLaid_224 ?_
          refine zb_iload_n X dX11_runLaid_227 rfl 4 rfl ?_
          obtain ⟨hz, h⟩ := h
          refine zb_iald X 6 (by decide) 1 49 0 0 rfl (Or.inl rfl) x3.toNatClampNeg rfl hz dX11_runLaid_228 (a2 6 x3.toNatClampNeg) rfl ?_
          refine zb_aload_n X dX11_runLaid_229 rfl 1 rfl ?_
          refine zb_getR X 0 (by decide) 11 [3, 4, 5, 6, 7, 8, 9, 10, 11, 0, 12, 0, 0, 0, 0, 0, 0, 0, 0, 0, 0, 0, 0, 13, 14, 15, 16, 17, 0, 18, 19, 20, 21, 0, 0, 0, 22, 23, 24, 25, 0, 0, 26, 27, 28, 29, 0, 0, 0, 30, 0] rfl (C := RX11) (Tt := TX11) (N := 51) rfl kX11_runLaid_1 7 (by decide) 8 rfl kX11_runLaid_14 rfl dX11_runLaid_230 ?_
          refine zb_iload_n X dX11_runLaid_233 rfl 4 rfl ?_
          obtain ⟨hz, h⟩ := h
          refine zb_iald X 8 (by decide) 1 49 0 0 rfl (Or.inl rfl) x3.toNatClampNeg rfl hz dX11_runLaid_234 (a2 8 x3.toNatClampNeg) rfl ?_
          refine zb_iload_n X dX11_runLaid_235 rfl 4 rfl ?_
          refine zb_iload X dX11_runLaid_236 0 rfl ?_
          refine zb_callVi (n := 4) X 0 (by decide) 11 [3, 4, 5, 6, 7, 8, 9, 10, 11, 0, 12, 0, 0, 0, 0, 0, 0, 0, 0, 0, 0, 0, 0, 13, 14, 15, 16, 17, 0, 18, 19, 20, 21, 0, 0, 0, 22, 23, 24, 25, 0, 0, 26, 27, 28, 29, 0, 0, 0, 30, 0] rfl (C := RX11) (Tt := TX11) (N := 51) rfl h gX11_runLaid_X11_laid rfl (by decide +kernel) (by decide) rfl rfl (Nat.le_of_ble_eq_true rfl) dX11_runLaid_238 (kc' := 1) (ks' := 128) rfl rfl (fun q7 a7 h => ?_)
          refine zb_goto X 291 dX11_runLaid_241 (by decide) ?_
          obtain ⟨hz, h⟩ := h
          refine zb_iast X (81 + x3.toNatClampNeg) (zgr_lt81 hq4) 1 64 0 0 (zgr81 hq4) (Or.inl rfl) q2.toNatClampNeg rfl hz dX11_runLaid_291 ?_
          refine zb_sub [1, 2, 3, 4] rfl ?_
          exact tX11_runLaid_292 X hR hK30 hK77 hK84 hK149 hK300 hK311 hK401 x1 x2 x3 (up2 a7 (81 + x3.toNatClampNeg) q2.toNatClampNeg q7) h
      · have h := h.2 c5
        refine zb_aload_n X dX11_runLaid_189 rfl 1 rfl ?_
        refine zb_getR X 0 (by decide) 11 [3, 4, 5, 6, 7, 8, 9, 10, 11, 0, 12, 0, 0, 0, 0, 0, 0, 0, 0, 0, 0, 0, 0, 13, 14, 15, 16, 17, 0, 18, 19, 20, 21, 0, 0, 0, 22, 23, 24, 25, 0, 0, 26, 27, 28, 29, 0, 0, 0, 30, 0] rfl (C := RX11) (Tt := TX11) (N := 51) rfl kX11_runLaid_1 44 (by decide) 26 rfl kX11_runLaid_17 rfl dX11_runLaid_190 ?_
        refine zb_aload_n X dX11_runLaid_193 rfl 1 rfl ?_
        refine zb_getR X 0 (by decide) 11 [3, 4, 5, 6, 7, 8, 9, 10, 11, 0, 12, 0, 0, 0, 0, 0, 0, 0, 0, 0, 0, 0, 0, 13, 14, 15, 16, 17, 0, 18, 19, 20, 21, 0, 0, 0, 22, 23, 24, 25, 0, 0, 26, 27, 28, 29, 0, 0, 0, 30, 0] rfl (C := RX11) (Tt := TX11) (N := 51) rfl kX11_runLaid_1 2 (by decide) 3 rfl kX11_runLaid_18 rfl dX11_runLaid_194 ?_
        refine zb_iload_n X dX11_runLaid_197 rfl 4 rfl ?_
        obtain ⟨hz, h⟩ := h
        refine zb_iald X 3 (by decide) 1 49 0 0 rfl (Or.inl rfl) x3.toNatClampNeg rfl hz dX11_runLaid_198 (a2 3 x3.toNatClampNeg) rfl ?_
        obtain ⟨hq6, h⟩ := h
        refine zb_gald X 26 (by decide) 4 77 rfl ((a2 3 x3.toNatClampNeg).toNatClampNeg) rfl hq6 dX11_runLaid_199 ?_
        refine zb_aload_n X dX11_runLaid_200 rfl 1 rfl ?_
        refine zb_iload_n X dX11_runLaid_201 rfl 4 rfl ?_
        refine zb_iload X dX11_runLaid_202 0 rfl ?_
        refine zb_callVi (n := 2) X 0 (by decide) 11 [3, 4, 5, 6, 7, 8, 9, 10, 11, 0, 12, 0, 0, 0, 0, 0, 0, 0, 0, 0, 0, 0, 0, 13, 14, 15, 16, 17, 0, 18, 19, 20, 21, 0, 0, 0, 22, 23, 24, 25, 0, 0, 26, 27, 28, 29, 0, 0, 0, 30, 0] rfl (C := RX11) (Tt := TX11) (N := 51) rfl h gX11_runLaid_X11_place rfl (by decide +kernel) (by decide) rfl rfl (Nat.le_of_ble_eq_true rfl) dX11_runLaid_204 (kc' := 1) (ks' := 128) rfl rfl (fun q7 a7 h => ?_)
        obtain ⟨hz, h⟩ := h
        refine zb_iald X (77 + (a2 3 x3.toNatClampNeg).toNatClampNeg) (zgr_lt77 hq6) 1 1024 0 0 (zgr77 hq6) (Or.inl rfl) q7.toNatClampNeg rfl hz dX11_runLaid_207 (a7 (77 + (a2 3 x3.toNatClampNeg).toNatClampNeg) q7.toNatClampNeg) rfl ?_
        refine zb_goto X 291 dX11_runLaid_208 (by decide) ?_
        obtain ⟨hz, h⟩ := h
        refine zb_iast X (81 + x3.toNatClampNeg) (zgr_lt81 hq4) 1 64 0 0 (zgr81 hq4) (Or.inl rfl) q2.toNatClampNeg rfl hz dX11_runLaid_291 ?_
        refine zb_sub [1, 2, 3, 4] rfl ?_
        exact tX11_runLaid_292 X hR hK30 hK77 hK84 hK149 hK300 hK311 hK401 x1 x2 x3 (up2 a7 (81 + x3.toNatClampNeg) q2.toNatClampNeg (a7 (77 + (a2 3 x3.toNatClampNeg).toNatClampNeg) q7.toNatClampNeg)) h
set_option maxRecDepth 20000 in
theorem tX11_runLaid_300 {G : zG} {Z : zC}  {ad ln : Nat → Nat} (X : zX G Z cX11_runLaid 5 RX11 wsX11_runLaid) {K30 : Int32 → Int32 → (Nat → Nat → Int32) → Prop} {K77 : Int32 → Int32 → (Nat → Nat → Int32) → Prop} {K84 : Int32 → Int32 → Int32 → (Nat → Nat → Int32) → Prop} {K149 : Int32 → Int32 → Int32 → (Nat → Nat → Int32) → Prop} {K300 : Int32 → Int32 → Int32 → (Nat → Nat → Int32) → Prop} {K311 : Int32 → Int32 → Int32 → Int32 → (Nat → Nat → Int32) → Prop} {K401 : Int32 → Int32 → (Nat → Nat → Int32) → Prop} {post : Int32 → (Nat → Nat → Int32) → Prop} (hR : zRi G Z rmX11_runLaid 5 zTR ad ln cX11_runLaid .int post) (hK30 : ∀ x1 x2 : Int32, ∀ al, K30 x1 x2 al → zB G Z rmX11_runLaid 5 zTR ad ln 1 128 30 [(0, .ref (ad 0)), (1, .int x1), (2, .int x2)] [] al) (hK77 : ∀ x1 x2 : Int32, ∀ al, K77 x1 x2 al → zB G Z rmX11_runLaid 5 zTR ad ln 1 128 77 [(0, .ref (ad 0)), (1, .int x1), (2, .int x2)] [] al) (hK84 : ∀ x1 x2 x3 : Int32, ∀ al, K84 x1 x2 x3 al → zB G Z rmX11_runLaid 5 zTR ad ln 1 128 84 [(0, .ref (ad 0)), (1, .int x1), (2, .int x2), (3, .int x3)] [] al) (hK149 : ∀ x1 x2 x3 : Int32, ∀ al, K149 x1 x2 x3 al → zB G Z rmX11_runLaid 5 zTR ad ln 1 128 149 [(0, .ref (ad 0)), (1, .int x1), (2, .int x2), (3, .int x3)] [] al) (hK300 : ∀ x1 x2 x3 : Int32, ∀ al, K300 x1 x2 x3 al → zB G Z rmX11_runLaid 5 zTR ad ln 1 128 300 [(0, .ref (ad 0)), (1, .int x1), (2, .int x2), (3, .int x3)] [] al) (hK311 : ∀ x1 x2 x3 x4 : Int32, ∀ al, K311 x1 x2 x3 x4 al → zB G Z rmX11_runLaid 5 zTR ad ln 1 128 311 [(0, .ref (ad 0)), (1, .int x1), (2, .int x2), (3, .int x3), (4, .int x4)] [] al) (hK401 : ∀ x1 x2 : Int32, ∀ al, K401 x1 x2 al → zB G Z rmX11_runLaid 5 zTR ad ln 1 128 401 [(0, .ref (ad 0)), (1, .int x1), (2, .int x2)] [] al) (x1 x2 x3 : Int32) (al : Nat → Nat → Int32) (h : vcX11_runLaid_300 G  ad ln K30 K77 K84 K149 K300 K311 K401 post x1 x2 x3 al) : zB G Z rmX11_runLaid 5 zTR ad ln 1 128 300 [(0, .ref (ad 0)), (1, .int x1), (2, .int x2), (3, .int x3)] [] al := by
  unfold vcX11_runLaid_300 at h
  refine zb_iload_n X dX11_runLaid_300 rfl 3 rfl ?_
  refine zb_aload_n X dX11_runLaid_301 rfl 0 rfl ?_
  refine zb_getI X 0 (by decide) 11 [3, 4, 5, 6, 7, 8, 9, 10, 11, 0, 12, 0, 0, 0, 0, 0, 0, 0, 0, 0, 0, 0, 0, 13, 14, 15, 16, 17, 0, 18, 19, 20, 21, 0, 0, 0, 22, 23, 24, 25, 0, 0, 26, 27, 28, 29, 0, 0, 0, 30, 0] rfl (C := RX11) (Tt := TX11) (N := 51) rfl kX11_runLaid_1 18 (by decide) rfl kX11_runLaid_2 rfl dX11_runLaid_302 (al 0 18) rfl ?_
  refine zb_icmp_ge X 393 dX11_runLaid_305 (by decide) (fun c1 => ?_) (fun c1 => ?_)
  · have h := h.1 c1
    refine zb_iinc X (lv' := [(2, .int (x2 + (1 : Int32))), (0, .ref (ad 0)), (1, .int x1), (3, .int x3)]) (x2 + (1 : Int32)) dX11_runLaid_393 2 rfl rfl (by decide) rfl ?_
    refine zb_goto X 77 dX11_runLaid_396 (by decide) ?_
    refine zb_sub [1, 2, 0] rfl ?_
    exact hK77 x1 (x2 + (1 : Int32)) al h
  · have h := h.2 c1
    refine zb_iconst X (0 : Int32) dX11_runLaid_308 (by decide) ?_
    refine zb_istore X (lv' := [(4, .int (0 : Int32)), (0, .ref (ad 0)), (1, .int x1), (2, .int x2), (3, .int x3)]) dX11_runLaid_309 (by decide) rfl ?_
    refine zb_sub [1, 2, 3, 4, 0] rfl ?_
    exact hK311 x1 x2 x3 (0 : Int32) al h
set_option maxRecDepth 20000 in
theorem tX11_runLaid_381 {G : zG} {Z : zC}  {ad ln : Nat → Nat} (X : zX G Z cX11_runLaid 5 RX11 wsX11_runLaid) {K30 : Int32 → Int32 → (Nat → Nat → Int32) → Prop} {K77 : Int32 → Int32 → (Nat → Nat → Int32) → Prop} {K84 : Int32 → Int32 → Int32 → (Nat → Nat → Int32) → Prop} {K149 : Int32 → Int32 → Int32 → (Nat → Nat → Int32) → Prop} {K300 : Int32 → Int32 → Int32 → (Nat → Nat → Int32) → Prop} {K311 : Int32 → Int32 → Int32 → Int32 → (Nat → Nat → Int32) → Prop} {K401 : Int32 → Int32 → (Nat → Nat → Int32) → Prop} {post : Int32 → (Nat → Nat → Int32) → Prop} (hR : zRi G Z rmX11_runLaid 5 zTR ad ln cX11_runLaid .int post) (hK30 : ∀ x1 x2 : Int32, ∀ al, K30 x1 x2 al → zB G Z rmX11_runLaid 5 zTR ad ln 1 128 30 [(0, .ref (ad 0)), (1, .int x1), (2, .int x2)] [] al) (hK77 : ∀ x1 x2 : Int32, ∀ al, K77 x1 x2 al → zB G Z rmX11_runLaid 5 zTR ad ln 1 128 77 [(0, .ref (ad 0)), (1, .int x1), (2, .int x2)] [] al) (hK84 : ∀ x1 x2 x3 : Int32, ∀ al, K84 x1 x2 x3 al → zB G Z rmX11_runLaid 5 zTR ad ln 1 128 84 [(0, .ref (ad 0)), (1, .int x1), (2, .int x2), (3, .int x3)] [] al) (hK149 : ∀ x1 x2 x3 : Int32, ∀ al, K149 x1 x2 x3 al → zB G Z rmX11_runLaid 5 zTR ad ln 1 128 149 [(0, .ref (ad 0)), (1, .int x1), (2, .int x2), (3, .int x3)] [] al) (hK300 : ∀ x1 x2 x3 : Int32, ∀ al, K300 x1 x2 x3 al → zB G Z rmX11_runLaid 5 zTR ad ln 1 128 300 [(0, .ref (ad 0)), (1, .int x1), (2, .int x2), (3, .int x3)] [] al) (hK311 : ∀ x1 x2 x3 x4 : Int32, ∀ al, K311 x1 x2 x3 x4 al → zB G Z rmX11_runLaid 5 zTR ad ln 1 128 311 [(0, .ref (ad 0)), (1, .int x1), (2, .int x2), (3, .int x3), (4, .int x4)] [] al) (hK401 : ∀ x1 x2 : Int32, ∀ al, K401 x1 x2 al → zB G Z rmX11_runLaid 5 zTR ad ln 1 128 401 [(0, .ref (ad 0)), (1, .int x1), (2, .int x2)] [] al) (x1 x2 x3 x4 : Int32) (al : Nat → Nat → Int32) (h : vcX11_runLaid_381 G  ad ln K30 K77 K84 K149 K300 K311 K401 post x1 x2 x3 x4 al) : zB G Z rmX11_runLaid 5 zTR ad ln 1 128 381 [(0, .ref (ad 0)), (1, .int x1), (2, .int x2), (3, .int x3), (4, .int x4)] [] al := by
  unfold vcX11_runLaid_381 at h
  refine zb_iinc X (lv' := [(4, .int (x4 + (1 : Int32))), (0, .ref (ad 0)), (1, .int x1), (2, .int x2), (3, .int x3)]) (x4 + (1 : Int32)) dX11_runLaid_381 4 rfl rfl (by decide) rfl ?_
  refine zb_goto X 311 dX11_runLaid_384 (by decide) ?_
  refine zb_sub [1, 2, 3, 4, 0] rfl ?_
  exact hK311 x1 x2 x3 (x4 + (1 : Int32)) al h
set_option maxRecDepth 20000 in
theorem tX11_runLaid_311 {G : zG} {Z : zC}  {ad ln : Nat → Nat} (X : zX G Z cX11_runLaid 5 RX11 wsX11_runLaid) {K30 : Int32 → Int32 → (Nat → Nat → Int32) → Prop} {K77 : Int32 → Int32 → (Nat → Nat → Int32) → Prop} {K84 : Int32 → Int32 → Int32 → (Nat → Nat → Int32) → Prop} {K149 : Int32 → Int32 → Int32 → (Nat → Nat → Int32) → Prop} {K300 : Int32 → Int32 → Int32 → (Nat → Nat → Int32) → Prop} {K311 : Int32 → Int32 → Int32 → Int32 → (Nat → Nat → Int32) → Prop} {K401 : Int32 → Int32 → (Nat → Nat → Int32) → Prop} {post : Int32 → (Nat → Nat → Int32) → Prop} (hR : zRi G Z rmX11_runLaid 5 zTR ad ln cX11_runLaid .int post) (hK30 : ∀ x1 x2 : Int32, ∀ al, K30 x1 x2 al → zB G Z rmX11_runLaid 5 zTR ad ln 1 128 30 [(0, .ref (ad 0)), (1, .int x1), (2, .int x2)] [] al) (hK77 : ∀ x1 x2 : Int32, ∀ al, K77 x1 x2 al → zB G Z rmX11_runLaid 5 zTR ad ln 1 128 77 [(0, .ref (ad 0)), (1, .int x1), (2, .int x2)] [] al) (hK84 : ∀ x1 x2 x3 : Int32, ∀ al, K84 x1 x2 x3 al → zB G Z rmX11_runLaid 5 zTR ad ln 1 128 84 [(0, .ref (ad 0)), (1, .int x1), (2, .int x2), (3, .int x3)] [] al) (hK149 : ∀ x1 x2 x3 : Int32, ∀ al, K149 x1 x2 x3 al → zB G Z rmX11_runLaid 5 zTR ad ln 1 128 149 [(0, .ref (ad 0)), (1, .int x1), (2, .int x2), (3, .int x3)] [] al) (hK300 : ∀ x1 x2 x3 : Int32, ∀ al, K300 x1 x2 x3 al → zB G Z rmX11_runLaid 5 zTR ad ln 1 128 300 [(0, .ref (ad 0)), (1, .int x1), (2, .int x2), (3, .int x3)] [] al) (hK311 : ∀ x1 x2 x3 x4 : Int32, ∀ al, K311 x1 x2 x3 x4 al → zB G Z rmX11_runLaid 5 zTR ad ln 1 128 311 [(0, .ref (ad 0)), (1, .int x1), (2, .int x2), (3, .int x3), (4, .int x4)] [] al) (hK401 : ∀ x1 x2 : Int32, ∀ al, K401 x1 x2 al → zB G Z rmX11_runLaid 5 zTR ad ln 1 128 401 [(0, .ref (ad 0)), (1, .int x1), (2, .int x2)] [] al) (x1 x2 x3 x4 : Int32) (al : Nat → Nat → Int32) (h : vcX11_runLaid_311 G  ad ln K30 K77 K84 K149 K300 K311 K401 post x1 x2 x3 x4 al) : zB G Z rmX11_runLaid 5 zTR ad ln 1 128 311 [(0, .ref (ad 0)), (1, .int x1), (2, .int x2), (3, .int x3), (4, .int x4)] [] al := by
  unfold vcX11_runLaid_311 at h
  refine zb_iload X dX11_runLaid_311 4 rfl ?_
  refine zb_aload_n X dX11_runLaid_313 rfl 0 rfl ?_
  refine zb_getI X 0 (by decide) 11 [3, 4, 5, 6, 7, 8, 9, 10, 11, 0, 12, 0, 0, 0, 0, 0, 0, 0, 0, 0, 0, 0, 0, 13, 14, 15, 16, 17, 0, 18, 19, 20, 21, 0, 0, 0, 22, 23, 24, 25, 0, 0, 26, 27, 28, 29, 0, 0, 0, 30, 0] rfl (C := RX11) (Tt := TX11) (N := 51) rfl kX11_runLaid_1 9 (by decide) rfl kX11_runLaid_0 rfl dX11_runLaid_314 (al 0 9) rfl ?_
  refine zb_icmp_ge X 387 dX11_runLaid_317 (by decide) (fun c1 => ?_) (fun c1 => ?_)
  · have h := h.1 c1
    refine zb_iinc X (lv' := [(3, .int (x3 + (1 : Int32))), (0, .ref (ad 0)), (1, .int x1), (2, .int x2), (4, .int x4)]) (x3 + (1 : Int32)) dX11_runLaid_387 3 rfl rfl (by decide) rfl ?_
    refine zb_goto X 300 dX11_runLaid_390 (by decide) ?_
    refine zb_sub [1, 2, 3, 0] rfl ?_
    exact hK300 x1 x2 (x3 + (1 : Int32)) al h
  · have h := h.2 c1
    refine zb_aload_n X dX11_runLaid_320 rfl 0 rfl ?_
    refine zb_getR X 0 (by decide) 11 [3, 4, 5, 6, 7, 8, 9, 10, 11, 0, 12, 0, 0, 0, 0, 0, 0, 0, 0, 0, 0, 0, 0, 13, 14, 15, 16, 17, 0, 18, 19, 20, 21, 0, 0, 0, 22, 23, 24, 25, 0, 0, 26, 27, 28, 29, 0, 0, 0, 30, 0] rfl (C := RX11) (Tt := TX11) (N := 51) rfl kX11_runLaid_1 0 (by decide) 1 rfl kX11_runLaid_12 rfl dX11_runLaid_321 ?_
    refine zb_iload X dX11_runLaid_324 4 rfl ?_
    obtain ⟨hz, h⟩ := h
    refine zb_iald X 1 (by decide) 1 49 0 0 rfl (Or.inl rfl) x4.toNatClampNeg rfl hz dX11_runLaid_326 (al 1 x4.toNatClampNeg) rfl ?_
    refine zb_bipush X (12 : Int32) dX11_runLaid_327 (by decide) ?_
    refine zb_icmp_ne X 381 dX11_runLaid_329 (by decide) (fun c2 => ?_) (fun c2 => ?_)
    · have h := h.1 c2
      refine zb_sub [0, 1, 2, 3, 4] rfl ?_
      exact tX11_runLaid_381 X hR hK30 hK77 hK84 hK149 hK300 hK311 hK401 x1 x2 x3 x4 al h
    · have h := h.2 c2
      refine zb_aload_n X dX11_runLaid_332 rfl 0 rfl ?_
      refine zb_iload X dX11_runLaid_333 4 rfl ?_
      refine zb_iload_n X dX11_runLaid_335 rfl 2 rfl ?_
      refine zb_aload_n X dX11_runLaid_336 rfl 0 rfl ?_
      refine zb_iload X dX11_runLaid_337 4 rfl ?_
      refine zb_callVi (n := 1) X 0 (by decide) 11 [3, 4, 5, 6, 7, 8, 9, 10, 11, 0, 12, 0, 0, 0, 0, 0, 0, 0, 0, 0, 0, 0, 0, 13, 14, 15, 16, 17, 0, 18, 19, 20, 21, 0, 0, 0, 22, 23, 24, 25, 0, 0, 26, 27, 28, 29, 0, 0, 0, 30, 0] rfl (C := RX11) (Tt := TX11) (N := 51) rfl h gX11_runLaid_X11_time rfl (by decide +kernel) (by decide) rfl rfl (Nat.le_of_ble_eq_true rfl) dX11_runLaid_339 (kc' := 1) (ks' := 128) rfl rfl (fun q3 a3 h => ?_)
      refine zb_isub X dX11_runLaid_342 ?_
      refine zb_iconst X (1 : Int32) dX11_runLaid_343 (by decide) ?_
      refine zb_iadd X dX11_runLaid_344 ?_
      refine zb_callVi (n := 2) X 0 (by decide) 11 [3, 4, 5, 6, 7, 8, 9, 10, 11, 0, 12, 0, 0, 0, 0, 0, 0, 0, 0, 0, 0, 0, 0, 13, 14, 15, 16, 17, 0, 18, 19, 20, 21, 0, 0, 0, 22, 23, 24, 25, 0, 0, 26, 27, 28, 29, 0, 0, 0, 30, 0] rfl (C := RX11) (Tt := TX11) (N := 51) rfl h gX11_runLaid_X11_roundAt rfl (by decide +kernel) (by decide) rfl rfl (Nat.le_of_ble_eq_true rfl) dX11_runLaid_345 (kc' := 1) (ks' := 128) rfl rfl (fun q4 a4 h => ?_)
      refine zb_iload_n X dX11_runLaid_348 rfl 3 rfl ?_
      refine zb_icmp_ne X 381 dX11_runLaid_349 (by decide) (fun c5 => ?_) (fun c5 => ?_)
      · have h := h.1 c5
        refine zb_sub [0, 1, 2, 3, 4] rfl ?_
        exact tX11_runLaid_381 X hR hK30 hK77 hK84 hK149 hK300 hK311 hK401 x1 x2 x3 x4 a4 h
      · have h := h.2 c5
        refine zb_aload_n X dX11_runLaid_352 rfl 0 rfl ?_
        refine zb_getR X 0 (by decide) 11 [3, 4, 5, 6, 7, 8, 9, 10, 11, 0, 12, 0, 0, 0, 0, 0, 0, 0, 0, 0, 0, 0, 0, 13, 14, 15, 16, 17, 0, 18, 19, 20, 21, 0, 0, 0, 22, 23, 24, 25, 0, 0, 26, 27, 28, 29, 0, 0, 0, 30, 0] rfl (C := RX11) (Tt := TX11) (N := 51) rfl kX11_runLaid_1 44 (by decide) 26 rfl kX11_runLaid_17 rfl dX11_runLaid_353 ?_
        refine zb_aload_n X dX11_runLaid_356 rfl 0 rfl ?_
        refine zb_getR X 0 (by decide) 11 [3, 4, 5, 6, 7, 8, 9, 10, 11, 0, 12, 0, 0, 0, 0, 0, 0, 0, 0, 0, 0, 0, 0, 13, 14, 15, 16, 17, 0, 18, 19, 20, 21, 0, 0, 0, 22, 23, 24, 25, 0, 0, 26, 27, 28, 29, 0, 0, 0, 30, 0] rfl (C := RX11) (Tt := TX11) (N := 51) rfl kX11_runLaid_1 2 (by decide) 3 rfl kX11_runLaid_18 rfl dX11_runLaid_357 ?_
        refine zb_iload X dX11_runLaid_360 4 rfl ?_
        obtain ⟨hz, h⟩ := h
        refine zb_iald X 3 (by decide) 1 49 0 0 rfl (Or.inl rfl) x4.toNatClampNeg rfl hz dX11_runLaid_362 (a4 3 x4.toNatClampNeg) rfl ?_
        obtain ⟨hq6, h⟩ := h
        refine zb_gald X 26 (by decide) 4 77 rfl ((a4 3 x4.toNatClampNeg).toNatClampNeg) rfl hq6 dX11_runLaid_363 ?_
        refine zb_aload_n X dX11_runLaid_364 rfl 0 rfl ?_
        refine zb_iload X dX11_runLaid_365 4 rfl ?_
        refine zb_iload_n X dX11_runLaid_367 rfl 3 rfl ?_
        refine zb_callVi (n := 2) X 0 (by decide) 11 [3, 4, 5, 6, 7, 8, 9, 10, 11, 0, 12, 0, 0, 0, 0, 0, 0, 0, 0, 0, 0, 0, 0, 13, 14, 15, 16, 17, 0, 18, 19, 20, 21, 0, 0, 0, 22, 23, 24, 25, 0, 0, 26, 27, 28, 29, 0, 0, 0, 30, 0] rfl (C := RX11) (Tt := TX11) (N := 51) rfl h gX11_runLaid_X11_place rfl (by decide +kernel) (by decide) rfl rfl (Nat.le_of_ble_eq_true rfl) dX11_runLaid_368 (kc' := 1) (ks' := 128) rfl rfl (fun q7 a7 h => ?_)
        refine zb_aload_n X dX11_runLaid_371 rfl 0 rfl ?_
        refine zb_getR X 0 (by decide) 11 [3, 4, 5, 6, 7, 8, 9, 10, 11, 0, 12, 0, 0, 0, 0, 0, 0, 0, 0, 0, 0, 0, 0, 13, 14, 15, 16, 17, 0, 18, 19, 20, 21, 0, 0, 0, 22, 23, 24, 25, 0, 0, 26, 27, 28, 29, 0, 0, 0, 30, 0] rfl (C := RX11) (Tt := TX11) (N := 51) rfl kX11_runLaid_1 45 (by decide) 27 rfl kX11_runLaid_11 rfl dX11_runLaid_372 ?_
        refine zb_iload X dX11_runLaid_375 4 rfl ?_
        obtain ⟨hq8, h⟩ := h
        refine zb_gald X 27 (by decide) 48 81 rfl x4.toNatClampNeg rfl hq8 dX11_runLaid_377 ?_
        refine zb_iload_n X dX11_runLaid_378 rfl 3 rfl ?_
        obtain ⟨hz, h⟩ := h
        refine zb_iald X (81 + x4.toNatClampNeg) (zgr_lt81 hq8) 1 64 0 0 (zgr81 hq8) (Or.inl rfl) x3.toNatClampNeg rfl hz dX11_runLaid_379 (a7 (81 + x4.toNatClampNeg) x3.toNatClampNeg) rfl ?_
        obtain ⟨hz, h⟩ := h
        refine zb_iast X (77 + (a4 3 x4.toNatClampNeg).toNatClampNeg) (zgr_lt77 hq6) 1 1024 0 0 (zgr77 hq6) (Or.inl rfl) q7.toNatClampNeg rfl hz dX11_runLaid_380 ?_
        refine zb_sub [0, 1, 2, 3, 4] rfl ?_
        exact tX11_runLaid_381 X hR hK30 hK77 hK84 hK149 hK300 hK311 hK401 x1 x2 x3 x4 (up2 a7 (77 + (a4 3 x4.toNatClampNeg).toNatClampNeg) q7.toNatClampNeg (a7 (81 + x4.toNatClampNeg) x3.toNatClampNeg)) h
set_option maxRecDepth 20000 in
theorem tX11_runLaid_401 {G : zG} {Z : zC}  {ad ln : Nat → Nat} (X : zX G Z cX11_runLaid 5 RX11 wsX11_runLaid) {K30 : Int32 → Int32 → (Nat → Nat → Int32) → Prop} {K77 : Int32 → Int32 → (Nat → Nat → Int32) → Prop} {K84 : Int32 → Int32 → Int32 → (Nat → Nat → Int32) → Prop} {K149 : Int32 → Int32 → Int32 → (Nat → Nat → Int32) → Prop} {K300 : Int32 → Int32 → Int32 → (Nat → Nat → Int32) → Prop} {K311 : Int32 → Int32 → Int32 → Int32 → (Nat → Nat → Int32) → Prop} {K401 : Int32 → Int32 → (Nat → Nat → Int32) → Prop} {post : Int32 → (Nat → Nat → Int32) → Prop} (hR : zRi G Z rmX11_runLaid 5 zTR ad ln cX11_runLaid .int post) (hK30 : ∀ x1 x2 : Int32, ∀ al, K30 x1 x2 al → zB G Z rmX11_runLaid 5 zTR ad ln 1 128 30 [(0, .ref (ad 0)), (1, .int x1), (2, .int x2)] [] al) (hK77 : ∀ x1 x2 : Int32, ∀ al, K77 x1 x2 al → zB G Z rmX11_runLaid 5 zTR ad ln 1 128 77 [(0, .ref (ad 0)), (1, .int x1), (2, .int x2)] [] al) (hK84 : ∀ x1 x2 x3 : Int32, ∀ al, K84 x1 x2 x3 al → zB G Z rmX11_runLaid 5 zTR ad ln 1 128 84 [(0, .ref (ad 0)), (1, .int x1), (2, .int x2), (3, .int x3)] [] al) (hK149 : ∀ x1 x2 x3 : Int32, ∀ al, K149 x1 x2 x3 al → zB G Z rmX11_runLaid 5 zTR ad ln 1 128 149 [(0, .ref (ad 0)), (1, .int x1), (2, .int x2), (3, .int x3)] [] al) (hK300 : ∀ x1 x2 x3 : Int32, ∀ al, K300 x1 x2 x3 al → zB G Z rmX11_runLaid 5 zTR ad ln 1 128 300 [(0, .ref (ad 0)), (1, .int x1), (2, .int x2), (3, .int x3)] [] al) (hK311 : ∀ x1 x2 x3 x4 : Int32, ∀ al, K311 x1 x2 x3 x4 al → zB G Z rmX11_runLaid 5 zTR ad ln 1 128 311 [(0, .ref (ad 0)), (1, .int x1), (2, .int x2), (3, .int x3), (4, .int x4)] [] al) (hK401 : ∀ x1 x2 : Int32, ∀ al, K401 x1 x2 al → zB G Z rmX11_runLaid 5 zTR ad ln 1 128 401 [(0, .ref (ad 0)), (1, .int x1), (2, .int x2)] [] al) (x1 x2 : Int32) (al : Nat → Nat → Int32) (h : vcX11_runLaid_401 G  ad ln K30 K77 K84 K149 K300 K311 K401 post x1 x2 al) : zB G Z rmX11_runLaid 5 zTR ad ln 1 128 401 [(0, .ref (ad 0)), (1, .int x1), (2, .int x2)] [] al := by
  unfold vcX11_runLaid_401 at h
  refine zb_iload_n X dX11_runLaid_401 rfl 2 rfl ?_
  refine zb_bipush X (32 : Int32) dX11_runLaid_402 (by decide) ?_
  refine zb_icmp_ge X 451 dX11_runLaid_404 (by decide) (fun c1 => ?_) (fun c1 => ?_)
  · have h := h.1 c1
    refine zb_iload_n X dX11_runLaid_451 rfl 1 rfl ?_
    exact hR 452 _ _ _ dX11_runLaid_452 rfl h
  · have h := h.2 c1
    refine zb_aload_n X dX11_runLaid_407 rfl 0 rfl ?_
    refine zb_iload_n X dX11_runLaid_408 rfl 2 rfl ?_
    refine zb_callVi (n := 1) X 0 (by decide) 11 [3, 4, 5, 6, 7, 8, 9, 10, 11, 0, 12, 0, 0, 0, 0, 0, 0, 0, 0, 0, 0, 0, 0, 13, 14, 15, 16, 17, 0, 18, 19, 20, 21, 0, 0, 0, 22, 23, 24, 25, 0, 0, 26, 27, 28, 29, 0, 0, 0, 30, 0] rfl (C := RX11) (Tt := TX11) (N := 51) rfl h gX11_runLaid_X11_setter rfl (by decide +kernel) (by decide) rfl rfl (Nat.le_of_ble_eq_true rfl) dX11_runLaid_409 (kc' := 1) (ks' := 128) rfl rfl (fun q2 a2 h => ?_)
    refine zb_istore_n X (lv' := [(3, .int q2), (0, .ref (ad 0)), (1, .int x1), (2, .int x2)]) dX11_runLaid_412 rfl (by decide) rfl ?_
    refine zb_aload_n X dX11_runLaid_413 rfl 1 rfl ?_
    refine zb_getR X 0 (by decide) 11 [3, 4, 5, 6, 7, 8, 9, 10, 11, 0, 12, 0, 0, 0, 0, 0, 0, 0, 0, 0, 0, 0, 0, 13, 14, 15, 16, 17, 0, 18, 19, 20, 21, 0, 0, 0, 22, 23, 24, 25, 0, 0, 26, 27, 28, 29, 0, 0, 0, 30, 0] rfl (C := RX11) (Tt := TX11) (N := 51) rfl kX11_runLaid_1 43 (by decide) 25 rfl kX11_runLaid_19 rfl dX11_runLaid_414 ?_
    refine zb_iload_n X dX11_runLaid_417 rfl 3 rfl ?_
    refine zb_iload_n X dX11_runLaid_418 rfl 0 rfl ?_
    refine zb_if_ge X 431 dX11_runLaid_419 (by decide) (fun c3 => ?_) (fun c3 => ?_)
    · have h := h.1 c3
      refine zb_aload_n X dX11_runLaid_431 rfl 1 rfl ?_
      refine zb_getR X 0 (by decide) 11 [3, 4, 5, 6, 7, 8, 9, 10, 11, 0, 12, 0, 0, 0, 0, 0, 0, 0, 0, 0, 0, 0, 0, 13, 14, 15, 16, 17, 0, 18, 19, 20, 21, 0, 0, 0, 22, 23, 24, 25, 0, 0, 26, 27, 28, 29, 0, 0, 0, 30, 0] rfl (C := RX11) (Tt := TX11) (N := 51) rfl kX11_runLaid_1 45 (by decide) 27 rfl kX11_runLaid_11 rfl dX11_runLaid_432 ?_
      refine zb_iload_n X dX11_runLaid_435 rfl 0 rfl ?_
      obtain ⟨hq4, h⟩ := h
      refine zb_gald X 27 (by decide) 48 81 rfl q2.toNatClampNeg rfl hq4 dX11_runLaid_436 ?_
      refine zb_aload_n X dX11_runLaid_437 rfl 1 rfl ?_
      refine zb_getI X 0 (by decide) 11 [3, 4, 5, 6, 7, 8, 9, 10, 11, 0, 12, 0, 0, 0, 0, 0, 0, 0, 0, 0, 0, 0, 0, 13, 14, 15, 16, 17, 0, 18, 19, 20, 21, 0, 0, 0, 22, 23, 24, 25, 0, 0, 26, 27, 28, 29, 0, 0, 0, 30, 0] rfl (C := RX11) (Tt := TX11) (N := 51) rfl kX11_runLaid_1 18 (by decide) rfl kX11_runLaid_2 rfl dX11_runLaid_438 (a2 0 18) rfl ?_
      refine zb_iconst X (1 : Int32) dX11_runLaid_441 (by decide) ?_
      refine zb_isub X dX11_runLaid_442 ?_
      obtain ⟨hz, h⟩ := h
      refine zb_iald X (81 + q2.toNatClampNeg) (zgr_lt81 hq4) 1 64 0 0 (zgr81 hq4) (Or.inl rfl) (((a2 0 18) - (1 : Int32)).toNatClampNeg) rfl hz dX11_runLaid_443 (a2 (81 + q2.toNatClampNeg) (((a2 0 18) - (1 : Int32)).toNatClampNeg)) rfl ?_
      obtain ⟨hz, h⟩ := h
      refine zb_iast X 25 (by decide) 1 32 0 0 rfl (Or.inl rfl) x2.toNatClampNeg rfl hz dX11_runLaid_444 ?_
      refine zb_iinc X (lv' := [(2, .int (x2 + (1 : Int32))), (3, .int q2), (0, .ref (ad 0)), (1, .int x1)]) (x2 + (1 : Int32)) dX11_runLaid_445 3 rfl rfl (by decide) rfl ?_
      refine zb_goto X 401 dX11_runLaid_448 (by decide) ?_
      refine zb_sub [2, 3, 0] rfl ?_
      exact hK401 x1 (x2 + (1 : Int32)) (up2 a2 25 x2.toNatClampNeg (a2 (81 + q2.toNatClampNeg) (((a2 0 18) - (1 : Int32)).toNatClampNeg))) h
    · have h := h.2 c3
      refine zb_aload_n X dX11_runLaid_422 rfl 1 rfl ?_
      refine zb_getR X 0 (by decide) 11 [3, 4, 5, 6, 7, 8, 9, 10, 11, 0, 12, 0, 0, 0, 0, 0, 0, 0, 0, 0, 0, 0, 0, 13, 14, 15, 16, 17, 0, 18, 19, 20, 21, 0, 0, 0, 22, 23, 24, 25, 0, 0, 26, 27, 28, 29, 0, 0, 0, 30, 0] rfl (C := RX11) (Tt := TX11) (N := 51) rfl kX11_runLaid_1 42 (by decide) 24 rfl kX11_runLaid_20 rfl dX11_runLaid_423 ?_
      refine zb_iload_n X dX11_runLaid_426 rfl 3 rfl ?_
      obtain ⟨hz, h⟩ := h
      refine zb_iald X 24 (by decide) 1 32 0 0 rfl (Or.inl rfl) x2.toNatClampNeg rfl hz dX11_runLaid_427 (a2 24 x2.toNatClampNeg) rfl ?_
      refine zb_goto X 444 dX11_runLaid_428 (by decide) ?_
      obtain ⟨hz, h⟩ := h
      refine zb_iast X 25 (by decide) 1 32 0 0 rfl (Or.inl rfl) x2.toNatClampNeg rfl hz dX11_runLaid_444 ?_
      refine zb_iinc X (lv' := [(2, .int (x2 + (1 : Int32))), (3, .int q2), (0, .ref (ad 0)), (1, .int x1)]) (x2 + (1 : Int32)) dX11_runLaid_445 3 rfl rfl (by decide) rfl ?_
      refine zb_goto X 401 dX11_runLaid_448 (by decide) ?_
      refine zb_sub [2, 3, 0] rfl ?_
      exact hK401 x1 (x2 + (1 : Int32)) (up2 a2 25 x2.toNatClampNeg (a2 24 x2.toNatClampNeg)) h
theorem uX11_runLaid_26 {G : zG} {Z : zC}  {ad ln : Nat → Nat} (X : zX G Z cX11_runLaid 5 RX11 wsX11_runLaid) {post : Int32 → (Nat → Nat → Int32) → Prop} (hR : zRi G Z rmX11_runLaid 5 zTR ad ln cX11_runLaid .int post) (al : Nat → Nat → Int32) (h : vcX11_runLaid_26 G  ad ln (BX11_runLaid_30 G Z  ad ln) (BX11_runLaid_77 G Z  ad ln) (BX11_runLaid_84 G Z  ad ln) (BX11_runLaid_149 G Z  ad ln) (BX11_runLaid_300 G Z  ad ln) (BX11_runLaid_311 G Z  ad ln) (BX11_runLaid_401 G Z  ad ln) post  al) : zB G Z rmX11_runLaid 5 zTR ad ln 1 128 26 [(0, .ref (ad 0))] [] al := tX11_runLaid_26 X hR (fun _ _ _ h => h) (fun _ _ _ h => h) (fun _ _ _ _ h => h) (fun _ _ _ _ h => h) (fun _ _ _ _ h => h) (fun _ _ _ _ _ h => h) (fun _ _ _ h => h)  al h
theorem uX11_runLaid_30 {G : zG} {Z : zC}  {ad ln : Nat → Nat} (X : zX G Z cX11_runLaid 5 RX11 wsX11_runLaid) {post : Int32 → (Nat → Nat → Int32) → Prop} (hR : zRi G Z rmX11_runLaid 5 zTR ad ln cX11_runLaid .int post) (x1 x2 : Int32) (al : Nat → Nat → Int32) (h : vcX11_runLaid_30 G  ad ln (BX11_runLaid_30 G Z  ad ln) (BX11_runLaid_77 G Z  ad ln) (BX11_runLaid_84 G Z  ad ln) (BX11_runLaid_149 G Z  ad ln) (BX11_runLaid_300 G Z  ad ln) (BX11_runLaid_311 G Z  ad ln) (BX11_runLaid_401 G Z  ad ln) post x1 x2 al) : zB G Z rmX11_runLaid 5 zTR ad ln 1 128 30 [(0, .ref (ad 0)), (1, .int x1), (2, .int x2)] [] al := tX11_runLaid_30 X hR (fun _ _ _ h => h) (fun _ _ _ h => h) (fun _ _ _ _ h => h) (fun _ _ _ _ h => h) (fun _ _ _ _ h => h) (fun _ _ _ _ _ h => h) (fun _ _ _ h => h) x1 x2 al h
theorem uX11_runLaid_77 {G : zG} {Z : zC}  {ad ln : Nat → Nat} (X : zX G Z cX11_runLaid 5 RX11 wsX11_runLaid) {post : Int32 → (Nat → Nat → Int32) → Prop} (hR : zRi G Z rmX11_runLaid 5 zTR ad ln cX11_runLaid .int post) (x1 x2 : Int32) (al : Nat → Nat → Int32) (h : vcX11_runLaid_77 G  ad ln (BX11_runLaid_30 G Z  ad ln) (BX11_runLaid_77 G Z  ad ln) (BX11_runLaid_84 G Z  ad ln) (BX11_runLaid_149 G Z  ad ln) (BX11_runLaid_300 G Z  ad ln) (BX11_runLaid_311 G Z  ad ln) (BX11_runLaid_401 G Z  ad ln) post x1 x2 al) : zB G Z rmX11_runLaid 5 zTR ad ln 1 128 77 [(0, .ref (ad 0)), (1, .int x1), (2, .int x2)] [] al := tX11_runLaid_77 X hR (fun _ _ _ h => h) (fun _ _ _ h => h) (fun _ _ _ _ h => h) (fun _ _ _ _ h => h) (fun _ _ _ _ h => h) (fun _ _ _ _ _ h => h) (fun _ _ _ h => h) x1 x2 al h
theorem uX11_runLaid_141 {G : zG} {Z : zC}  {ad ln : Nat → Nat} (X : zX G Z cX11_runLaid 5 RX11 wsX11_runLaid) {post : Int32 → (Nat → Nat → Int32) → Prop} (hR : zRi G Z rmX11_runLaid 5 zTR ad ln cX11_runLaid .int post) (x1 x2 x3 : Int32) (al : Nat → Nat → Int32) (h : vcX11_runLaid_141 G  ad ln (BX11_runLaid_30 G Z  ad ln) (BX11_runLaid_77 G Z  ad ln) (BX11_runLaid_84 G Z  ad ln) (BX11_runLaid_149 G Z  ad ln) (BX11_runLaid_300 G Z  ad ln) (BX11_runLaid_311 G Z  ad ln) (BX11_runLaid_401 G Z  ad ln) post x1 x2 x3 al) : zB G Z rmX11_runLaid 5 zTR ad ln 1 128 141 [(0, .ref (ad 0)), (1, .int x1), (2, .int x2), (3, .int x3)] [] al := tX11_runLaid_141 X hR (fun _ _ _ h => h) (fun _ _ _ h => h) (fun _ _ _ _ h => h) (fun _ _ _ _ h => h) (fun _ _ _ _ h => h) (fun _ _ _ _ _ h => h) (fun _ _ _ h => h) x1 x2 x3 al h
theorem uX11_runLaid_84 {G : zG} {Z : zC}  {ad ln : Nat → Nat} (X : zX G Z cX11_runLaid 5 RX11 wsX11_runLaid) {post : Int32 → (Nat → Nat → Int32) → Prop} (hR : zRi G Z rmX11_runLaid 5 zTR ad ln cX11_runLaid .int post) (x1 x2 x3 : Int32) (al : Nat → Nat → Int32) (h : vcX11_runLaid_84 G  ad ln (BX11_runLaid_30 G Z  ad ln) (BX11_runLaid_77 G Z  ad ln) (BX11_runLaid_84 G Z  ad ln) (BX11_runLaid_149 G Z  ad ln) (BX11_runLaid_300 G Z  ad ln) (BX11_runLaid_311 G Z  ad ln) (BX11_runLaid_401 G Z  ad ln) post x1 x2 x3 al) : zB G Z rmX11_runLaid 5 zTR ad ln 1 128 84 [(0, .ref (ad 0)), (1, .int x1), (2, .int x2), (3, .int x3)] [] al := tX11_runLaid_84 X hR (fun _ _ _ h => h) (fun _ _ _ h => h) (fun _ _ _ _ h => h) (fun _ _ _ _ h => h) (fun _ _ _ _ h => h) (fun _ _ _ _ _ h => h) (fun _ _ _ h => h) x1 x2 x3 al h
theorem uX11_runLaid_292 {G : zG} {Z : zC}  {ad ln : Nat → Nat} (X : zX G Z cX11_runLaid 5 RX11 wsX11_runLaid) {post : Int32 → (Nat → Nat → Int32) → Prop} (hR : zRi G Z rmX11_runLaid 5 zTR ad ln cX11_runLaid .int post) (x1 x2 x3 : Int32) (al : Nat → Nat → Int32) (h : vcX11_runLaid_292 G  ad ln (BX11_runLaid_30 G Z  ad ln) (BX11_runLaid_77 G Z  ad ln) (BX11_runLaid_84 G Z  ad ln) (BX11_runLaid_149 G Z  ad ln) (BX11_runLaid_300 G Z  ad ln) (BX11_runLaid_311 G Z  ad ln) (BX11_runLaid_401 G Z  ad ln) post x1 x2 x3 al) : zB G Z rmX11_runLaid 5 zTR ad ln 1 128 292 [(0, .ref (ad 0)), (1, .int x1), (2, .int x2), (3, .int x3)] [] al := tX11_runLaid_292 X hR (fun _ _ _ h => h) (fun _ _ _ h => h) (fun _ _ _ _ h => h) (fun _ _ _ _ h => h) (fun _ _ _ _ h => h) (fun _ _ _ _ _ h => h) (fun _ _ _ h => h) x1 x2 x3 al h
theorem uX11_runLaid_149 {G : zG} {Z : zC}  {ad ln : Nat → Nat} (X : zX G Z cX11_runLaid 5 RX11 wsX11_runLaid) {post : Int32 → (Nat → Nat → Int32) → Prop} (hR : zRi G Z rmX11_runLaid 5 zTR ad ln cX11_runLaid .int post) (x1 x2 x3 : Int32) (al : Nat → Nat → Int32) (h : vcX11_runLaid_149 G  ad ln (BX11_runLaid_30 G Z  ad ln) (BX11_runLaid_77 G Z  ad ln) (BX11_runLaid_84 G Z  ad ln) (BX11_runLaid_149 G Z  ad ln) (BX11_runLaid_300 G Z  ad ln) (BX11_runLaid_311 G Z  ad ln) (BX11_runLaid_401 G Z  ad ln) post x1 x2 x3 al) : zB G Z rmX11_runLaid 5 zTR ad ln 1 128 149 [(0, .ref (ad 0)), (1, .int x1), (2, .int x2), (3, .int x3)] [] al := tX11_runLaid_149 X hR (fun _ _ _ h => h) (fun _ _ _ h => h) (fun _ _ _ _ h => h) (fun _ _ _ _ h => h) (fun _ _ _ _ h => h) (fun _ _ _ _ _ h => h) (fun _ _ _ h => h) x1 x2 x3 al h
theorem uX11_runLaid_300 {G : zG} {Z : zC}  {ad ln : Nat → Nat} (X : zX G Z cX11_runLaid 5 RX11 wsX11_runLaid) {post : Int32 → (Nat → Nat → Int32) → Prop} (hR : zRi G Z rmX11_runLaid 5 zTR ad ln cX11_runLaid .int post) (x1 x2 x3 : Int32) (al : Nat → Nat → Int32) (h : vcX11_runLaid_300 G  ad ln (BX11_runLaid_30 G Z  ad ln) (BX11_runLaid_77 G Z  ad ln) (BX11_runLaid_84 G Z  ad ln) (BX11_runLaid_149 G Z  ad ln) (BX11_runLaid_300 G Z  ad ln) (BX11_runLaid_311 G Z  ad ln) (BX11_runLaid_401 G Z  ad ln) post x1 x2 x3 al) : zB G Z rmX11_runLaid 5 zTR ad ln 1 128 300 [(0, .ref (ad 0)), (1, .int x1), (2, .int x2), (3, .int x3)] [] al := tX11_runLaid_300 X hR (fun _ _ _ h => h) (fun _ _ _ h => h) (fun _ _ _ _ h => h) (fun _ _ _ _ h => h) (fun _ _ _ _ h => h) (fun _ _ _ _ _ h => h) (fun _ _ _ h => h) x1 x2 x3 al h
theorem uX11_runLaid_381 {G : zG} {Z : zC}  {ad ln : Nat → Nat} (X : zX G Z cX11_runLaid 5 RX11 wsX11_runLaid) {post : Int32 → (Nat → Nat → Int32) → Prop} (hR : zRi G Z rmX11_runLaid 5 zTR ad ln cX11_runLaid .int post) (x1 x2 x3 x4 : Int32) (al : Nat → Nat → Int32) (h : vcX11_runLaid_381 G  ad ln (BX11_runLaid_30 G Z  ad ln) (BX11_runLaid_77 G Z  ad ln) (BX11_runLaid_84 G Z  ad ln) (BX11_runLaid_149 G Z  ad ln) (BX11_runLaid_300 G Z  ad ln) (BX11_runLaid_311 G Z  ad ln) (BX11_runLaid_401 G Z  ad ln) post x1 x2 x3 x4 al) : zB G Z rmX11_runLaid 5 zTR ad ln 1 128 381 [(0, .ref (ad 0)), (1, .int x1), (2, .int x2), (3, .int x3), (4, .int x4)] [] al := tX11_runLaid_381 X hR (fun _ _ _ h => h) (fun _ _ _ h => h) (fun _ _ _ _ h => h) (fun _ _ _ _ h => h) (fun _ _ _ _ h => h) (fun _ _ _ _ _ h => h) (fun _ _ _ h => h) x1 x2 x3 x4 al h
theorem uX11_runLaid_311 {G : zG} {Z : zC}  {ad ln : Nat → Nat} (X : zX G Z cX11_runLaid 5 RX11 wsX11_runLaid) {post : Int32 → (Nat → Nat → Int32) → Prop} (hR : zRi G Z rmX11_runLaid 5 zTR ad ln cX11_runLaid .int post) (x1 x2 x3 x4 : Int32) (al : Nat → Nat → Int32) (h : vcX11_runLaid_311 G  ad ln (BX11_runLaid_30 G Z  ad ln) (BX11_runLaid_77 G Z  ad ln) (BX11_runLaid_84 G Z  ad ln) (BX11_runLaid_149 G Z  ad ln) (BX11_runLaid_300 G Z  ad ln) (BX11_runLaid_311 G Z  ad ln) (BX11_runLaid_401 G Z  ad ln) post x1 x2 x3 x4 al) : zB G Z rmX11_runLaid 5 zTR ad ln 1 128 311 [(0, .ref (ad 0)), (1, .int x1), (2, .int x2), (3, .int x3), (4, .int x4)] [] al := tX11_runLaid_311 X hR (fun _ _ _ h => h) (fun _ _ _ h => h) (fun _ _ _ _ h => h) (fun _ _ _ _ h => h) (fun _ _ _ _ h => h) (fun _ _ _ _ _ h => h) (fun _ _ _ h => h) x1 x2 x3 x4 al h
theorem uX11_runLaid_401 {G : zG} {Z : zC}  {ad ln : Nat → Nat} (X : zX G Z cX11_runLaid 5 RX11 wsX11_runLaid) {post : Int32 → (Nat → Nat → Int32) → Prop} (hR : zRi G Z rmX11_runLaid 5 zTR ad ln cX11_runLaid .int post) (x1 x2 : Int32) (al : Nat → Nat → Int32) (h : vcX11_runLaid_401 G  ad ln (BX11_runLaid_30 G Z  ad ln) (BX11_runLaid_77 G Z  ad ln) (BX11_runLaid_84 G Z  ad ln) (BX11_runLaid_149 G Z  ad ln) (BX11_runLaid_300 G Z  ad ln) (BX11_runLaid_311 G Z  ad ln) (BX11_runLaid_401 G Z  ad ln) post x1 x2 al) : zB G Z rmX11_runLaid 5 zTR ad ln 1 128 401 [(0, .ref (ad 0)), (1, .int x1), (2, .int x2)] [] al := tX11_runLaid_401 X hR (fun _ _ _ h => h) (fun _ _ _ h => h) (fun _ _ _ _ h => h) (fun _ _ _ _ h => h) (fun _ _ _ _ h => h) (fun _ _ _ _ _ h => h) (fun _ _ _ h => h) x1 x2 al h
