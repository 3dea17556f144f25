abbrev rmX11_isAbove : Room := { frames := 1, cells := 0, slots := 0, locals := 21 }
theorem kX11_isAbove_0 : Cond.fieldLink RX11 137 RX11 "rows" "I" ∈ wsX11_isAbove := by decide +kernel
theorem kX11_isAbove_1 : zIn RX11 TX11 51 wsX11_isAbove := by decide +kernel
theorem kX11_isAbove_2 : Cond.fieldLink RX11 178 RX11 "longest" "[[I" ∈ wsX11_isAbove := by decide +kernel
theorem kX11_isAbove_3 : Cond.constant RX11 182 (-536870912) ∈ wsX11_isAbove := by decide +kernel
theorem kX11_isAbove_4 : Cond.fieldLink RX11 119 RX11 "waits" "I" ∈ wsX11_isAbove := by decide +kernel
theorem kX11_isAbove_5 : Cond.fieldLink RX11 131 RX11 "waitDelay" "[I" ∈ wsX11_isAbove := by decide +kernel
theorem kX11_isAbove_6 : Cond.fieldLink RX11 128 RX11 "waitD" "[I" ∈ wsX11_isAbove := by decide +kernel
theorem kX11_isAbove_7 : Cond.fieldLink RX11 122 RX11 "waitX" "[I" ∈ wsX11_isAbove := by decide +kernel
theorem kX11_isAbove_8 : Cond.fieldLink RX11 125 RX11 "waitY" "[I" ∈ wsX11_isAbove := by decide +kernel
theorem kX11_isAbove_9 : Cond.methodLink RX11 134 Lib.Math.max.name ∈ wsX11_isAbove := by decide +kernel
theorem kX11_isAbove_10 : Cond.static Lib.Math.max.name ∈ wsX11_isAbove := by decide +kernel
theorem kX11_isAbove_11 : Cond.initialized "java/lang/Math" ∈ wsX11_isAbove := by decide +kernel
theorem kX11_isAbove_12 : Cond.code Lib.Math.max.name Lib.Math.max.code 2 (some .int) ∈ wsX11_isAbove := by decide +kernel
abbrev BX11_isAbove_153 (G : zG) (Z : zC)  (ad ln : Nat → Nat) (p1 : Int32) (x2 x3 x4 : Int32) (al : Nat → Nat → Int32) : Prop := zB G Z rmX11_isAbove 5 zTR ad ln 0 0 153 [(0, .ref (ad 0)), (2, .int x2), (3, .int x3), (4, .int x4)] [] al
abbrev BX11_isAbove_126 (G : zG) (Z : zC)  (ad ln : Nat → Nat) (p1 : Int32) (x2 x3 : Int32) (al : Nat → Nat → Int32) : Prop := zB G Z rmX11_isAbove 5 zTR ad ln 0 0 126 [(0, .ref (ad 0)), (2, .int x2), (3, .int x3)] [] al
abbrev BX11_isAbove_116 (G : zG) (Z : zC)  (ad ln : Nat → Nat) (p1 : Int32) (x2 : Int32) (al : Nat → Nat → Int32) : Prop := zB G Z rmX11_isAbove 5 zTR ad ln 0 0 116 [(0, .ref (ad 0)), (2, .int x2)] [] al
abbrev BX11_isAbove_44 (G : zG) (Z : zC)  (ad ln : Nat → Nat) (p1 : Int32) (x2 : Int32) (al : Nat → Nat → Int32) : Prop := zB G Z rmX11_isAbove 5 zTR ad ln 0 0 44 [(0, .ref (ad 0)), (1, .int p1), (2, .int x2)] [] al
abbrev BX11_isAbove_12 (G : zG) (Z : zC)  (ad ln : Nat → Nat) (p1 : Int32) (x2 x3 : Int32) (al : Nat → Nat → Int32) : Prop := zB G Z rmX11_isAbove 5 zTR ad ln 0 0 12 [(0, .ref (ad 0)), (1, .int p1), (2, .int x2), (3, .int x3)] [] al
abbrev BX11_isAbove_2 (G : zG) (Z : zC)  (ad ln : Nat → Nat) (p1 : Int32) (x2 : Int32) (al : Nat → Nat → Int32) : Prop := zB G Z rmX11_isAbove 5 zTR ad ln 0 0 2 [(0, .ref (ad 0)), (1, .int p1), (2, .int x2)] [] al
def vcX11_isAbove_0 (G : zG)  (ad ln : Nat → Nat) (p1 : Int32) (K2 : Int32 → (Nat → Nat → Int32) → Prop) (K12 : Int32 → Int32 → (Nat → Nat → Int32) → Prop) (K44 : Int32 → (Nat → Nat → Int32) → Prop) (K116 : Int32 → (Nat → Nat → Int32) → Prop) (K126 : Int32 → Int32 → (Nat → Nat → Int32) → Prop) (K153 : Int32 → Int32 → Int32 → (Nat → Nat → Int32) → Prop) (post : Int32 → (Nat → Nat → Int32) → Prop) (al : Nat → Nat → Int32) : Prop :=
  K2 (0 : Int32) al
def vcX11_isAbove_2 (G : zG)  (ad ln : Nat → Nat) (p1 : Int32) (K2 : Int32 → (Nat → Nat → Int32) → Prop) (K12 : Int32 → Int32 → (Nat → Nat → Int32) → Prop) (K44 : Int32 → (Nat → Nat → Int32) → Prop) (K116 : Int32 → (Nat → Nat → Int32) → Prop) (K126 : Int32 → Int32 → (Nat → Nat → Int32) → Prop) (K153 : Int32 → Int32 → Int32 → (Nat → Nat → Int32) → Prop) (post : Int32 → (Nat → Nat → Int32) → Prop) (x2 : Int32) (al : Nat → Nat → Int32) : Prop :=
  ((al 0 9) ≤ x2 → K44 (0 : Int32) al) ∧ (¬ (al 0 9) ≤ x2 → K12 x2 (0 : Int32) al)
def vcX11_isAbove_12 (G : zG)  (ad ln : Nat → Nat) (p1 : Int32) (K2 : Int32 → (Nat → Nat → Int32) → Prop) (K12 : Int32 → Int32 → (Nat → Nat → Int32) → Prop) (K44 : Int32 → (Nat → Nat → Int32) → Prop) (K116 : Int32 → (Nat → Nat → Int32) → Prop) (K126 : Int32 → Int32 → (Nat → Nat → Int32) → Prop) (K153 : Int32 → Int32 → Int32 → (Nat → Nat → Int32) → Prop) (post : Int32 → (Nat → Nat → Int32) → Prop) (x2 x3 : Int32) (al : Nat → Nat → Int32) : Prop :=
  ((al 0 9) ≤ x3 → K2 (x2 + (1 : Int32)) al) ∧ (¬ (al 0 9) ≤ x3 → (vp_in x2 48 ∧ vp_in x3 48 ∧ K12 x2 (x3 + (1 : Int32)) (up2 al (29 + x2.toNatClampNeg) x3.toNatClampNeg (-536870912 : Int32))))
def vcX11_isAbove_44 (G : zG)  (ad ln : Nat → Nat) (p1 : Int32) (K2 : Int32 → (Nat → Nat → Int32) → Prop) (K12 : Int32 → Int32 → (Nat → Nat → Int32) → Prop) (K44 : Int32 → (Nat → Nat → Int32) → Prop) (K116 : Int32 → (Nat → Nat → Int32) → Prop) (K126 : Int32 → Int32 → (Nat → Nat → Int32) → Prop) (K153 : Int32 → Int32 → Int32 → (Nat → Nat → Int32) → Prop) (post : Int32 → (Nat → Nat → Int32) → Prop) (x2 : Int32) (al : Nat → Nat → Int32) : Prop :=
  ((al 0 28) ≤ x2 → K116 (0 : Int32) al) ∧ (¬ (al 0 28) ≤ x2 → (vp_in x2 4608 ∧ vp_in x2 4608 ∧ vp_in x2 4608 ∧ vp_in (al 12 x2.toNatClampNeg) 48 ∧ vp_in x2 4608 ∧ vp_in x2 4608 ∧ vp_in x2 4608 ∧ vp_in (al 13 x2.toNatClampNeg) 48 ∧ vp_in (al 13 x2.toNatClampNeg) 48 ∧ K44 (x2 + (1 : Int32)) (up2 al (29 + (al 12 x2.toNatClampNeg).toNatClampNeg) ((al 13 x2.toNatClampNeg).toNatClampNeg) (if (al (29 + (al 12 x2.toNatClampNeg).toNatClampNeg) ((al 13 x2.toNatClampNeg).toNatClampNeg)) < ((al 15 x2.toNatClampNeg) - ((al 14 x2.toNatClampNeg) * p1)) then ((al 15 x2.toNatClampNeg) - ((al 14 x2.toNatClampNeg) * p1)) else (al (29 + (al 12 x2.toNatClampNeg).toNatClampNeg) ((al 13 x2.toNatClampNeg).toNatClampNeg))))))
def vcX11_isAbove_116 (G : zG)  (ad ln : Nat → Nat) (p1 : Int32) (K2 : Int32 → (Nat → Nat → Int32) → Prop) (K12 : Int32 → Int32 → (Nat → Nat → Int32) → Prop) (K44 : Int32 → (Nat → Nat → Int32) → Prop) (K116 : Int32 → (Nat → Nat → Int32) → Prop) (K126 : Int32 → Int32 → (Nat → Nat → Int32) → Prop) (K153 : Int32 → Int32 → Int32 → (Nat → Nat → Int32) → Prop) (post : Int32 → (Nat → Nat → Int32) → Prop) (x2 : Int32) (al : Nat → Nat → Int32) : Prop :=
  ((al 0 9) ≤ x2 → post (0 : Int32) al) ∧ (¬ (al 0 9) ≤ x2 → K126 x2 (0 : Int32) al)
def vcX11_isAbove_234 (G : zG)  (ad ln : Nat → Nat) (p1 : Int32) (K2 : Int32 → (Nat → Nat → Int32) → Prop) (K12 : Int32 → Int32 → (Nat → Nat → Int32) → Prop) (K44 : Int32 → (Nat → Nat → Int32) → Prop) (K116 : Int32 → (Nat → Nat → Int32) → Prop) (K126 : Int32 → Int32 → (Nat → Nat → Int32) → Prop) (K153 : Int32 → Int32 → Int32 → (Nat → Nat → Int32) → Prop) (post : Int32 → (Nat → Nat → Int32) → Prop) (x2 x3 : Int32) (al : Nat → Nat → Int32) : Prop :=
  K126 x2 (x3 + (1 : Int32)) al
def vcX11_isAbove_126 (G : zG)  (ad ln : Nat → Nat) (p1 : Int32) (K2 : Int32 → (Nat → Nat → Int32) → Prop) (K12 : Int32 → Int32 → (Nat → Nat → Int32) → Prop) (K44 : Int32 → (Nat → Nat → Int32) → Prop) (K116 : Int32 → (Nat → Nat → Int32) → Prop) (K126 : Int32 → Int32 → (Nat → Nat → Int32) → Prop) (K153 : Int32 → Int32 → Int32 → (Nat → Nat → Int32) → Prop) (post : Int32 → (Nat → Nat → Int32) → Prop) (x2 x3 : Int32) (al : Nat → Nat → Int32) : Prop :=
  ((al 0 9) ≤ x3 → K116 (x2 + (1 : Int32)) al) ∧ (¬ (al 0 9) ≤ x3 → (vp_in x3 48 ∧ vp_in x2 48 ∧ (¬ (al (29 + x3.toNatClampNeg) x2.toNatClampNeg) = (-536870912 : Int32) → K153 x2 x3 (0 : Int32) al) ∧ ((al (29 + x3.toNatClampNeg) x2.toNatClampNeg) = (-536870912 : Int32) → vcX11_isAbove_234 G  ad ln p1 K2 K12 K44 K116 K126 K153 post x2 x3 al)))
def vcX11_isAbove_215 (G : zG)  (ad ln : Nat → Nat) (p1 : Int32) (K2 : Int32 → (Nat → Nat → Int32) → Prop) (K12 : Int32 → Int32 → (Nat → Nat → Int32) → Prop) (K44 : Int32 → (Nat → Nat → Int32) → Prop) (K116 : Int32 → (Nat → Nat → Int32) → Prop) (K126 : Int32 → Int32 → (Nat → Nat → Int32) → Prop) (K153 : Int32 → Int32 → Int32 → (Nat → Nat → Int32) → Prop) (post : Int32 → (Nat → Nat → Int32) → Prop) (x2 x3 x4 : Int32) (al : Nat → Nat → Int32) : Prop :=
  K153 x2 x3 (x4 + (1 : Int32)) al
def vcX11_isAbove_153 (G : zG)  (ad ln : Nat → Nat) (p1 : Int32) (K2 : Int32 → (Nat → Nat → Int32) → Prop) (K12 : Int32 → Int32 → (Nat → Nat → Int32) → Prop) (K44 : Int32 → (Nat → Nat → Int32) → Prop) (K116 : Int32 → (Nat → Nat → Int32) → Prop) (K126 : Int32 → Int32 → (Nat → Nat → Int32) → Prop) (K153 : Int32 → Int32 → Int32 → (Nat → Nat → Int32) → Prop) (post : Int32 → (Nat → Nat → Int32) → Prop) (x2 x3 x4 : Int32) (al : Nat → Nat → Int32) : Prop :=
  ((al 0 9) ≤ x4 → (vp_in x3 48 ∧ vp_in x3 48 ∧ ((al (29 + x3.toNatClampNeg) x3.toNatClampNeg) ≤ 0 → vcX11_isAbove_234 G  ad ln p1 K2 K12 K44 K116 K126 K153 post x2 x3 al) ∧ (¬ (al (29 + x3.toNatClampNeg) x3.toNatClampNeg) ≤ 0 → post (1 : Int32) al))) ∧ (¬ (al 0 9) ≤ x4 → (vp_in x2 48 ∧ vp_in x4 48 ∧ ((al (29 + x2.toNatClampNeg) x4.toNatClampNeg) ≤ (-536870912 : Int32) → vcX11_isAbove_215 G  ad ln p1 K2 K12 K44 K116 K126 K153 post x2 x3 x4 al) ∧ (¬ (al (29 + x2.toNatClampNeg) x4.toNatClampNeg) ≤ (-536870912 : Int32) → (vp_in x3 48 ∧ vp_in x4 48 ∧ vp_in x2 48 ∧ vp_in x4 48 ∧ vp_in x4 48 ∧ vcX11_isAbove_215 G  ad ln p1 K2 K12 K44 K116 K126 K153 post x2 x3 x4 (up2 al (29 + x3.toNatClampNeg) x4.toNatClampNeg (if (al (29 + x3.toNatClampNeg) x4.toNatClampNeg) < ((al (29 + x3.toNatClampNeg) x2.toNatClampNeg) + (al (29 + x2.toNatClampNeg) x4.toNatClampNeg)) then ((al (29 + x3.toNatClampNeg) x2.toNatClampNeg) + (al (29 + x2.toNatClampNeg) x4.toNatClampNeg)) else (al (29 + x3.toNatClampNeg) x4.toNatClampNeg)))))))
set_option maxRecDepth 20000 in
theorem tX11_isAbove_0 {G : zG} {Z : zC}  {ad ln : Nat → Nat} (X : zX G Z cX11_isAbove 5 RX11 wsX11_isAbove) (p1 : Int32) {K2 : Int32 → (Nat → Nat → Int32) → Prop} {K12 : Int32 → Int32 → (Nat → Nat → Int32) → Prop} {K44 : Int32 → (Nat → Nat → Int32) → Prop} {K116 : Int32 → (Nat → Nat → Int32) → Prop} {K126 : Int32 → Int32 → (Nat → Nat → Int32) → Prop} {K153 : Int32 → Int32 → Int32 → (Nat → Nat → Int32) → Prop} {post : Int32 → (Nat → Nat → Int32) → Prop} (hR : zRi G Z rmX11_isAbove 5 zTR ad ln cX11_isAbove .boolean post) (hK2 : ∀ x2 : Int32, ∀ al, K2 x2 al → zB G Z rmX11_isAbove 5 zTR ad ln 0 0 2 [(0, .ref (ad 0)), (1, .int p1), (2, .int x2)] [] al) (hK12 : ∀ x2 x3 : Int32, ∀ al, K12 x2 x3 al → zB G Z rmX11_isAbove 5 zTR ad ln 0 0 12 [(0, .ref (ad 0)), (1, .int p1), (2, .int x2), (3, .int x3)] [] al) (hK44 : ∀ x2 : Int32, ∀ al, K44 x2 al → zB G Z rmX11_isAbove 5 zTR ad ln 0 0 44 [(0, .ref (ad 0)), (1, .int p1), (2, .int x2)] [] al) (hK116 : ∀ x2 : Int32, ∀ al, K116 x2 al → zB G Z rmX11_isAbove 5 zTR ad ln 0 0 116 [(0, .ref (ad 0)), (2, .int x2)] [] al) (hK126 : ∀ x2 x3 : Int32, ∀ al, K126 x2 x3 al → zB G Z rmX11_isAbove 5 zTR ad ln 0 0 126 [(0, .ref (ad 0)), (2, .int x2), (3, .int x3)] [] al) (hK153 : ∀ x2 x3 x4 : Int32, ∀ al, K153 x2 x3 x4 al → zB G Z rmX11_isAbove 5 zTR ad ln 0 0 153 [(0, .ref (ad 0)), (2, .int x2), (3, .int x3), (4, .int x4)] [] al) (al : Nat → Nat → Int32) (h : vcX11_isAbove_0 G  ad ln p1 K2 K12 K44 K116 K126 K153 post  al) : zB G Z rmX11_isAbove 5 zTR ad ln 0 0 0 [(0, .ref (ad 0)), (1, .int p1)] [] al := by
  unfold vcX11_isAbove_0 at h
  refine zb_iconst X (0 : Int32) dX11_isAbove_0 (by decide) ?_
  refine zb_istore_n X (lv' := [(2, .int (0 : Int32)), (0, .ref (ad 0)), (1, .int p1)]) dX11_isAbove_1 rfl (by decide) rfl ?_
  refine zb_sub [1, 2, 0] rfl ?_
  exact hK2 (0 : Int32) al h
set_option maxRecDepth 20000 in
theorem tX11_isAbove_2 {G : zG} {Z : zC}  {ad ln : Nat → Nat} (X : zX G Z cX11_isAbove 5 RX11 wsX11_isAbove) (p1 : Int32) {K2 : Int32 → (Nat → Nat → Int32) → Prop} {K12 : Int32 → Int32 → (Nat → Nat → Int32) → Prop} {K44 : Int32 → (Nat → Nat → Int32) → Prop} {K116 : Int32 → (Nat → Nat → Int32) → Prop} {K126 : Int32 → Int32 → (Nat → Nat → Int32) → Prop} {K153 : Int32 → Int32 → Int32 → (Nat → Nat → Int32) → Prop} {post : Int32 → (Nat → Nat → Int32) → Prop} (hR : zRi G Z rmX11_isAbove 5 zTR ad ln cX11_isAbove .boolean post) (hK2 : ∀ x2 : Int32, ∀ al, K2 x2 al → zB G Z rmX11_isAbove 5 zTR ad ln 0 0 2 [(0, .ref (ad 0)), (1, .int p1), (2, .int x2)] [] al) (hK12 : ∀ x2 x3 : Int32, ∀ al, K12 x2 x3 al → zB G Z rmX11_isAbove 5 zTR ad ln 0 0 12 [(0, .ref (ad 0)), (1, .int p1), (2, .int x2), (3, .int x3)] [] al) (hK44 : ∀ x2 : Int32, ∀ al, K44 x2 al → zB G Z rmX11_isAbove 5 zTR ad ln 0 0 44 [(0, .ref (ad 0)), (1, .int p1), (2, .int x2)] [] al) (hK116 : ∀ x2 : Int32, ∀ al, K116 x2 al → zB G Z rmX11_isAbove 5 zTR ad ln 0 0 116 [(0, .ref (ad 0)), (2, .int x2)] [] al) (hK126 : ∀ x2 x3 : Int32, ∀ al, K126 x2 x3 al → zB G Z rmX11_isAbove 5 zTR ad ln 0 0 126 [(0, .ref (ad 0)), (2, .int x2), (3, .int x3)] [] al) (hK153 : ∀ x2 x3 x4 : Int32, ∀ al, K153 x2 x3 x4 al → zB G Z rmX11_isAbove 5 zTR ad ln 0 0 153 [(0, .ref (ad 0)), (2, .int x2), (3, .int x3), (4, .int x4)] [] al) (x2 : Int32) (al : Nat → Nat → Int32) (h : vcX11_isAbove_2 G  ad ln p1 K2 K12 K44 K116 K126 K153 post x2 al) : zB G Z rmX11_isAbove 5 zTR ad ln 0 0 2 [(0, .ref (ad 0)), (1, .int p1), (2, .int x2)] [] al := by
  unfold vcX11_isAbove_2 at h
  refine zb_iload_n X dX11_isAbove_2 rfl 2 rfl ?_
  refine zb_aload_n X dX11_isAbove_3 rfl 0 rfl ?_
  refine zb_getI X 0 (by decide) 11 [3, 4, 5, 6, 7, 8, 9, 10, 11, 0, 12, 0, 0, 0, 0, 0, 0, 0, 0, 0, 0, 0, 0, 13, 14, 15, 16, 17, 0, 18, 19, 20, 21, 0, 0, 0, 22, 23, 24, 25, 0, 0, 26, 27, 28, 29, 0, 0, 0, 30, 0] rfl (C := RX11) (Tt := TX11) (N := 51) rfl kX11_isAbove_1 9 (by decide) rfl kX11_isAbove_0 rfl dX11_isAbove_4 (al 0 9) rfl ?_
  refine zb_icmp_ge X 42 dX11_isAbove_7 (by decide) (fun c1 => ?_) (fun c1 => ?_)
  · have h := h.1 c1
    refine zb_iconst X (0 : Int32) dX11_isAbove_42 (by decide) ?_
    refine zb_istore_n X (lv' := [(2, .int (0 : Int32)), (0, .ref (ad 0)), (1, .int p1)]) dX11_isAbove_43 rfl (by decide) rfl ?_
    refine zb_sub [1, 2, 0] rfl ?_
    exact hK44 (0 : Int32) al h
  · have h := h.2 c1
    refine zb_iconst X (0 : Int32) dX11_isAbove_10 (by decide) ?_
    refine zb_istore_n X (lv' := [(3, .int (0 : Int32)), (0, .ref (ad 0)), (1, .int p1), (2, .int x2)]) dX11_isAbove_11 rfl (by decide) rfl ?_
    refine zb_sub [1, 2, 3, 0] rfl ?_
    exact hK12 x2 (0 : Int32) al h
set_option maxRecDepth 20000 in
theorem tX11_isAbove_12 {G : zG} {Z : zC}  {ad ln : Nat → Nat} (X : zX G Z cX11_isAbove 5 RX11 wsX11_isAbove) (p1 : Int32) {K2 : Int32 → (Nat → Nat → Int32) → Prop} {K12 : Int32 → Int32 → (Nat → Nat → Int32) → Prop} {K44 : Int32 → (Nat → Nat → Int32) → Prop} {K116 : Int32 → (Nat → Nat → Int32) → Prop} {K126 : Int32 → Int32 → (Nat → Nat → Int32) → Prop} {K153 : Int32 → Int32 → Int32 → (Nat → Nat → Int32) → Prop} {post : Int32 → (Nat → Nat → Int32) → Prop} (hR : zRi G Z rmX11_isAbove 5 zTR ad ln cX11_isAbove .boolean post) (hK2 : ∀ x2 : Int32, ∀ al, K2 x2 al → zB G Z rmX11_isAbove 5 zTR ad ln 0 0 2 [(0, .ref (ad 0)), (1, .int p1), (2, .int x2)] [] al) (hK12 : ∀ x2 x3 : Int32, ∀ al, K12 x2 x3 al → zB G Z rmX11_isAbove 5 zTR ad ln 0 0 12 [(0, .ref (ad 0)), (1, .int p1), (2, .int x2), (3, .int x3)] [] al) (hK44 : ∀ x2 : Int32, ∀ al, K44 x2 al → zB G Z rmX11_isAbove 5 zTR ad ln 0 0 44 [(0, .ref (ad 0)), (1, .int p1), (2, .int x2)] [] al) (hK116 : ∀ x2 : Int32, ∀ al, K116 x2 al → zB G Z rmX11_isAbove 5 zTR ad ln 0 0 116 [(0, .ref (ad 0)), (2, .int x2)] [] al) (hK126 : ∀ x2 x3 : Int32, ∀ al, K126 x2 x3 al → zB G Z rmX11_isAbove 5 zTR ad ln 0 0 126 [(0, .ref (ad 0)), (2, .int x2), (3, .int x3)] [] al) (hK153 : ∀ x2 x3 x4 : Int32, ∀ al, K153 x2 x3 x4 al → zB G Z rmX11_isAbove 5 zTR ad ln 0 0 153 [(0, .ref (ad 0)), (2, .int x2), (3, .int x3), (4, .int x4)] [] al) (x2 x3 : Int32) (al : Nat → Nat → Int32) (h : vcX11_isAbove_12 G  ad ln p1 K2 K12 K44 K116 K126 K153 post x2 x3 al) : zB G Z rmX11_isAbove 5 zTR ad ln 0 0 12 [(0, .ref (ad 0)), (1, .int p1), (2, .int x2), (3, .int x3)] [] al := by
  unfold vcX11_isAbove_12 at h
  refine zb_iload_n X dX11_isAbove_12 rfl 3 rfl ?_
  refine zb_aload_n X dX11_isAbove_13 rfl 0 rfl ?_
  refine zb_getI X 0 (by decide) 11 [3, 4, 5, 6, 7, 8, 9, 10, 11, 0, 12, 0, 0, 0, 0, 0, 0, 0, 0, 0, 0, 0, 0, 13, 14, 15, 16, 17, 0, 18, 19, 20, 21, 0, 0, 0, 22, 23, 24, 25, 0, 0, 26, 27, 28, 29, 0, 0, 0, 30, 0] rfl (C := RX11) (Tt := TX11) (N := 51) rfl kX11_isAbove_1 9 (by decide) rfl kX11_isAbove_0 rfl dX11_isAbove_14 (al 0 9) rfl ?_
  refine zb_icmp_ge X 36 dX11_isAbove_17 (by decide) (fun c1 => ?_) (fun c1 => ?_)
  · have h := h.1 c1
    refine zb_iinc X (lv' := [(2, .int (x2 + (1 : Int32))), (0, .ref (ad 0)), (1, .int p1), (3, .int x3)]) (x2 + (1 : Int32)) dX11_isAbove_36 2 rfl rfl (by decide) rfl ?_
    refine zb_goto X 2 dX11_isAbove_39 (by decide) ?_
    refine zb_sub [1, 2, 0] rfl ?_
    exact hK2 (x2 + (1 : Int32)) al h
  · have h := h.2 c1
    refine zb_aload_n X dX11_isAbove_20 rfl 0 rfl ?_
    refine zb_getR X 0 (by decide) 11 [3, 4, 5, 6, 7, 8, 9, 10, 11, 0, 12, 0, 0, 0, 0, 0, 0, 0, 0, 0, 0, 0, 0, 13, 14, 15, 16, 17, 0, 18, 19, 20, 21, 0, 0, 0, 22, 23, 24, 25, 0, 0, 26, 27, 28, 29, 0, 0, 0, 30, 0] rfl (C := RX11) (Tt := TX11) (N := 51) rfl kX11_isAbove_1 29 (by decide) 16 rfl kX11_isAbove_2 rfl dX11_isAbove_21 ?_
    refine zb_iload_n X dX11_isAbove_24 rfl 2 rfl ?_
    obtain ⟨hq2, h⟩ := h
    refine zb_gald X 16 (by decide) 48 29 rfl x2.toNatClampNeg rfl hq2 dX11_isAbove_25 ?_
    refine zb_iload_n X dX11_isAbove_26 rfl 3 rfl ?_
    refine zb_ldc X (-536870912 : Int32) kX11_isAbove_3 dX11_isAbove_27 ?_
    obtain ⟨hz, h⟩ := h
    refine zb_iast X (29 + x2.toNatClampNeg) (zgr_lt29 hq2) 1 48 0 0 (zgr29 hq2) (Or.inl rfl) x3.toNatClampNeg rfl hz dX11_isAbove_29 ?_
    refine zb_iinc X (lv' := [(3, .int (x3 + (1 : Int32))), (0, .ref (ad 0)), (1, .int p1), (2, .int x2)]) (x3 + (1 : Int32)) dX11_isAbove_30 3 rfl rfl (by decide) rfl ?_
    refine zb_goto X 12 dX11_isAbove_33 (by decide) ?_
    refine zb_sub [1, 2, 3, 0] rfl ?_
    exact hK12 x2 (x3 + (1 : Int32)) (up2 al (29 + x2.toNatClampNeg) x3.toNatClampNeg (-536870912 : Int32)) h
set_option maxRecDepth 20000 in
theorem tX11_isAbove_44 {G : zG} {Z : zC}  {ad ln : Nat → Nat} (X : zX G Z cX11_isAbove 5 RX11 wsX11_isAbove) (p1 : Int32) {K2 : Int32 → (Nat → Nat → Int32) → Prop} {K12 : Int32 → Int32 → (Nat → Nat → Int32) → Prop} {K44 : Int32 → (Nat → Nat → Int32) → Prop} {K116 : Int32 → (Nat → Nat → Int32) → Prop} {K126 : Int32 → Int32 → (Nat → Nat → Int32) → Prop} {K153 : Int32 → Int32 → Int32 → (Nat → Nat → Int32) → Prop} {post : Int32 → (Nat → Nat → Int32) → Prop} (hR : zRi G Z rmX11_isAbove 5 zTR ad ln cX11_isAbove .boolean post) (hK2 : ∀ x2 : Int32, ∀ al, K2 x2 al → zB G Z rmX11_isAbove 5 zTR ad ln 0 0 2 [(0, .ref (ad 0)), (1, .int p1), (2, .int x2)] [] al) (hK12 : ∀ x2 x3 : Int32, ∀ al, K12 x2 x3 al → zB G Z rmX11_isAbove 5 zTR ad ln 0 0 12 [(0, .ref (ad 0)), (1, .int p1), (2, .int x2), (3, .int x3)] [] al) (hK44 : ∀ x2 : Int32, ∀ al, K44 x2 al → zB G Z rmX11_isAbove 5 zTR ad ln 0 0 44 [(0, .ref (ad 0)), (1, .int p1), (2, .int x2)] [] al) (hK116 : ∀ x2 : Int32, ∀ al, K116 x2 al → zB G Z rmX11_isAbove 5 zTR ad ln 0 0 116 [(0, .ref (ad 0)), (2, .int x2)] [] al) (hK126 : ∀ x2 x3 : Int32, ∀ al, K126 x2 x3 al → zB G Z rmX11_isAbove 5 zTR ad ln 0 0 126 [(0, .ref (ad 0)), (2, .int x2), (3, .int x3)] [] al) (hK153 : ∀ x2 x3 x4 : Int32, ∀ al, K153 x2 x3 x4 al → zB G Z rmX11_isAbove 5 zTR ad ln 0 0 153 [(0, .ref (ad 0)), (2, .int x2), (3, .int x3), (4, .int x4)] [] al) (x2 : Int32) (al : Nat → Nat → Int32) (h : vcX11_isAbove_44 G  ad ln p1 K2 K12 K44 K116 K126 K153 post x2 al) : zB G Z rmX11_isAbove 5 zTR ad ln 0 0 44 [(0, .ref (ad 0)), (1, .int p1), (2, .int x2)] [] al := by
  unfold vcX11_isAbove_44 at h
  refine zb_iload_n X dX11_isAbove_44 rfl 2 rfl ?_
  refine zb_aload_n X dX11_isAbove_45 rfl 0 rfl ?_
  refine zb_getI X 0 (by decide) 11 [3, 4, 5, 6, 7, 8, 9, 10, 11, 0, 12, 0, 0, 0, 0, 0, 0, 0, 0, 0, 0, 0, 0, 13, 14, 15, 16, 17, 0, 18, 19, 20, 21, 0, 0, 0, 22, 23, 24, 25, 0, 0, 26, 27, 28, 29, 0, 0, 0, 30, 0] rfl (C := RX11) (Tt := TX11) (N := 51) rfl kX11_isAbove_1 28 (by decide) rfl kX11_isAbove_4 rfl dX11_isAbove_46 (al 0 28) rfl ?_
  refine zb_icmp_ge X 114 dX11_isAbove_49 (by decide) (fun c1 => ?_) (fun c1 => ?_)
  · have h := h.1 c1
    refine zb_iconst X (0 : Int32) dX11_isAbove_114 (by decide) ?_
    refine zb_istore_n X (lv' := [(2, .int (0 : Int32)), (0, .ref (ad 0)), (1, .int p1)]) dX11_isAbove_115 rfl (by decide) rfl ?_
    refine zb_sub [1, 0] rfl ?_
    exact hK116 (0 : Int32) al h
  · have h := h.2 c1
    refine zb_aload_n X dX11_isAbove_52 rfl 0 rfl ?_
    refine zb_getR X 0 (by decide) 11 [3, 4, 5, 6, 7, 8, 9, 10, 11, 0, 12, 0, 0, 0, 0, 0, 0, 0, 0, 0, 0, 0, 0, 13, 14, 15, 16, 17, 0, 18, 19, 20, 21, 0, 0, 0, 22, 23, 24, 25, 0, 0, 26, 27, 28, 29, 0, 0, 0, 30, 0] rfl (C := RX11) (Tt := TX11) (N := 51) rfl kX11_isAbove_1 27 (by decide) 15 rfl kX11_isAbove_5 rfl dX11_isAbove_53 ?_
    refine zb_iload_n X dX11_isAbove_56 rfl 2 rfl ?_
    obtain ⟨hz, h⟩ := h
    refine zb_iald X 15 (by decide) 1 4608 0 0 rfl (Or.inl rfl) x2.toNatClampNeg rfl hz dX11_isAbove_57 (al 15 x2.toNatClampNeg) rfl ?_
    refine zb_aload_n X dX11_isAbove_58 rfl 0 rfl ?_
    refine zb_getR X 0 (by decide) 11 [3, 4, 5, 6, 7, 8, 9, 10, 11, 0, 12, 0, 0, 0, 0, 0, 0, 0, 0, 0, 0, 0, 0, 13, 14, 15, 16, 17, 0, 18, 19, 20, 21, 0, 0, 0, 22, 23, 24, 25, 0, 0, 26, 27, 28, 29, 0, 0, 0, 30, 0] rfl (C := RX11) (Tt := TX11) (N := 51) rfl kX11_isAbove_1 26 (by decide) 14 rfl kX11_isAbove_6 rfl dX11_isAbove_59 ?_
    refine zb_iload_n X dX11_isAbove_62 rfl 2 rfl ?_
    obtain ⟨hz, h⟩ := h
    refine zb_iald X 14 (by decide) 1 4608 0 0 rfl (Or.inl rfl) x2.toNatClampNeg rfl hz dX11_isAbove_63 (al 14 x2.toNatClampNeg) rfl ?_
    refine zb_iload_n X dX11_isAbove_64 rfl 1 rfl ?_
    refine zb_imul X dX11_isAbove_65 ?_
    refine zb_isub X dX11_isAbove_66 ?_
    refine zb_istore_n X (lv' := [(3, .int ((al 15 x2.toNatClampNeg) - ((al 14 x2.toNatClampNeg) * p1))), (0, .ref (ad 0)), (1, .int p1), (2, .int x2)]) dX11_isAbove_67 rfl (by decide) rfl ?_
    refine zb_aload_n X dX11_isAbove_68 rfl 1 rfl ?_
    refine zb_getR X 0 (by decide) 11 [3, 4, 5, 6, 7, 8, 9, 10, 11, 0, 12, 0, 0, 0, 0, 0, 0, 0, 0, 0, 0, 0, 0, 13, 14, 15, 16, 17, 0, 18, 19, 20, 21, 0, 0, 0, 22, 23, 24, 25, 0, 0, 26, 27, 28, 29, 0, 0, 0, 30, 0] rfl (C := RX11) (Tt := TX11) (N := 51) rfl kX11_isAbove_1 29 (by decide) 16 rfl kX11_isAbove_2 rfl dX11_isAbove_69 ?_
    refine zb_aload_n X dX11_isAbove_72 rfl 1 rfl ?_
    refine zb_getR X 0 (by decide) 11 [3, 4, 5, 6, 7, 8, 9, 10, 11, 0, 12, 0, 0, 0, 0, 0, 0, 0, 0, 0, 0, 0, 0, 13, 14, 15, 16, 17, 0, 18, 19, 20, 21, 0, 0, 0, 22, 23, 24, 25, 0, 0, 26, 27, 28, 29, 0, 0, 0, 30, 0] rfl (C := RX11) (Tt := TX11) (N := 51) rfl kX11_isAbove_1 24 (by decide) 12 rfl kX11_isAbove_7 rfl dX11_isAbove_73 ?_
    refine zb_iload_n X dX11_isAbove_76 rfl 3 rfl ?_
    obtain ⟨hz, h⟩ := h
    refine zb_iald X 12 (by decide) 1 4608 0 0 rfl (Or.inl rfl) x2.toNatClampNeg rfl hz dX11_isAbove_77 (al 12 x2.toNatClampNeg) rfl ?_
    obtain ⟨hq2, h⟩ := h
    refine zb_gald X 16 (by decide) 48 29 rfl ((al 12 x2.toNatClampNeg).toNatClampNeg) rfl hq2 dX11_isAbove_78 ?_
    refine zb_aload_n X dX11_isAbove_79 rfl 1 rfl ?_
    refine zb_getR X 0 (by decide) 11 [3, 4, 5, 6, 7, 8, 9, 10, 11, 0, 12, 0, 0, 0, 0, 0, 0, 0, 0, 0, 0, 0, 0, 13, 14, 15, 16, 17, 0, 18, 19, 20, 21, 0, 0, 0, 22, 23, 24, 25, 0, 0, 26, 27, 28, 29, 0, 0, 0, 30, 0] rfl (C := RX11) (Tt := TX11) (N := 51) rfl kX11_isAbove_1 25 (by decide) 13 rfl kX11_isAbove_8 rfl dX11_isAbove_80 ?_
    refine zb_iload_n X dX11_isAbove_83 rfl 3 rfl ?_
    obtain ⟨hz, h⟩ := h
    refine zb_iald X 13 (by decide) 1 4608 0 0 rfl (Or.inl rfl) x2.toNatClampNeg rfl hz dX11_isAbove_84 (al 13 x2.toNatClampNeg) rfl ?_
    refine zb_aload_n X dX11_isAbove_85 rfl 1 rfl ?_
    refine zb_getR X 0 (by decide) 11 [3, 4, 5, 6, 7, 8, 9, 10, 11, 0, 12, 0, 0, 0, 0, 0, 0, 0, 0, 0, 0, 0, 0, 13, 14, 15, 16, 17, 0, 18, 19, 20, 21, 0, 0, 0, 22, 23, 24, 25, 0, 0, 26, 27, 28, 29, 0, 0, 0, 30, 0] rfl (C := RX11) (Tt := TX11) (N := 51) rfl kX11_isAbove_1 29 (by decide) 16 rfl kX11_isAbove_2 rfl dX11_isAbove_86 ?_
    refine zb_aload_n X dX11_isAbove_89 rfl 1 rfl ?_
    refine zb_getR X 0 (by decide) 11 [3, 4, 5, 6, 7, 8, 9, 10, 11, 0, 12, 0, 0, 0, 0, 0, 0, 0, 0, 0, 0, 0, 0, 13, 14, 15, 16, 17, 0, 18, 19, 20, 21, 0, 0, 0, 22, 23, 24, 25, 0, 0, 26, 27, 28, 29, 0, 0, 0, 30, 0] rfl (C := RX11) (Tt := TX11) (N := 51) rfl kX11_isAbove_1 24 (by decide) 12 rfl kX11_isAbove_7 rfl dX11_isAbove_90 ?_
    refine zb_iload_n X dX11_isAbove_93 rfl 3 rfl ?_
    obtain ⟨hz, h⟩ := h
    refine zb_iald X 12 (by decide) 1 4608 0 0 rfl (Or.inl rfl) x2.toNatClampNeg rfl hz dX11_isAbove_94 (al 12 x2.toNatClampNeg) rfl ?_
    refine zb_gald X 16 (by decide) 48 29 rfl ((al 12 x2.toNatClampNeg).toNatClampNeg) rfl hq2 dX11_isAbove_95 ?_
    refine zb_aload_n X dX11_isAbove_96 rfl 1 rfl ?_
    refine zb_getR X 0 (by decide) 11 [3, 4, 5, 6, 7, 8, 9, 10, 11, 0, 12, 0, 0, 0, 0, 0, 0, 0, 0, 0, 0, 0, 0, 13, 14, 15, 16, 17, 0, 18, 19, 20, 21, 0, 0, 0, 22, 23, 24, 25, 0, 0, 26, 27, 28, 29, 0, 0, 0, 30, 0] rfl (C := RX11) (Tt := TX11) (N := 51) rfl kX11_isAbove_1 25 (by decide) 13 rfl kX11_isAbove_8 rfl dX11_isAbove_97 ?_
    refine zb_iload_n X dX11_isAbove_100 rfl 3 rfl ?_
    obtain ⟨hz, h⟩ := h
    refine zb_iald X 13 (by decide) 1 4608 0 0 rfl (Or.inl rfl) x2.toNatClampNeg rfl hz dX11_isAbove_101 (al 13 x2.toNatClampNeg) rfl ?_
    obtain ⟨hz, h⟩ := h
    refine zb_iald X (29 + (al 12 x2.toNatClampNeg).toNatClampNeg) (zgr_lt29 hq2) 1 48 0 0 (zgr29 hq2) (Or.inl rfl) ((al 13 x2.toNatClampNeg).toNatClampNeg) rfl hz dX11_isAbove_102 (al (29 + (al 12 x2.toNatClampNeg).toNatClampNeg) ((al 13 x2.toNatClampNeg).toNatClampNeg)) rfl ?_
    refine zb_iload_n X dX11_isAbove_103 rfl 0 rfl ?_
    refine zb_mmax X kX11_isAbove_9 kX11_isAbove_10 kX11_isAbove_11 kX11_isAbove_12 ⟨⟨Nat.le_of_ble_eq_true rfl, Nat.le_of_ble_eq_true rfl⟩, Nat.le_of_ble_eq_true rfl, Nat.le_of_ble_eq_true rfl⟩ dX11_isAbove_104 ?_
    obtain ⟨hz, h⟩ := h
    refine zb_iast X (29 + (al 12 x2.toNatClampNeg).toNatClampNeg) (zgr_lt29 hq2) 1 48 0 0 (zgr29 hq2) (Or.inl rfl) ((al 13 x2.toNatClampNeg).toNatClampNeg) rfl hz dX11_isAbove_107 ?_
    refine zb_iinc X (lv' := [(2, .int (x2 + (1 : Int32))), (3, .int ((al 15 x2.toNatClampNeg) - ((al 14 x2.toNatClampNeg) * p1))), (0, .ref (ad 0)), (1, .int p1)]) (x2 + (1 : Int32)) dX11_isAbove_108 3 rfl rfl (by decide) rfl ?_
    refine zb_goto X 44 dX11_isAbove_111 (by decide) ?_
    refine zb_sub [2, 3, 0] rfl ?_
    exact hK44 (x2 + (1 : Int32)) (up2 al (29 + (al 12 x2.toNatClampNeg).toNatClampNeg) ((al 13 x2.toNatClampNeg).toNatClampNeg) (if (al (29 + (al 12 x2.toNatClampNeg).toNatClampNeg) ((al 13 x2.toNatClampNeg).toNatClampNeg)) < ((al 15 x2.toNatClampNeg) - ((al 14 x2.toNatClampNeg) * p1)) then ((al 15 x2.toNatClampNeg) - ((al 14 x2.toNatClampNeg) * p1)) else (al (29 + (al 12 x2.toNatClampNeg).toNatClampNeg) ((al 13 x2.toNatClampNeg).toNatClampNeg)))) h
set_option maxRecDepth 20000 in
theorem tX11_isAbove_116 {G : zG} {Z : zC}  {ad ln : Nat → Nat} (X : zX G Z cX11_isAbove 5 RX11 wsX11_isAbove) (p1 : Int32) {K2 : Int32 → (Nat → Nat → Int32) → Prop} {K12 : Int32 → Int32 → (Nat → Nat → Int32) → Prop} {K44 : Int32 → (Nat → Nat → Int32) → Prop} {K116 : Int32 → (Nat → Nat → Int32) → Prop} {K126 : Int32 → Int32 → (Nat → Nat → Int32) → Prop} {K153 : Int32 → Int32 → Int32 → (Nat → Nat → Int32) → Prop} {post : Int32 → (Nat → Nat → Int32) → Prop} (hR : zRi G Z rmX11_isAbove 5 zTR ad ln cX11_isAbove .boolean post) (hK2 : ∀ x2 : Int32, ∀ al, K2 x2 al → zB G Z rmX11_isAbove 5 zTR ad ln 0 0 2 [(0, .ref (ad 0)), (1, .int p1), (2, .int x2)] [] al) (hK12 : ∀ x2 x3 : Int32, ∀ al, K12 x2 x3 al → zB G Z rmX11_isAbove 5 zTR ad ln 0 0 12 [(0, .ref (ad 0)), (1, .int p1), (2, .int x2), (3, .int x3)] [] al) (hK44 : ∀ x2 : Int32, ∀ al, K44 x2 al → zB G Z rmX11_isAbove 5 zTR ad ln 0 0 44 [(0, .ref (ad 0)), (1, .int p1), (2, .int x2)] [] al) (hK116 : ∀ x2 : Int32, ∀ al, K116 x2 al → zB G Z rmX11_isAbove 5 zTR ad ln 0 0 116 [(0, .ref (ad 0)), (2, .int x2)] [] al) (hK126 : ∀ x2 x3 : Int32, ∀ al, K126 x2 x3 al → zB G Z rmX11_isAbove 5 zTR ad ln 0 0 126 [(0, .ref (ad 0)), (2, .int x2), (3, .int x3)] [] al) (hK153 : ∀ x2 x3 x4 : Int32, ∀ al, K153 x2 x3 x4 al → zB G Z rmX11_isAbove 5 zTR ad ln 0 0 153 [(0, .ref (ad 0)), (2, .int x2), (3, .int x3), (4, .int x4)] [] al) (x2 : Int32) (al : Nat → Nat → Int32) (h : vcX11_isAbove_116 G  ad ln p1 K2 K12 K44 K116 K126 K153 post x2 al) : zB G Z rmX11_isAbove 5 zTR ad ln 0 0 116 [(0, .ref (ad 0)), (2, .int x2)] [] al := by
  unfold vcX11_isAbove_116 at h
  refine zb_iload_n X dX11_isAbove_116 rfl 1 rfl ?_
  refine zb_aload_n X dX11_isAbove_117 rfl 0 rfl ?_
  refine zb_getI X 0 (by decide) 11 [3, 4, 5, 6, 7, 8, 9, 10, 11, 0, 12, 0, 0, 0, 0, 0, 0, 0, 0, 0, 0, 0, 0, 13, 14, 15, 16, 17, 0, 18, 19, 20, 21, 0, 0, 0, 22, 23, 24, 25, 0, 0, 26, 27, 28, 29, 0, 0, 0, 30, 0] rfl (C := RX11) (Tt := TX11) (N := 51) rfl kX11_isAbove_1 9 (by decide) rfl kX11_isAbove_0 rfl dX11_isAbove_118 (al 0 9) rfl ?_
  refine zb_icmp_ge X 246 dX11_isAbove_121 (by decide) (fun c1 => ?_) (fun c1 => ?_)
  · have h := h.1 c1
    refine zb_iconst X (0 : Int32) dX11_isAbove_246 (by decide) ?_
    exact hR 247 _ _ _ dX11_isAbove_247 rfl h
  · have h := h.2 c1
    refine zb_iconst X (0 : Int32) dX11_isAbove_124 (by decide) ?_
    refine zb_istore_n X (lv' := [(3, .int (0 : Int32)), (0, .ref (ad 0)), (2, .int x2)]) dX11_isAbove_125 rfl (by decide) rfl ?_
    refine zb_sub [1, 2, 0] rfl ?_
    exact hK126 x2 (0 : Int32) al h
set_option maxRecDepth 20000 in
theorem tX11_isAbove_234 {G : zG} {Z : zC}  {ad ln : Nat → Nat} (X : zX G Z cX11_isAbove 5 RX11 wsX11_isAbove) (p1 : Int32) {K2 : Int32 → (Nat → Nat → Int32) → Prop} {K12 : Int32 → Int32 → (Nat → Nat → Int32) → Prop} {K44 : Int32 → (Nat → Nat → Int32) → Prop} {K116 : Int32 → (Nat → Nat → Int32) → Prop} {K126 : Int32 → Int32 → (Nat → Nat → Int32) → Prop} {K153 : Int32 → Int32 → Int32 → (Nat → Nat → Int32) → Prop} {post : Int32 → (Nat → Nat → Int32) → Prop} (hR : zRi G Z rmX11_isAbove 5 zTR ad ln cX11_isAbove .boolean post) (hK2 : ∀ x2 : Int32, ∀ al, K2 x2 al → zB G Z rmX11_isAbove 5 zTR ad ln 0 0 2 [(0, .ref (ad 0)), (1, .int p1), (2, .int x2)] [] al) (hK12 : ∀ x2 x3 : Int32, ∀ al, K12 x2 x3 al → zB G Z rmX11_isAbove 5 zTR ad ln 0 0 12 [(0, .ref (ad 0)), (1, .int p1), (2, .int x2), (3, .int x3)] [] al) (hK44 : ∀ x2 : Int32, ∀ al, K44 x2 al → zB G Z rmX11_isAbove 5 zTR ad ln 0 0 44 [(0, .ref (ad 0)), (1, .int p1), (2, .int x2)] [] al) (hK116 : ∀ x2 : Int32, ∀ al, K116 x2 al → zB G Z rmX11_isAbove 5 zTR ad ln 0 0 116 [(0, .ref (ad 0)), (2, .int x2)] [] al) (hK126 : ∀ x2 x3 : Int32, ∀ al, K126 x2 x3 al → zB G Z rmX11_isAbove 5 zTR ad ln 0 0 126 [(0, .ref (ad 0)), (2, .int x2), (3, .int x3)] [] al) (hK153 : ∀ x2 x3 x4 : Int32, ∀ al, K153 x2 x3 x4 al → zB G Z rmX11_isAbove 5 zTR ad ln 0 0 153 [(0, .ref (ad 0)), (2, .int x2), (3, .int x3), (4, .int x4)] [] al) (x2 x3 : Int32) (al : Nat → Nat → Int32) (h : vcX11_isAbove_234 G  ad ln p1 K2 K12 K44 K116 K126 K153 post x2 x3 al) : zB G Z rmX11_isAbove 5 zTR ad ln 0 0 234 [(0, .ref (ad 0)), (2, .int x2), (3, .int x3)] [] al := by
  unfold vcX11_isAbove_234 at h
  refine zb_iinc X (lv' := [(3, .int (x3 + (1 : Int32))), (0, .ref (ad 0)), (2, .int x2)]) (x3 + (1 : Int32)) dX11_isAbove_234 2 rfl rfl (by decide) rfl ?_
  refine zb_goto X 126 dX11_isAbove_237 (by decide) ?_
  refine zb_sub [1, 2, 0] rfl ?_
  exact hK126 x2 (x3 + (1 : Int32)) al h
set_option maxRecDepth 20000 in
theorem tX11_isAbove_126 {G : zG} {Z : zC}  {ad ln : Nat → Nat} (X : zX G Z cX11_isAbove 5 RX11 wsX11_isAbove) (p1 : Int32) {K2 : Int32 → (Nat → Nat → Int32) → Prop} {K12 : Int32 → Int32 → (Nat → Nat → Int32) → Prop} {K44 : Int32 → (Nat → Nat → Int32) → Prop} {K116 : Int32 → (Nat → Nat → Int32) → Prop} {K126 : Int32 → Int32 → (Nat → Nat → Int32) → Prop} {K153 : Int32 → Int32 → Int32 → (Nat → Nat → Int32) → Prop} {post : Int32 → (Nat → Nat → Int32) → Prop} (hR : zRi G Z rmX11_isAbove 5 zTR ad ln cX11_isAbove .boolean post) (hK2 : ∀ x2 : Int32, ∀ al, K2 x2 al → zB G Z rmX11_isAbove 5 zTR ad ln 0 0 2 [(0, .ref (ad 0)), (1, .int p1), (2, .int x2)] [] al) (hK12 : ∀ x2 x3 : Int32, ∀ al, K12 x2 x3 al → zB G Z rmX11_isAbove 5 zTR ad ln 0 0 12 [(0, .ref (ad 0)), (1, .int p1), (2, .int x2), (3, .int x3)] [] al) (hK44 : ∀ x2 : Int32, ∀ al, K44 x2 al → zB G Z rmX11_isAbove 5 zTR ad ln 0 0 44 [(0, .ref (ad 0)), (1, .int p1), (2, .int x2)] [] al) (hK116 : ∀ x2 : Int32, ∀ al, K116 x2 al → zB G Z rmX11_isAbove 5 zTR ad ln 0 0 116 [(0, .ref (ad 0)), (2, .int x2)] [] al) (hK126 : ∀ x2 x3 : Int32, ∀ al, K126 x2 x3 al → zB G Z rmX11_isAbove 5 zTR ad ln 0 0 126 [(0, .ref (ad 0)), (2, .int x2), (3, .int x3)] [] al) (hK153 : ∀ x2 x3 x4 : Int32, ∀ al, K153 x2 x3 x4 al → zB G Z rmX11_isAbove 5 zTR ad ln 0 0 153 [(0, .ref (ad 0)), (2, .int x2), (3, .int x3), (4, .int x4)] [] al) (x2 x3 : Int32) (al : Nat → Nat → Int32) (h : vcX11_isAbove_126 G  ad ln p1 K2 K12 K44 K116 K126 K153 post x2 x3 al) : zB G Z rmX11_isAbove 5 zTR ad ln 0 0 126 [(0, .ref (ad 0)), (2, .int x2), (3, .int x3)] [] al := by
  unfold vcX11_isAbove_126 at h
  refine zb_iload_n X dX11_isAbove_126 rfl 2 rfl ?_
  refine zb_aload_n X dX11_isAbove_127 rfl 0 rfl ?_
  refine zb_getI X 0 (by decide) 11 [3, 4, 5, 6, 7, 8, 9, 10, 11, 0, 12, 0, 0, 0, 0, 0, 0, 0, 0, 0, 0, 0, 0, 13, 14, 15, 16, 17, 0, 18, 19, 20, 21, 0, 0, 0, 22, 23, 24, 25, 0, 0, 26, 27, 28, 29, 0, 0, 0, 30, 0] rfl (C := RX11) (Tt := TX11) (N := 51) rfl kX11_isAbove_1 9 (by decide) rfl kX11_isAbove_0 rfl dX11_isAbove_128 (al 0 9) rfl ?_
  refine zb_icmp_ge X 240 dX11_isAbove_131 (by decide) (fun c1 => ?_) (fun c1 => ?_)
  · have h := h.1 c1
    refine zb_iinc X (lv' := [(2, .int (x2 + (1 : Int32))), (0, .ref (ad 0)), (3, .int x3)]) (x2 + (1 : Int32)) dX11_isAbove_240 1 rfl rfl (by decide) rfl ?_
    refine zb_goto X 116 dX11_isAbove_243 (by decide) ?_
    refine zb_sub [1, 0] rfl ?_
    exact hK116 (x2 + (1 : Int32)) al h
  · have h := h.2 c1
    refine zb_aload_n X dX11_isAbove_134 rfl 0 rfl ?_
    refine zb_getR X 0 (by decide) 11 [3, 4, 5, 6, 7, 8, 9, 10, 11, 0, 12, 0, 0, 0, 0, 0, 0, 0, 0, 0, 0, 0, 0, 13, 14, 15, 16, 17, 0, 18, 19, 20, 21, 0, 0, 0, 22, 23, 24, 25, 0, 0, 26, 27, 28, 29, 0, 0, 0, 30, 0] rfl (C := RX11) (Tt := TX11) (N := 51) rfl kX11_isAbove_1 29 (by decide) 16 rfl kX11_isAbove_2 rfl dX11_isAbove_135 ?_
    refine zb_iload_n X dX11_isAbove_138 rfl 2 rfl ?_
    obtain ⟨hq2, h⟩ := h
    refine zb_gald X 16 (by decide) 48 29 rfl x3.toNatClampNeg rfl hq2 dX11_isAbove_139 ?_
    refine zb_iload_n X dX11_isAbove_140 rfl 1 rfl ?_
    obtain ⟨hz, h⟩ := h
    refine zb_iald X (29 + x3.toNatClampNeg) (zgr_lt29 hq2) 1 48 0 0 (zgr29 hq2) (Or.inl rfl) x2.toNatClampNeg rfl hz dX11_isAbove_141 (al (29 + x3.toNatClampNeg) x2.toNatClampNeg) rfl ?_
    refine zb_ldc X (-536870912 : Int32) kX11_isAbove_3 dX11_isAbove_142 ?_
    refine zb_icmp_ne X 150 dX11_isAbove_144 (by decide) (fun c3 => ?_) (fun c3 => ?_)
    · have h := h.1 c3
      refine zb_iconst X (0 : Int32) dX11_isAbove_150 (by decide) ?_
      refine zb_istore X (lv' := [(4, .int (0 : Int32)), (0, .ref (ad 0)), (2, .int x2), (3, .int x3)]) dX11_isAbove_151 (by decide) rfl ?_
      refine zb_sub [1, 2, 3, 0] rfl ?_
      exact hK153 x2 x3 (0 : Int32) al h
    · have h := h.2 c3
      refine zb_goto X 234 dX11_isAbove_147 (by decide) ?_
      refine zb_sub [0, 1, 2] rfl ?_
      exact tX11_isAbove_234 X p1 hR hK2 hK12 hK44 hK116 hK126 hK153 x2 x3 al h
set_option maxRecDepth 20000 in
theorem tX11_isAbove_215 {G : zG} {Z : zC}  {ad ln : Nat → Nat} (X : zX G Z cX11_isAbove 5 RX11 wsX11_isAbove) (p1 : Int32) {K2 : Int32 → (Nat → Nat → Int32) → Prop} {K12 : Int32 → Int32 → (Nat → Nat → Int32) → Prop} {K44 : Int32 → (Nat → Nat → Int32) → Prop} {K116 : Int32 → (Nat → Nat → Int32) → Prop} {K126 : Int32 → Int32 → (Nat → Nat → Int32) → Prop} {K153 : Int32 → Int32 → Int32 → (Nat → Nat → Int32) → Prop} {post : Int32 → (Nat → Nat → Int32) → Prop} (hR : zRi G Z rmX11_isAbove 5 zTR ad ln cX11_isAbove .boolean post) (hK2 : ∀ x2 : Int32, ∀ al, K2 x2 al → zB G Z rmX11_isAbove 5 zTR ad ln 0 0 2 [(0, .ref (ad 0)), (1, .int p1), (2, .int x2)] [] al) (hK12 : ∀ x2 x3 : Int32, ∀ al, K12 x2 x3 al → zB G Z rmX11_isAbove 5 zTR ad ln 0 0 12 [(0, .ref (ad 0)), (1, .int p1), (2, .int x2), (3, .int x3)] [] al) (hK44 : ∀ x2 : Int32, ∀ al, K44 x2 al → zB G Z rmX11_isAbove 5 zTR ad ln 0 0 44 [(0, .ref (ad 0)), (1, .int p1), (2, .int x2)] [] al) (hK116 : ∀ x2 : Int32, ∀ al, K116 x2 al → zB G Z rmX11_isAbove 5 zTR ad ln 0 0 116 [(0, .ref (ad 0)), (2, .int x2)] [] al) (hK126 : ∀ x2 x3 : Int32, ∀ al, K126 x2 x3 al → zB G Z rmX11_isAbove 5 zTR ad ln 0 0 126 [(0, .ref (ad 0)), (2, .int x2), (3, .int x3)] [] al) (hK153 : ∀ x2 x3 x4 : Int32, ∀ al, K153 x2 x3 x4 al → zB G Z rmX11_isAbove 5 zTR ad ln 0 0 153 [(0, .ref (ad 0)), (2, .int x2), (3, .int x3), (4, .int x4)] [] al) (x2 x3 x4 : Int32) (al : Nat → Nat → Int32) (h : vcX11_isAbove_215 G  ad ln p1 K2 K12 K44 K116 K126 K153 post x2 x3 x4 al) : zB G Z rmX11_isAbove 5 zTR ad ln 0 0 215 [(0, .ref (ad 0)), (2, .int x2), (3, .int x3), (4, .int x4)] [] al := by
  unfold vcX11_isAbove_215 at h
  refine zb_iinc X (lv' := [(4, .int (x4 + (1 : Int32))), (0, .ref (ad 0)), (2, .int x2), (3, .int x3)]) (x4 + (1 : Int32)) dX11_isAbove_215 3 rfl rfl (by decide) rfl ?_
  refine zb_goto X 153 dX11_isAbove_218 (by decide) ?_
  refine zb_sub [1, 2, 3, 0] rfl ?_
  exact hK153 x2 x3 (x4 + (1 : Int32)) al h
set_option maxRecDepth 20000 in
theorem tX11_isAbove_153 {G : zG} {Z : zC}  {ad ln : Nat → Nat} (X : zX G Z cX11_isAbove 5 RX11 wsX11_isAbove) (p1 : Int32) {K2 : Int32 → (Nat → Nat → Int32) → Prop} {K12 : Int32 → Int32 → (Nat → Nat → Int32) → Prop} {K44 : Int32 → (Nat → Nat → Int32) → Prop} {K116 : Int32 → (Nat → Nat → Int32) → Prop} {K126 : Int32 → Int32 → (Nat → Nat → Int32) → Prop} {K153 : Int32 → Int32 → Int32 → (Nat → Nat → Int32) → Prop} {post : Int32 → (Nat → Nat → Int32) → Prop} (hR : zRi G Z rmX11_isAbove 5 zTR ad ln cX11_isAbove .boolean post) (hK2 : ∀ x2 : Int32, ∀ al, K2 x2 al → zB G Z rmX11_isAbove 5 zTR ad ln 0 0 2 [(0, .ref (ad 0)), (1, .int p1), (2, .int x2)] [] al) (hK12 : ∀ x2 x3 : Int32, ∀ al, K12 x2 x3 al → zB G Z rmX11_isAbove 5 zTR ad ln 0 0 12 [(0, .ref (ad 0)), (1, .int p1), (2, .int x2), (3, .int x3)] [] al) (hK44 : ∀ x2 : Int32, ∀ al, K44 x2 al → zB G Z rmX11_isAbove 5 zTR ad ln 0 0 44 [(0, .ref (ad 0)), (1, .int p1), (2, .int x2)] [] al) (hK116 : ∀ x2 : Int32, ∀ al, K116 x2 al → zB G Z rmX11_isAbove 5 zTR ad ln 0 0 116 [(0, .ref (ad 0)), (2, .int x2)] [] al) (hK126 : ∀ x2 x3 : Int32, ∀ al, K126 x2 x3 al → zB G Z rmX11_isAbove 5 zTR ad ln 0 0 126 [(0, .ref (ad 0)), (2, .int x2), (3, .int x3)] [] al) (hK153 : ∀ x2 x3 x4 : Int32, ∀ al, K153 x2 x3 x4 al → zB G Z rmX11_isAbove 5 zTR ad ln 0 0 153 [(0, .ref (ad 0)), (2, .int x2), (3, .int x3), (4, .int x4)] [] al) (x2 x3 x4 : Int32) (al : Nat → Nat → Int32) (h : vcX11_isAbove_153 G  ad ln p1 K2 K12 K44 K116 K126 K153 post x2 x3 x4 al) : zB G Z rmX11_isAbove 5 zTR ad ln 0 0 153 [(0, .ref (ad 0)), (2, .int x2), (3, .int x3), (4, .int x4)] [] al := by
  unfold vcX11_isAbove_153 at h
  refine zb_iload X dX11_isAbove_153 3 rfl ?_
  refine zb_aload_n X dX11_isAbove_155 rfl 0 rfl ?_
  refine zb_getI X 0 (by decide) 11 [3, 4, 5, 6, 7, 8, 9, 10, 11, 0, 12, 0, 0, 0, 0, 0, 0, 0, 0, 0, 0, 0, 0, 13, 14, 15, 16, 17, 0, 18, 19, 20, 21, 0, 0, 0, 22, 23, 24, 25, 0, 0, 26, 27, 28, 29, 0, 0, 0, 30, 0] rfl (C := RX11) (Tt := TX11) (N := 51) rfl kX11_isAbove_1 9 (by decide) rfl kX11_isAbove_0 rfl dX11_isAbove_156 (al 0 9) rfl ?_
  refine zb_icmp_ge X 221 dX11_isAbove_159 (by decide) (fun c1 => ?_) (fun c1 => ?_)
  · have h := h.1 c1
    refine zb_aload_n X dX11_isAbove_221 rfl 0 rfl ?_
    refine zb_getR X 0 (by decide) 11 [3, 4, 5, 6, 7, 8, 9, 10, 11, 0, 12, 0, 0, 0, 0, 0, 0, 0, 0, 0, 0, 0, 0, 13, 14, 15, 16, 17, 0, 18, 19, 20, 21, 0, 0, 0, 22, 23, 24, 25, 0, 0, 26, 27, 28, 29, 0, 0, 0, 30, 0] rfl (C := RX11) (Tt := TX11) (N := 51) rfl kX11_isAbove_1 29 (by decide) 16 rfl kX11_isAbove_2 rfl dX11_isAbove_222 ?_
    refine zb_iload_n X dX11_isAbove_225 rfl 2 rfl ?_
    obtain ⟨hq2, h⟩ := h
    refine zb_gald X 16 (by decide) 48 29 rfl x3.toNatClampNeg rfl hq2 dX11_isAbove_226 ?_
    refine zb_iload_n X dX11_isAbove_227 rfl 2 rfl ?_
    obtain ⟨hz, h⟩ := h
    refine zb_iald X (29 + x3.toNatClampNeg) (zgr_lt29 hq2) 1 48 0 0 (zgr29 hq2) (Or.inl rfl) x3.toNatClampNeg rfl hz dX11_isAbove_228 (al (29 + x3.toNatClampNeg) x3.toNatClampNeg) rfl ?_
    refine zb_if_le X 234 dX11_isAbove_229 (by decide) (fun c3 => ?_) (fun c3 => ?_)
    · have h := h.1 c3
      refine zb_sub [0, 1, 2] rfl ?_
      exact tX11_isAbove_234 X p1 hR hK2 hK12 hK44 hK116 hK126 hK153 x2 x3 al h
    · have h := h.2 c3
      refine zb_iconst X (1 : Int32) dX11_isAbove_232 (by decide) ?_
      exact hR 233 _ _ _ dX11_isAbove_233 rfl h
  · have h := h.2 c1
    refine zb_aload_n X dX11_isAbove_162 rfl 0 rfl ?_
    refine zb_getR X 0 (by decide) 11 [3, 4, 5, 6, 7, 8, 9, 10, 11, 0, 12, 0, 0, 0, 0, 0, 0, 0, 0, 0, 0, 0, 0, 13, 14, 15, 16, 17, 0, 18, 19, 20, 21, 0, 0, 0, 22, 23, 24, 25, 0, 0, 26, 27, 28, 29, 0, 0, 0, 30, 0] rfl (C := RX11) (Tt := TX11) (N := 51) rfl kX11_isAbove_1 29 (by decide) 16 rfl kX11_isAbove_2 rfl dX11_isAbove_163 ?_
    refine zb_iload_n X dX11_isAbove_166 rfl 1 rfl ?_
    obtain ⟨hq2, h⟩ := h
    refine zb_gald X 16 (by decide) 48 29 rfl x2.toNatClampNeg rfl hq2 dX11_isAbove_167 ?_
    refine zb_iload X dX11_isAbove_168 3 rfl ?_
    obtain ⟨hz, h⟩ := h
    refine zb_iald X (29 + x2.toNatClampNeg) (zgr_lt29 hq2) 1 48 0 0 (zgr29 hq2) (Or.inl rfl) x4.toNatClampNeg rfl hz dX11_isAbove_170 (al (29 + x2.toNatClampNeg) x4.toNatClampNeg) rfl ?_
    refine zb_ldc X (-536870912 : Int32) kX11_isAbove_3 dX11_isAbove_171 ?_
    refine zb_icmp_le X 215 dX11_isAbove_173 (by decide) (fun c3 => ?_) (fun c3 => ?_)
    · have h := h.1 c3
      refine zb_sub [0, 1, 2, 3] rfl ?_
      exact tX11_isAbove_215 X p1 hR hK2 hK12 hK44 hK116 hK126 hK153 x2 x3 x4 al h
    · have h := h.2 c3
      refine zb_aload_n X dX11_isAbove_176 rfl 0 rfl ?_
      refine zb_getR X 0 (by decide) 11 [3, 4, 5, 6, 7, 8, 9, 10, 11, 0, 12, 0, 0, 0, 0, 0, 0, 0, 0, 0, 0, 0, 0, 13, 14, 15, 16, 17, 0, 18, 19, 20, 21, 0, 0, 0, 22, 23, 24, 25, 0, 0, 26, 27, 28, 29, 0, 0, 0, 30, 0] rfl (C := RX11) (Tt := TX11) (N := 51) rfl kX11_isAbove_1 29 (by decide) 16 rfl kX11_isAbove_2 rfl dX11_isAbove_177 ?_
      refine zb_iload_n X dX11_isAbove_180 rfl 2 rfl ?_
      obtain ⟨hq4, h⟩ := h
      refine zb_gald X 16 (by decide) 48 29 rfl x3.toNatClampNeg rfl hq4 dX11_isAbove_181 ?_
      refine zb_iload X dX11_isAbove_182 3 rfl ?_
      refine zb_aload_n X dX11_isAbove_184 rfl 0 rfl ?_
      refine zb_getR X 0 (by decide) 11 [3, 4, 5, 6, 7, 8, 9, 10, 11, 0, 12, 0, 0, 0, 0, 0, 0, 0, 0, 0, 0, 0, 0, 13, 14, 15, 16, 17, 0, 18, 19, 20, 21, 0, 0, 0, 22, 23, 24, 25, 0, 0, 26, 27, 28, 29, 0, 0, 0, 30, 0] rfl (C := RX11) (Tt := TX11) (N := 51) rfl kX11_isAbove_1 29 (by decide) 16 rfl kX11_isAbove_2 rfl dX11_isAbove_185 ?_
      refine zb_iload_n X dX11_isAbove_188 rfl 2 rfl ?_
      refine zb_gald X 16 (by decide) 48 29 rfl x3.toNatClampNeg rfl hq4 dX11_isAbove_189 ?_
      refine zb_iload X dX11_isAbove_190 3 rfl ?_
      obtain ⟨hz, h⟩ := h
      refine zb_iald X (29 + x3.toNatClampNeg) (zgr_lt29 hq4) 1 48 0 0 (zgr29 hq4) (Or.inl rfl) x4.toNatClampNeg rfl hz dX11_isAbove_192 (al (29 + x3.toNatClampNeg) x4.toNatClampNeg) rfl ?_
      refine zb_aload_n X dX11_isAbove_193 rfl 0 rfl ?_
      refine zb_getR X 0 (by decide) 11 [3, 4, 5, 6, 7, 8, 9, 10, 11, 0, 12, 0, 0, 0, 0, 0, 0, 0, 0, 0, 0, 0, 0, 13, 14, 15, 16, 17, 0, 18, 19, 20, 21, 0, 0, 0, 22, 23, 24, 25, 0, 0, 26, 27, 28, 29, 0, 0, 0, 30, 0] rfl (C := RX11) (Tt := TX11) (N := 51) rfl kX11_isAbove_1 29 (by decide) 16 rfl kX11_isAbove_2 rfl dX11_isAbove_194 ?_
      refine zb_iload_n X dX11_isAbove_197 rfl 2 rfl ?_
      refine zb_gald X 16 (by decide) 48 29 rfl x3.toNatClampNeg rfl hq4 dX11_isAbove_198 ?_
      refine zb_iload_n X dX11_isAbove_199 rfl 1 rfl ?_
      obtain ⟨hz, h⟩ := h
      refine zb_iald X (29 + x3.toNatClampNeg) (zgr_lt29 hq4) 1 48 0 0 (zgr29 hq4) (Or.inl rfl) x2.toNatClampNeg rfl hz dX11_isAbove_200 (al (29 + x3.toNatClampNeg) x2.toNatClampNeg) rfl ?_
      refine zb_aload_n X dX11_isAbove_201 rfl 0 rfl ?_
      refine zb_getR X 0 (by decide) 11 [3, 4, 5, 6, 7, 8, 9, 10, 11, 0, 12, 0, 0, 0, 0, 0, 0, 0, 0, 0, 0, 0, 0, 13, 14, 15, 16, 17, 0, 18, 19, 20, 21, 0, 0, 0, 22, 23, 24, 25, 0, 0, 26, 27, 28, 29, 0, 0, 0, 30, 0] rfl (C := RX11) (Tt := TX11) (N := 51) rfl kX11_isAbove_1 29 (by decide) 16 rfl kX11_isAbove_2 rfl dX11_isAbove_202 ?_
      refine zb_iload_n X dX11_isAbove_205 rfl 1 rfl ?_
      refine zb_gald X 16 (by decide) 48 29 rfl x2.toNatClampNeg rfl hq2 dX11_isAbove_206 ?_
      refine zb_iload X dX11_isAbove_207 3 rfl ?_
      obtain ⟨hz, h⟩ := h
      refine zb_iald X (29 + x2.toNatClampNeg) (zgr_lt29 hq2) 1 48 0 0 (zgr29 hq2) (Or.inl rfl) x4.toNatClampNeg rfl hz dX11_isAbove_209 (al (29 + x2.toNatClampNeg) x4.toNatClampNeg) rfl ?_
      refine zb_iadd X dX11_isAbove_210 ?_
      refine zb_mmax X kX11_isAbove_9 kX11_isAbove_10 kX11_isAbove_11 kX11_isAbove_12 ⟨⟨Nat.le_of_ble_eq_true rfl, Nat.le_of_ble_eq_true rfl⟩, Nat.le_of_ble_eq_true rfl, Nat.le_of_ble_eq_true rfl⟩ dX11_isAbove_211 ?_
      obtain ⟨hz, h⟩ := h
      refine zb_iast X (29 + x3.toNatClampNeg) (zgr_lt29 hq4) 1 48 0 0 (zgr29 hq4) (Or.inl rfl) x4.toNatClampNeg rfl hz dX11_isAbove_214 ?_
      refine zb_sub [0, 1, 2, 3] rfl ?_
      exact tX11_isAbove_215 X p1 hR hK2 hK12 hK44 hK116 hK126 hK153 x2 x3 x4 (up2 al (29 + x3.toNatClampNeg) x4.toNatClampNeg (if (al (29 + x3.toNatClampNeg) x4.toNatClampNeg) < ((al (29 + x3.toNatClampNeg) x2.toNatClampNeg) + (al (29 + x2.toNatClampNeg) x4.toNatClampNeg)) then ((al (29 + x3.toNatClampNeg) x2.toNatClampNeg) + (al (29 + x2.toNatClampNeg) x4.toNatClampNeg)) else (al (29 + x3.toNatClampNeg) x4.toNatClampNeg))) h
theorem uX11_isAbove_0 {G : zG} {Z : zC}  {ad ln : Nat → Nat} (X : zX G Z cX11_isAbove 5 RX11 wsX11_isAbove) (p1 : Int32) {post : Int32 → (Nat → Nat → Int32) → Prop} (hR : zRi G Z rmX11_isAbove 5 zTR ad ln cX11_isAbove .boolean post) (al : Nat → Nat → Int32) (h : vcX11_isAbove_0 G  ad ln p1 (BX11_isAbove_2 G Z  ad ln p1) (BX11_isAbove_12 G Z  ad ln p1) (BX11_isAbove_44 G Z  ad ln p1) (BX11_isAbove_116 G Z  ad ln p1) (BX11_isAbove_126 G Z  ad ln p1) (BX11_isAbove_153 G Z  ad ln p1) post  al) : zB G Z rmX11_isAbove 5 zTR ad ln 0 0 0 [(0, .ref (ad 0)), (1, .int p1)] [] al := tX11_isAbove_0 X p1 hR (fun _ _ h => h) (fun _ _ _ h => h) (fun _ _ h => h) (fun _ _ h => h) (fun _ _ _ h => h) (fun _ _ _ _ h => h)  al h
theorem uX11_isAbove_2 {G : zG} {Z : zC}  {ad ln : Nat → Nat} (X : zX G Z cX11_isAbove 5 RX11 wsX11_isAbove) (p1 : Int32) {post : Int32 → (Nat → Nat → Int32) → Prop} (hR : zRi G Z rmX11_isAbove 5 zTR ad ln cX11_isAbove .boolean post) (x2 : Int32) (al : Nat → Nat → Int32) (h : vcX11_isAbove_2 G  ad ln p1 (BX11_isAbove_2 G Z  ad ln p1) (BX11_isAbove_12 G Z  ad ln p1) (BX11_isAbove_44 G Z  ad ln p1) (BX11_isAbove_116 G Z  ad ln p1) (BX11_isAbove_126 G Z  ad ln p1) (BX11_isAbove_153 G Z  ad ln p1) post x2 al) : zB G Z rmX11_isAbove 5 zTR ad ln 0 0 2 [(0, .ref (ad 0)), (1, .int p1), (2, .int x2)] [] al := tX11_isAbove_2 X p1 hR (fun _ _ h => h) (fun _ _ _ h => h) (fun _ _ h => h) (fun _ _ h => h) (fun _ _ _ h => h) (fun _ _ _ _ h => h) x2 al h
theorem uX11_isAbove_12 {G : zG} {Z : zC}  {ad ln : Nat → Nat} (X : zX G Z cX11_isAbove 5 RX11 wsX11_isAbove) (p1 : Int32) {post : Int32 → (Nat → Nat → Int32) → Prop} (hR : zRi G Z rmX11_isAbove 5 zTR ad ln cX11_isAbove .boolean post) (x2 x3 : Int32) (al : Nat → Nat → Int32) (h : vcX11_isAbove_12 G  ad ln p1 (BX11_isAbove_2 G Z  ad ln p1) (BX11_isAbove_12 G Z  ad ln p1) (BX11_isAbove_44 G Z  ad ln p1) (BX11_isAbove_116 G Z  ad ln p1) (BX11_isAbove_126 G Z  ad ln p1) (BX11_isAbove_153 G Z  ad ln p1) post x2 x3 al) : zB G Z rmX11_isAbove 5 zTR ad ln 0 0 12 [(0, .ref (ad 0)), (1, .int p1), (2, .int x2), (3, .int x3)] [] al := tX11_isAbove_12 X p1 hR (fun _ _ h => h) (fun _ _ _ h => h) (fun _ _ h => h) (fun _ _ h => h) (fun _ _ _ h => h) (fun _ _ _ _ h => h) x2 x3 al h
theorem uX11_isAbove_44 {G : zG} {Z : zC}  {ad ln : Nat → Nat} (X : zX G Z cX11_isAbove 5 RX11 wsX11_isAbove) (p1 : Int32) {post : Int32 → (Nat → Nat → Int32) → Prop} (hR : zRi G Z rmX11_isAbove 5 zTR ad ln cX11_isAbove .boolean post) (x2 : Int32) (al : Nat → Nat → Int32) (h : vcX11_isAbove_44 G  ad ln p1 (BX11_isAbove_2 G Z  ad ln p1) (BX11_isAbove_12 G Z  ad ln p1) (BX11_isAbove_44 G Z  ad ln p1) (BX11_isAbove_116 G Z  ad ln p1) (BX11_isAbove_126 G Z  ad ln p1) (BX11_isAbove_153 G Z  ad ln p1) post x2 al) : zB G Z rmX11_isAbove 5 zTR ad ln 0 0 44 [(0, .ref (ad 0)), (1, .int p1), (2, .int x2)] [] al := tX11_isAbove_44 X p1 hR (fun _ _ h => h) (fun _ _ _ h => h) (fun _ _ h => h) (fun _ _ h => h) (fun _ _ _ h => h) (fun _ _ _ _ h => h) x2 al h
theorem uX11_isAbove_116 {G : zG} {Z : zC}  {ad ln : Nat → Nat} (X : zX G Z cX11_isAbove 5 RX11 wsX11_isAbove) (p1 : Int32) {post : Int32 → (Nat → Nat → Int32) → Prop} (hR : zRi G Z rmX11_isAbove 5 zTR ad ln cX11_isAbove .boolean post) (x2 : Int32) (al : Nat → Nat → Int32) (h : vcX11_isAbove_116 G  ad ln p1 (BX11_isAbove_2 G Z  ad ln p1) (BX11_isAbove_12 G Z  ad ln p1) (BX11_isAbove_44 G Z  ad ln p1) (BX11_isAbove_116 G Z  ad ln p1) (BX11_isAbove_126 G Z  ad ln p1) (BX11_isAbove_153 G Z  ad ln p1) post x2 al) : zB G Z rmX11_isAbove 5 zTR ad ln 0 0 116 [(0, .ref (ad 0)), (2, .int x2)] [] al := tX11_isAbove_116 X p1 hR (fun _ _ h => h) (fun _ _ _ h => h) (fun _ _ h => h) (fun _ _ h => h) (fun _ _ _ h => h) (fun _ _ _ _ h => h) x2 al h
theorem uX11_isAbove_234 {G : zG} {Z : zC}  {ad ln : Nat → Nat} (X : zX G Z cX11_isAbove 5 RX11 wsX11_isAbove) (p1 : Int32) {post : Int32 → (Nat → Nat → Int32) → Prop} (hR : zRi G Z rmX11_isAbove 5 zTR ad ln cX11_isAbove .boolean post) (x2 x3 : Int32) (al : Nat → Nat → Int32) (h : vcX11_isAbove_234 G  ad ln p1 (BX11_isAbove_2 G Z  ad ln p1) (BX11_isAbove_12 G Z  ad ln p1) (BX11_isAbove_44 G Z  ad ln p1) (BX11_isAbove_116 G Z  ad ln p1) (BX11_isAbove_126 G Z  ad ln p1) (BX11_isAbove_153 G Z  ad ln p1) post x2 x3 al) : zB G Z rmX11_isAbove 5 zTR ad ln 0 0 234 [(0, .ref (ad 0)), (2, .int x2), (3, .int x3)] [] al := tX11_isAbove_234 X p1 hR (fun _ _ h => h) (fun _ _ _ h => h) (fun _ _ h => h) (fun _ _ h => h) (fun _ _ _ h => h) (fun _ _ _ _ h => h) x2 x3 al h
theorem uX11_isAbove_126 {G : zG} {Z : zC}  {ad ln : Nat → Nat} (X : zX G Z cX11_isAbove 5 RX11 wsX11_isAbove) (p1 : Int32) {post : Int32 → (Nat → Nat → Int32) → Prop} (hR : zRi G Z rmX11_isAbove 5 zTR ad ln cX11_isAbove .boolean post) (x2 x3 : Int32) (al : Nat → Nat → Int32) (h : vcX11_isAbove_126 G  ad ln p1 (BX11_isAbove_2 G Z  ad ln p1) (BX11_isAbove_12 G Z  ad ln p1) (BX11_isAbove_44 G Z  ad ln p1) (BX11_isAbove_116 G Z  ad ln p1) (BX11_isAbove_126 G Z  ad ln p1) (BX11_isAbove_153 G Z  ad ln p1) post x2 x3 al) : zB G Z rmX11_isAbove 5 zTR ad ln 0 0 126 [(0, .ref (ad 0)), (2, .int x2), (3, .int x3)] [] al := tX11_isAbove_126 X p1 hR (fun _ _ h => h) (fun _ _ _ h => h) (fun _ _ h => h) (fun _ _ h => h) (fun _ _ _ h => h) (fun _ _ _ _ h => h) x2 x3 al h
theorem uX11_isAbove_215 {G : zG} {Z : zC}  {ad ln : Nat → Nat} (X : zX G Z cX11_isAbove 5 RX11 wsX11_isAbove) (p1 : Int32) {post : Int32 → (Nat → Nat → Int32) → Prop} (hR : zRi G Z rmX11_isAbove 5 zTR ad ln cX11_isAbove .boolean post) (x2 x3 x4 : Int32) (al : Nat → Nat → Int32) (h : vcX11_isAbove_215 G  ad ln p1 (BX11_isAbove_2 G Z  ad ln p1) (BX11_isAbove_12 G Z  ad ln p1) (BX11_isAbove_44 G Z  ad ln p1) (BX11_isAbove_116 G Z  ad ln p1) (BX11_isAbove_126 G Z  ad ln p1) (BX11_isAbove_153 G Z  ad ln p1) post x2 x3 x4 al) : zB G Z rmX11_isAbove 5 zTR ad ln 0 0 215 [(0, .ref (ad 0)), (2, .int x2), (3, .int x3), (4, .int x4)] [] al := tX11_isAbove_215 X p1 hR (fun _ _ h => h) (fun _ _ _ h => h) (fun _ _ h => h) (fun _ _ h => h) (fun _ _ _ h => h) (fun _ _ _ _ h => h) x2 x3 x4 al h
theorem uX11_isAbove_153 {G : zG} {Z : zC}  {ad ln : Nat → Nat} (X : zX G Z cX11_isAbove 5 RX11 wsX11_isAbove) (p1 : Int32) {post : Int32 → (Nat → Nat → Int32) → Prop} (hR : zRi G Z rmX11_isAbove 5 zTR ad ln cX11_isAbove .boolean post) (x2 x3 x4 : Int32) (al : Nat → Nat → Int32) (h : vcX11_isAbove_153 G  ad ln p1 (BX11_isAbove_2 G Z  ad ln p1) (BX11_isAbove_12 G Z  ad ln p1) (BX11_isAbove_44 G Z  ad ln p1) (BX11_isAbove_116 G Z  ad ln p1) (BX11_isAbove_126 G Z  ad ln p1) (BX11_isAbove_153 G Z  ad ln p1) post x2 x3 x4 al) : zB G Z rmX11_isAbove 5 zTR ad ln 0 0 153 [(0, .ref (ad 0)), (2, .int x2), (3, .int x3), (4, .int x4)] [] al := tX11_isAbove_153 X p1 hR (fun _ _ h => h) (fun _ _ _ h => h) (fun _ _ h => h) (fun _ _ h => h) (fun _ _ _ h => h) (fun _ _ _ _ h => h) x2 x3 x4 al h

abbrev rmX11_leastByCircles : Room := { frames := 2, cells := 0, slots := 0, locals := 45 }
abbrev BX11_leastByCircles_6 (G : zG) (Z : zC)  (ad ln : Nat → Nat) (x1 x2 : Int32) (al : Nat → Nat → Int32) : Prop := zB G Z rmX11_leastByCircles 4 zTR ad ln 0 0 6 [(0, .ref (ad 0)), (1, .int x1), (2, .int x2)] [] al
def vcX11_leastByCircles_0 (G : zG)  (ad ln : Nat → Nat) (K6 : Int32 → Int32 → (Nat → Nat → Int32) → Prop) (post : Int32 → (Nat → Nat → Int32) → Prop) (al : Nat → Nat → Int32) : Prop :=
  K6 (1 : Int32) (1000 : Int32) al
def vcX11_leastByCircles_34 (G : zG)  (ad ln : Nat → Nat) (K6 : Int32 → Int32 → (Nat → Nat → Int32) → Prop) (post : Int32 → (Nat → Nat → Int32) → Prop) (x1 x2 : Int32) (al : Nat → Nat → Int32) : Prop :=
  K6 x1 x2 al
def vcX11_leastByCircles_6 (G : zG)  (ad ln : Nat → Nat) (K6 : Int32 → Int32 → (Nat → Nat → Int32) → Prop) (post : Int32 → (Nat → Nat → Int32) → Prop) (x1 x2 : Int32) (al : Nat → Nat → Int32) : Prop :=
  (x2 ≤ x1 → post x1 al) ∧ (¬ x2 ≤ x1 → (¬ (2 : Int32) = 0 ∧ zMi G yX11_isAbove wsX11_isAbove rmX11_isAbove zTR ad ln [.ref (ad 0), .int ((x1 + x2) / (2 : Int32))] al (fun q2 a2 => (q2 = 0 → vcX11_leastByCircles_34 G  ad ln K6 post x1 ((x1 + x2) / (2 : Int32)) a2) ∧ (¬ q2 = 0 → vcX11_leastByCircles_34 G  ad ln K6 post (((x1 + x2) / (2 : Int32)) + (1 : Int32)) x2 a2))))
set_option maxRecDepth 20000 in
theorem tX11_leastByCircles_0 {G : zG} {Z : zC}  {ad ln : Nat → Nat} (X : zX G Z cX11_leastByCircles 4 RX11 wsX11_leastByCircles) {K6 : Int32 → Int32 → (Nat → Nat → Int32) → Prop} {post : Int32 → (Nat → Nat → Int32) → Prop} (hR : zRi G Z rmX11_leastByCircles 4 zTR ad ln cX11_leastByCircles .int post) (hK6 : ∀ x1 x2 : Int32, ∀ al, K6 x1 x2 al → zB G Z rmX11_leastByCircles 4 zTR ad ln 0 0 6 [(0, .ref (ad 0)), (1, .int x1), (2, .int x2)] [] al) (al : Nat → Nat → Int32) (h : vcX11_leastByCircles_0 G  ad ln K6 post  al) : zB G Z rmX11_leastByCircles 4 zTR ad ln 0 0 0 [(0, .ref (ad 0))] [] al := by
  unfold vcX11_leastByCircles_0 at h
  refine zb_iconst X (1 : Int32) dX11_leastByCircles_0 (by decide) ?_
  refine zb_istore_n X (lv' := [(1, .int (1 : Int32)), (0, .ref (ad 0))]) dX11_leastByCircles_1 rfl (by decide) rfl ?_
  refine zb_sipush X (1000 : Int32) dX11_leastByCircles_2 (by decide) ?_
  refine zb_istore_n X (lv' := [(2, .int (1000 : Int32)), (1, .int (1 : Int32)), (0, .ref (ad 0))]) dX11_leastByCircles_5 rfl (by decide) rfl ?_
  refine zb_sub [2, 1, 0] rfl ?_
  exact hK6 (1 : Int32) (1000 : Int32) al h
set_option maxRecDepth 20000 in
theorem tX11_leastByCircles_34 {G : zG} {Z : zC}  {ad ln : Nat → Nat} (X : zX G Z cX11_leastByCircles 4 RX11 wsX11_leastByCircles) {K6 : Int32 → Int32 → (Nat → Nat → Int32) → Prop} {post : Int32 → (Nat → Nat → Int32) → Prop} (hR : zRi G Z rmX11_leastByCircles 4 zTR ad ln cX11_leastByCircles .int post) (hK6 : ∀ x1 x2 : Int32, ∀ al, K6 x1 x2 al → zB G Z rmX11_leastByCircles 4 zTR ad ln 0 0 6 [(0, .ref (ad 0)), (1, .int x1), (2, .int x2)] [] al) (x1 x2 : Int32) (al : Nat → Nat → Int32) (h : vcX11_leastByCircles_34 G  ad ln K6 post x1 x2 al) : zB G Z rmX11_leastByCircles 4 zTR ad ln 0 0 34 [(0, .ref (ad 0)), (1, .int x1), (2, .int x2)] [] al := by
  unfold vcX11_leastByCircles_34 at h
  refine zb_goto X 6 dX11_leastByCircles_34 (by decide) ?_
  refine zb_sub [0, 1, 2] rfl ?_
  exact hK6 x1 x2 al h
set_option maxRecDepth 20000 in
theorem tX11_leastByCircles_6 {G : zG} {Z : zC}  {ad ln : Nat → Nat} (X : zX G Z cX11_leastByCircles 4 RX11 wsX11_leastByCircles) {K6 : Int32 → Int32 → (Nat → Nat → Int32) → Prop} {post : Int32 → (Nat → Nat → Int32) → Prop} (hR : zRi G Z rmX11_leastByCircles 4 zTR ad ln cX11_leastByCircles .int post) (hK6 : ∀ x1 x2 : Int32, ∀ al, K6 x1 x2 al → zB G Z rmX11_leastByCircles 4 zTR ad ln 0 0 6 [(0, .ref (ad 0)), (1, .int x1), (2, .int x2)] [] al) (x1 x2 : Int32) (al : Nat → Nat → Int32) (h : vcX11_leastByCircles_6 G  ad ln K6 post x1 x2 al) : zB G Z rmX11_leastByCircles 4 zTR ad ln 0 0 6 [(0, .ref (ad 0)), (1, .int x1), (2, .int x2)] [] al := by
  unfold vcX11_leastByCircles_6 at h
  refine zb_iload_n X dX11_leastByCircles_6 rfl 1 rfl ?_
  refine zb_iload_n X dX11_leastByCircles_7 rfl 2 rfl ?_
  refine zb_icmp_ge X 37 dX11_leastByCircles_8 (by decide) (fun c1 => ?_) (fun c1 => ?_)
  · have h := h.1 c1
    refine zb_iload_n X dX11_leastByCircles_37 rfl 1 rfl ?_
    exact hR 38 _ _ _ dX11_leastByCircles_38 rfl h
  · have h := h.2 c1
    refine zb_iload_n X dX11_leastByCircles_11 rfl 1 rfl ?_
    refine zb_iload_n X dX11_leastByCircles_12 rfl 2 rfl ?_
    refine zb_iadd X dX11_leastByCircles_13 ?_
    refine zb_iconst X (2 : Int32) dX11_leastByCircles_14 (by decide) ?_
    obtain ⟨hz, h⟩ := h
    refine zb_idiv X dX11_leastByCircles_15 hz ?_
    refine zb_istore_n X (lv' := [(3, .int ((x1 + x2) / (2 : Int32))), (0, .ref (ad 0)), (1, .int x1), (2, .int x2)]) dX11_leastByCircles_16 rfl (by decide) rfl ?_
    refine zb_aload_n X dX11_leastByCircles_17 rfl 1 rfl ?_
    refine zb_iload_n X dX11_leastByCircles_18 rfl 0 rfl ?_
    refine zb_callVi (n := 1) X 0 (by decide) 11 [3, 4, 5, 6, 7, 8, 9, 10, 11, 0, 12, 0, 0, 0, 0, 0, 0, 0, 0, 0, 0, 0, 0, 13, 14, 15, 16, 17, 0, 18, 19, 20, 21, 0, 0, 0, 22, 23, 24, 25, 0, 0, 26, 27, 28, 29, 0, 0, 0, 30, 0] rfl (C := RX11) (Tt := TX11) (N := 51) rfl h gX11_leastByCircles_X11_isAbove rfl (by decide +kernel) (by decide) rfl rfl (Nat.le_of_ble_eq_true rfl) dX11_leastByCircles_19 (kc' := 0) (ks' := 0) rfl rfl (fun q2 a2 h => ?_)
    refine zb_if_eq X 32 dX11_leastByCircles_22 (by decide) (fun c3 => ?_) (fun c3 => ?_)
    · have h := h.1 c3
      refine zb_iload_n X dX11_leastByCircles_32 rfl 0 rfl ?_
      refine zb_istore_n X (lv' := [(2, .int ((x1 + x2) / (2 : Int32))), (3, .int ((x1 + x2) / (2 : Int32))), (0, .ref (ad 0)), (1, .int x1)]) dX11_leastByCircles_33 rfl (by decide) rfl ?_
      refine zb_sub [2, 3, 0] rfl ?_
      exact tX11_leastByCircles_34 X hR hK6 x1 ((x1 + x2) / (2 : Int32)) a2 h
    · have h := h.2 c3
      refine zb_iload_n X dX11_leastByCircles_25 rfl 0 rfl ?_
      refine zb_iconst X (1 : Int32) dX11_leastByCircles_26 (by decide) ?_
      refine zb_iadd X dX11_leastByCircles_27 ?_
      refine zb_istore_n X (lv' := [(1, .int (((x1 + x2) / (2 : Int32)) + (1 : Int32))), (3, .int ((x1 + x2) / (2 : Int32))), (0, .ref (ad 0)), (2, .int x2)]) dX11_leastByCircles_28 rfl (by decide) rfl ?_
      refine zb_goto X 34 dX11_leastByCircles_29 (by decide) ?_
      refine zb_sub [2, 0, 3] rfl ?_
      exact tX11_leastByCircles_34 X hR hK6 (((x1 + x2) / (2 : Int32)) + (1 : Int32)) x2 a2 h
theorem uX11_leastByCircles_0 {G : zG} {Z : zC}  {ad ln : Nat → Nat} (X : zX G Z cX11_leastByCircles 4 RX11 wsX11_leastByCircles) {post : Int32 → (Nat → Nat → Int32) → Prop} (hR : zRi G Z rmX11_leastByCircles 4 zTR ad ln cX11_leastByCircles .int post) (al : Nat → Nat → Int32) (h : vcX11_leastByCircles_0 G  ad ln (BX11_leastByCircles_6 G Z  ad ln) post  al) : zB G Z rmX11_leastByCircles 4 zTR ad ln 0 0 0 [(0, .ref (ad 0))] [] al := tX11_leastByCircles_0 X hR (fun _ _ _ h => h)  al h
theorem uX11_leastByCircles_34 {G : zG} {Z : zC}  {ad ln : Nat → Nat} (X : zX G Z cX11_leastByCircles 4 RX11 wsX11_leastByCircles) {post : Int32 → (Nat → Nat → Int32) → Prop} (hR : zRi G Z rmX11_leastByCircles 4 zTR ad ln cX11_leastByCircles .int post) (x1 x2 : Int32) (al : Nat → Nat → Int32) (h : vcX11_leastByCircles_34 G  ad ln (BX11_leastByCircles_6 G Z  ad ln) post x1 x2 al) : zB G Z rmX11_leastByCircles 4 zTR ad ln 0 0 34 [(0, .ref (ad 0)), (1, .int x1), (2, .int x2)] [] al := tX11_leastByCircles_34 X hR (fun _ _ _ h => h) x1 x2 al h
theorem uX11_leastByCircles_6 {G : zG} {Z : zC}  {ad ln : Nat → Nat} (X : zX G Z cX11_leastByCircles 4 RX11 wsX11_leastByCircles) {post : Int32 → (Nat → Nat → Int32) → Prop} (hR : zRi G Z rmX11_leastByCircles 4 zTR ad ln cX11_leastByCircles .int post) (x1 x2 : Int32) (al : Nat → Nat → Int32) (h : vcX11_leastByCircles_6 G  ad ln (BX11_leastByCircles_6 G Z  ad ln) post x1 x2 al) : zB G Z rmX11_leastByCircles 4 zTR ad ln 0 0 6 [(0, .ref (ad 0)), (1, .int x1), (2, .int x2)] [] al := tX11_leastByCircles_6 X hR (fun _ _ _ h => h) x1 x2 al h

abbrev rmX11_heights : Room := { frames := 0, cells := 0, slots := 0, locals := 0 }
theorem kX11_heights_0 : Cond.fieldLink RX11 137 RX11 "rows" "I" ∈ wsX11_heights := by decide +kernel
theorem kX11_heights_1 : zIn RX11 TX11 51 wsX11_heights := by decide +kernel
theorem kX11_heights_2 : Cond.fieldLink RX11 186 RX11 "height" "[I" ∈ wsX11_heights := by decide +kernel
theorem kX11_heights_3 : Cond.fieldLink RX11 119 RX11 "waits" "I" ∈ wsX11_heights := by decide +kernel
theorem kX11_heights_4 : Cond.fieldLink RX11 131 RX11 "waitDelay" "[I" ∈ wsX11_heights := by decide +kernel
theorem kX11_heights_5 : Cond.fieldLink RX11 128 RX11 "waitD" "[I" ∈ wsX11_heights := by decide +kernel
theorem kX11_heights_6 : Cond.fieldLink RX11 125 RX11 "waitY" "[I" ∈ wsX11_heights := by decide +kernel
theorem kX11_heights_7 : Cond.fieldLink RX11 122 RX11 "waitX" "[I" ∈ wsX11_heights := by decide +kernel
abbrev BX11_heights_33 (G : zG) (Z : zC)  (ad ln : Nat → Nat) (p1 : Int32) (x2 x3 : Int32) (al : Nat → Nat → Int32) : Prop := zB G Z rmX11_heights 5 zTR ad ln 0 0 33 [(0, .ref (ad 0)), (1, .int p1), (2, .int x2), (3, .int x3)] [] al
abbrev BX11_heights_25 (G : zG) (Z : zC)  (ad ln : Nat → Nat) (p1 : Int32) (x2 : Int32) (al : Nat → Nat → Int32) : Prop := zB G Z rmX11_heights 5 zTR ad ln 0 0 25 [(0, .ref (ad 0)), (1, .int p1), (2, .int x2)] [] al
abbrev BX11_heights_2 (G : zG) (Z : zC)  (ad ln : Nat → Nat) (p1 : Int32) (x2 : Int32) (al : Nat → Nat → Int32) : Prop := zB G Z rmX11_heights 5 zTR ad ln 0 0 2 [(0, .ref (ad 0)), (1, .int p1), (2, .int x2)] [] al
def vcX11_heights_0 (G : zG)  (ad ln : Nat → Nat) (p1 : Int32) (K2 : Int32 → (Nat → Nat → Int32) → Prop) (K25 : Int32 → (Nat → Nat → Int32) → Prop) (K33 : Int32 → Int32 → (Nat → Nat → Int32) → Prop) (post : (Nat → Nat → Int32) → Prop) (al : Nat → Nat → Int32) : Prop :=
  K2 (0 : Int32) al
def vcX11_heights_2 (G : zG)  (ad ln : Nat → Nat) (p1 : Int32) (K2 : Int32 → (Nat → Nat → Int32) → Prop) (K25 : Int32 → (Nat → Nat → Int32) → Prop) (K33 : Int32 → Int32 → (Nat → Nat → Int32) → Prop) (post : (Nat → Nat → Int32) → Prop) (x2 : Int32) (al : Nat → Nat → Int32) : Prop :=
  ((al 0 9) ≤ x2 → K25 (1 : Int32) al) ∧ (¬ (al 0 9) ≤ x2 → (vp_in x2 48 ∧ K2 (x2 + (1 : Int32)) (up2 al 19 x2.toNatClampNeg (0 : Int32))))
def vcX11_heights_25 (G : zG)  (ad ln : Nat → Nat) (p1 : Int32) (K2 : Int32 → (Nat → Nat → Int32) → Prop) (K25 : Int32 → (Nat → Nat → Int32) → Prop) (K33 : Int32 → Int32 → (Nat → Nat → Int32) → Prop) (post : (Nat → Nat → Int32) → Prop) (x2 : Int32) (al : Nat → Nat → Int32) : Prop :=
  (x2 = 0 → post al) ∧ (¬ x2 = 0 → K33 (0 : Int32) (0 : Int32) al)
def vcX11_heights_119 (G : zG)  (ad ln : Nat → Nat) (p1 : Int32) (K2 : Int32 → (Nat → Nat → Int32) → Prop) (K25 : Int32 → (Nat → Nat → Int32) → Prop) (K33 : Int32 → Int32 → (Nat → Nat → Int32) → Prop) (post : (Nat → Nat → Int32) → Prop) (x2 x3 : Int32) (al : Nat → Nat → Int32) : Prop :=
  K33 x2 (x3 + (1 : Int32)) al
def vcX11_heights_33 (G : zG)  (ad ln : Nat → Nat) (p1 : Int32) (K2 : Int32 → (Nat → Nat → Int32) → Prop) (K25 : Int32 → (Nat → Nat → Int32) → Prop) (K33 : Int32 → Int32 → (Nat → Nat → Int32) → Prop) (post : (Nat → Nat → Int32) → Prop) (x2 x3 : Int32) (al : Nat → Nat → Int32) : Prop :=
  ((al 0 28) ≤ x3 → K25 x2 al) ∧ (¬ (al 0 28) ≤ x3 → (vp_in x3 4608 ∧ vp_in x3 4608 ∧ vp_in x3 4608 ∧ vp_in (al 13 x3.toNatClampNeg) 48 ∧ vp_in x3 4608 ∧ vp_in x3 4608 ∧ ((al 12 x3.toNatClampNeg) = (al 13 x3.toNatClampNeg) → vcX11_heights_119 G  ad ln p1 K2 K25 K33 post x2 x3 al) ∧ (¬ (al 12 x3.toNatClampNeg) = (al 13 x3.toNatClampNeg) → (vp_in x3 4608 ∧ vp_in (al 12 x3.toNatClampNeg) 48 ∧ ((al 19 ((al 12 x3.toNatClampNeg).toNatClampNeg)) < (((al 15 x3.toNatClampNeg) - ((al 14 x3.toNatClampNeg) * p1)) + (al 19 ((al 13 x3.toNatClampNeg).toNatClampNeg))) → (vp_in x3 4608 ∧ vp_in (al 12 x3.toNatClampNeg) 48 ∧ vcX11_heights_119 G  ad ln p1 K2 K25 K33 post (1 : Int32) x3 (up2 al 19 ((al 12 x3.toNatClampNeg).toNatClampNeg) (((al 15 x3.toNatClampNeg) - ((al 14 x3.toNatClampNeg) * p1)) + (al 19 ((al 13 x3.toNatClampNeg).toNatClampNeg)))))) ∧ (¬ (al 19 ((al 12 x3.toNatClampNeg).toNatClampNeg)) < (((al 15 x3.toNatClampNeg) - ((al 14 x3.toNatClampNeg) * p1)) + (al 19 ((al 13 x3.toNatClampNeg).toNatClampNeg))) → vcX11_heights_119 G  ad ln p1 K2 K25 K33 post x2 x3 al)))))
set_option maxRecDepth 20000 in
theorem tX11_heights_0 {G : zG} {Z : zC}  {ad ln : Nat → Nat} (X : zX G Z cX11_heights 5 RX11 wsX11_heights) (p1 : Int32) {K2 : Int32 → (Nat → Nat → Int32) → Prop} {K25 : Int32 → (Nat → Nat → Int32) → Prop} {K33 : Int32 → Int32 → (Nat → Nat → Int32) → Prop} {post : (Nat → Nat → Int32) → Prop} (hR : zRv G Z rmX11_heights 5 zTR ad ln cX11_heights post) (hK2 : ∀ x2 : Int32, ∀ al, K2 x2 al → zB G Z rmX11_heights 5 zTR ad ln 0 0 2 [(0, .ref (ad 0)), (1, .int p1), (2, .int x2)] [] al) (hK25 : ∀ x2 : Int32, ∀ al, K25 x2 al → zB G Z rmX11_heights 5 zTR ad ln 0 0 25 [(0, .ref (ad 0)), (1, .int p1), (2, .int x2)] [] al) (hK33 : ∀ x2 x3 : Int32, ∀ al, K33 x2 x3 al → zB G Z rmX11_heights 5 zTR ad ln 0 0 33 [(0, .ref (ad 0)), (1, .int p1), (2, .int x2), (3, .int x3)] [] al) (al : Nat → Nat → Int32) (h : vcX11_heights_0 G  ad ln p1 K2 K25 K33 post  al) : zB G Z rmX11_heights 5 zTR ad ln 0 0 0 [(0, .ref (ad 0)), (1, .int p1)] [] al := by
  unfold vcX11_heights_0 at h
  refine zb_iconst X (0 : Int32) dX11_heights_0 (by decide) ?_
  refine zb_istore_n X (lv' := [(2, .int (0 : Int32)), (0, .ref (ad 0)), (1, .int p1)]) dX11_heights_1 rfl (by decide) rfl ?_
  refine zb_sub [1, 2, 0] rfl ?_
  exact hK2 (0 : Int32) al h
set_option maxRecDepth 20000 in
theorem tX11_heights_2 {G : zG} {Z : zC}  {ad ln : Nat → Nat} (X : zX G Z cX11_heights 5 RX11 wsX11_heights) (p1 : Int32) {K2 : Int32 → (Nat → Nat → Int32) → Prop} {K25 : Int32 → (Nat → Nat → Int32) → Prop} {K33 : Int32 → Int32 → (Nat → Nat → Int32) → Prop} {post : (Nat → Nat → Int32) → Prop} (hR : zRv G Z rmX11_heights 5 zTR ad ln cX11_heights post) (hK2 : ∀ x2 : Int32, ∀ al, K2 x2 al → zB G Z rmX11_heights 5 zTR ad ln 0 0 2 [(0, .ref (ad 0)), (1, .int p1), (2, .int x2)] [] al) (hK25 : ∀ x2 : Int32, ∀ al, K25 x2 al → zB G Z rmX11_heights 5 zTR ad ln 0 0 25 [(0, .ref (ad 0)), (1, .int p1), (2, .int x2)] [] al) (hK33 : ∀ x2 x3 : Int32, ∀ al, K33 x2 x3 al → zB G Z rmX11_heights 5 zTR ad ln 0 0 33 [(0, .ref (ad 0)), (1, .int p1), (2, .int x2), (3, .int x3)] [] al) (x2 : Int32) (al : Nat → Nat → Int32) (h : vcX11_heights_2 G  ad ln p1 K2 K25 K33 post x2 al) : zB G Z rmX11_heights 5 zTR ad ln 0 0 2 [(0, .ref (ad 0)), (1, .int p1), (2, .int x2)] [] al := by
  unfold vcX11_heights_2 at h
  refine zb_iload_n X dX11_heights_2 rfl 2 rfl ?_
  refine zb_aload_n X dX11_heights_3 rfl 0 rfl ?_
  refine zb_getI X 0 (by decide) 11 [3, 4, 5, 6, 7, 8, 9, 10, 11, 0, 12, 0, 0, 0, 0, 0, 0, 0, 0, 0, 0, 0, 0, 13, 14, 15, 16, 17, 0, 18, 19, 20, 21, 0, 0, 0, 22, 23, 24, 25, 0, 0, 26, 27, 28, 29, 0, 0, 0, 30, 0] rfl (C := RX11) (Tt := TX11) (N := 51) rfl kX11_heights_1 9 (by decide) rfl kX11_heights_0 rfl dX11_heights_4 (al 0 9) rfl ?_
  refine zb_icmp_ge X 23 dX11_heights_7 (by decide) (fun c1 => ?_) (fun c1 => ?_)
  · have h := h.1 c1
    refine zb_iconst X (1 : Int32) dX11_heights_23 (by decide) ?_
    refine zb_istore_n X (lv' := [(2, .int (1 : Int32)), (0, .ref (ad 0)), (1, .int p1)]) dX11_heights_24 rfl (by decide) rfl ?_
    refine zb_sub [1, 2, 0] rfl ?_
    exact hK25 (1 : Int32) al h
  · have h := h.2 c1
    refine zb_aload_n X dX11_heights_10 rfl 0 rfl ?_
    refine zb_getR X 0 (by decide) 11 [3, 4, 5, 6, 7, 8, 9, 10, 11, 0, 12, 0, 0, 0, 0, 0, 0, 0, 0, 0, 0, 0, 0, 13, 14, 15, 16, 17, 0, 18, 19, 20, 21, 0, 0, 0, 22, 23, 24, 25, 0, 0, 26, 27, 28, 29, 0, 0, 0, 30, 0] rfl (C := RX11) (Tt := TX11) (N := 51) rfl kX11_heights_1 32 (by decide) 19 rfl kX11_heights_2 rfl dX11_heights_11 ?_
    refine zb_iload_n X dX11_heights_14 rfl 2 rfl ?_
    refine zb_iconst X (0 : Int32) dX11_heights_15 (by decide) ?_
    obtain ⟨hz, h⟩ := h
    refine zb_iast X 19 (by decide) 1 48 0 0 rfl (Or.inl rfl) x2.toNatClampNeg rfl hz dX11_heights_16 ?_
    refine zb_iinc X (lv' := [(2, .int (x2 + (1 : Int32))), (0, .ref (ad 0)), (1, .int p1)]) (x2 + (1 : Int32)) dX11_heights_17 2 rfl rfl (by decide) rfl ?_
    refine zb_goto X 2 dX11_heights_20 (by decide) ?_
    refine zb_sub [1, 2, 0] rfl ?_
    exact hK2 (x2 + (1 : Int32)) (up2 al 19 x2.toNatClampNeg (0 : Int32)) h
set_option maxRecDepth 20000 in
theorem tX11_heights_25 {G : zG} {Z : zC}  {ad ln : Nat → Nat} (X : zX G Z cX11_heights 5 RX11 wsX11_heights) (p1 : Int32) {K2 : Int32 → (Nat → Nat → Int32) → Prop} {K25 : Int32 → (Nat → Nat → Int32) → Prop} {K33 : Int32 → Int32 → (Nat → Nat → Int32) → Prop} {post : (Nat → Nat → Int32) → Prop} (hR : zRv G Z rmX11_heights 5 zTR ad ln cX11_heights post) (hK2 : ∀ x2 : Int32, ∀ al, K2 x2 al → zB G Z rmX11_heights 5 zTR ad ln 0 0 2 [(0, .ref (ad 0)), (1, .int p1), (2, .int x2)] [] al) (hK25 : ∀ x2 : Int32, ∀ al, K25 x2 al → zB G Z rmX11_heights 5 zTR ad ln 0 0 25 [(0, .ref (ad 0)), (1, .int p1), (2, .int x2)] [] al) (hK33 : ∀ x2 x3 : Int32, ∀ al, K33 x2 x3 al → zB G Z rmX11_heights 5 zTR ad ln 0 0 33 [(0, .ref (ad 0)), (1, .int p1), (2, .int x2), (3, .int x3)] [] al) (x2 : Int32) (al : Nat → Nat → Int32) (h : vcX11_heights_25 G  ad ln p1 K2 K25 K33 post x2 al) : zB G Z rmX11_heights 5 zTR ad ln 0 0 25 [(0, .ref (ad 0)), (1, .int p1), (2, .int x2)] [] al := by
  unfold vcX11_heights_25 at h
  refine zb_iload_n X dX11_heights_25 rfl 2 rfl ?_
  refine zb_if_eq X 128 dX11_heights_26 (by decide) (fun c1 => ?_) (fun c1 => ?_)
  · have h := h.1 c1
    exact hR 128 _ _ dX11_heights_128 h
  · have h := h.2 c1
    refine zb_iconst X (0 : Int32) dX11_heights_29 (by decide) ?_
    refine zb_istore_n X (lv' := [(2, .int (0 : Int32)), (0, .ref (ad 0)), (1, .int p1)]) dX11_heights_30 rfl (by decide) rfl ?_
    refine zb_iconst X (0 : Int32) dX11_heights_31 (by decide) ?_
    refine zb_istore_n X (lv' := [(3, .int (0 : Int32)), (2, .int (0 : Int32)), (0, .ref (ad 0)), (1, .int p1)]) dX11_heights_32 rfl (by decide) rfl ?_
    refine zb_sub [2, 3, 1, 0] rfl ?_
    exact hK33 (0 : Int32) (0 : Int32) al h
set_option maxRecDepth 20000 in
theorem tX11_heights_119 {G : zG} {Z : zC}  {ad ln : Nat → Nat} (X : zX G Z cX11_heights 5 RX11 wsX11_heights) (p1 : Int32) {K2 : Int32 → (Nat → Nat → Int32) → Prop} {K25 : Int32 → (Nat → Nat → Int32) → Prop} {K33 : Int32 → Int32 → (Nat → Nat → Int32) → Prop} {post : (Nat → Nat → Int32) → Prop} (hR : zRv G Z rmX11_heights 5 zTR ad ln cX11_heights post) (hK2 : ∀ x2 : Int32, ∀ al, K2 x2 al → zB G Z rmX11_heights 5 zTR ad ln 0 0 2 [(0, .ref (ad 0)), (1, .int p1), (2, .int x2)] [] al) (hK25 : ∀ x2 : Int32, ∀ al, K25 x2 al → zB G Z rmX11_heights 5 zTR ad ln 0 0 25 [(0, .ref (ad 0)), (1, .int p1), (2, .int x2)] [] al) (hK33 : ∀ x2 x3 : Int32, ∀ al, K33 x2 x3 al → zB G Z rmX11_heights 5 zTR ad ln 0 0 33 [(0, .ref (ad 0)), (1, .int p1), (2, .int x2), (3, .int x3)] [] al) (x2 x3 : Int32) (al : Nat → Nat → Int32) (h : vcX11_heights_119 G  ad ln p1 K2 K25 K33 post x2 x3 al) : zB G Z rmX11_heights 5 zTR ad ln 0 0 119 [(0, .ref (ad 0)), (1, .int p1), (2, .int x2), (3, .int x3)] [] al := by
  unfold vcX11_heights_119 at h
  refine zb_iinc X (lv' := [(3, .int (x3 + (1 : Int32))), (0, .ref (ad 0)), (1, .int p1), (2, .int x2)]) (x3 + (1 : Int32)) dX11_heights_119 3 rfl rfl (by decide) rfl ?_
  refine zb_goto X 33 dX11_heights_122 (by decide) ?_
  refine zb_sub [1, 2, 3, 0] rfl ?_
  exact hK33 x2 (x3 + (1 : Int32)) al h
set_option maxRecDepth 20000 in
theorem tX11_heights_33 {G : zG} {Z : zC}  {ad ln : Nat → Nat} (X : zX G Z cX11_heights 5 RX11 wsX11_heights) (p1 : Int32) {K2 : Int32 → (Nat → Nat → Int32) → Prop} {K25 : Int32 → (Nat → Nat → Int32) → Prop} {K33 : Int32 → Int32 → (Nat → Nat → Int32) → Prop} {post : (Nat → Nat → Int32) → Prop} (hR : zRv G Z rmX11_heights 5 zTR ad ln cX11_heights post) (hK2 : ∀ x2 : Int32, ∀ al, K2 x2 al → zB G Z rmX11_heights 5 zTR ad ln 0 0 2 [(0, .ref (ad 0)), (1, .int p1), (2, .int x2)] [] al) (hK25 : ∀ x2 : Int32, ∀ al, K25 x2 al → zB G Z rmX11_heights 5 zTR ad ln 0 0 25 [(0, .ref (ad 0)), (1, .int p1), (2, .int x2)] [] al) (hK33 : ∀ x2 x3 : Int32, ∀ al, K33 x2 x3 al → zB G Z rmX11_heights 5 zTR ad ln 0 0 33 [(0, .ref (ad 0)), (1, .int p1), (2, .int x2), (3, .int x3)] [] al) (x2 x3 : Int32) (al : Nat → Nat → Int32) (h : vcX11_heights_33 G  ad ln p1 K2 K25 K33 post x2 x3 al) : zB G Z rmX11_heights 5 zTR ad ln 0 0 33 [(0, .ref (ad 0)), (1, .int p1), (2, .int x2), (3, .int x3)] [] al := by
  unfold vcX11_heights_33 at h
  refine zb_iload_n X dX11_heights_33 rfl 3 rfl ?_
  refine zb_aload_n X dX11_heights_34 rfl 0 rfl ?_
  refine zb_getI X 0 (by decide) 11 [3, 4, 5, 6, 7, 8, 9, 10, 11, 0, 12, 0, 0, 0, 0, 0, 0, 0, 0, 0, 0, 0, 0, 13, 14, 15, 16, 17, 0, 18, 19, 20, 21, 0, 0, 0, 22, 23, 24, 25, 0, 0, 26, 27, 28, 29, 0, 0, 0, 30, 0] rfl (C := RX11) (Tt := TX11) (N := 51) rfl kX11_heights_1 28 (by decide) rfl kX11_heights_3 rfl dX11_heights_35 (al 0 28) rfl ?_
  refine zb_icmp_ge X 125 dX11_heights_38 (by decide) (fun c1 => ?_) (fun c1 => ?_)
  · have h := h.1 c1
    refine zb_goto X 25 dX11_heights_125 (by decide) ?_
    refine zb_sub [0, 1, 2] rfl ?_
    exact hK25 x2 al h
  · have h := h.2 c1
    refine zb_aload_n X dX11_heights_41 rfl 0 rfl ?_
    refine zb_getR X 0 (by decide) 11 [3, 4, 5, 6, 7, 8, 9, 10, 11, 0, 12, 0, 0, 0, 0, 0, 0, 0, 0, 0, 0, 0, 0, 13, 14, 15, 16, 17, 0, 18, 19, 20, 21, 0, 0, 0, 22, 23, 24, 25, 0, 0, 26, 27, 28, 29, 0, 0, 0, 30, 0] rfl (C := RX11) (Tt := TX11) (N := 51) rfl kX11_heights_1 27 (by decide) 15 rfl kX11_heights_4 rfl dX11_heights_42 ?_
    refine zb_iload_n X dX11_heights_45 rfl 3 rfl ?_
    obtain ⟨hz, h⟩ := h
    refine zb_iald X 15 (by decide) 1 4608 0 0 rfl (Or.inl rfl) x3.toNatClampNeg rfl hz dX11_heights_46 (al 15 x3.toNatClampNeg) rfl ?_
    refine zb_aload_n X dX11_heights_47 rfl 0 rfl ?_
    refine zb_getR X 0 (by decide) 11 [3, 4, 5, 6, 7, 8, 9, 10, 11, 0, 12, 0, 0, 0, 0, 0, 0, 0, 0, 0, 0, 0, 0, 13, 14, 15, 16, 17, 0, 18, 19, 20, 21, 0, 0, 0, 22, 23, 24, 25, 0, 0, 26, 27, 28, 29, 0, 0, 0, 30, 0] rfl (C := RX11) (Tt := TX11) (N := 51) rfl kX11_heights_1 26 (by decide) 14 rfl kX11_heights_5 rfl dX11_heights_48 ?_
    refine zb_iload_n X dX11_heights_51 rfl 3 rfl ?_
    obtain ⟨hz, h⟩ := h
    refine zb_iald X 14 (by decide) 1 4608 0 0 rfl (Or.inl rfl) x3.toNatClampNeg rfl hz dX11_heights_52 (al 14 x3.toNatClampNeg) rfl ?_
    refine zb_iload_n X dX11_heights_53 rfl 1 rfl ?_
    refine zb_imul X dX11_heights_54 ?_
    refine zb_isub X dX11_heights_55 ?_
    refine zb_aload_n X dX11_heights_56 rfl 0 rfl ?_
    refine zb_getR X 0 (by decide) 11 [3, 4, 5, 6, 7, 8, 9, 10, 11, 0, 12, 0, 0, 0, 0, 0, 0, 0, 0, 0, 0, 0, 0, 13, 14, 15, 16, 17, 0, 18, 19, 20, 21, 0, 0, 0, 22, 23, 24, 25, 0, 0, 26, 27, 28, 29, 0, 0, 0, 30, 0] rfl (C := RX11) (Tt := TX11) (N := 51) rfl kX11_heights_1 32 (by decide) 19 rfl kX11_heights_2 rfl dX11_heights_57 ?_
    refine zb_aload_n X dX11_heights_60 rfl 0 rfl ?_
    refine zb_getR X 0 (by decide) 11 [3, 4, 5, 6, 7, 8, 9, 10, 11, 0, 12, 0, 0, 0, 0, 0, 0, 0, 0, 0, 0, 0, 0, 13, 14, 15, 16, 17, 0, 18, 19, 20, 21, 0, 0, 0, 22, 23, 24, 25, 0, 0, 26, 27, 28, 29, 0, 0, 0, 30, 0] rfl (C := RX11) (Tt := TX11) (N := 51) rfl kX11_heights_1 25 (by decide) 13 rfl kX11_heights_6 rfl dX11_heights_61 ?_
    refine zb_iload_n X dX11_heights_64 rfl 3 rfl ?_
    obtain ⟨hz, h⟩ := h
    refine zb_iald X 13 (by decide) 1 4608 0 0 rfl (Or.inl rfl) x3.toNatClampNeg rfl hz dX11_heights_65 (al 13 x3.toNatClampNeg) rfl ?_
    obtain ⟨hz, h⟩ := h
    refine zb_iald X 19 (by decide) 1 48 0 0 rfl (Or.inl rfl) ((al 13 x3.toNatClampNeg).toNatClampNeg) rfl hz dX11_heights_66 (al 19 ((al 13 x3.toNatClampNeg).toNatClampNeg)) rfl ?_
    refine zb_iadd X dX11_heights_67 ?_
    refine zb_istore X (lv' := [(4, .int (((al 15 x3.toNatClampNeg) - ((al 14 x3.toNatClampNeg) * p1)) + (al 19 ((al 13 x3.toNatClampNeg).toNatClampNeg)))), (0, .ref (ad 0)), (1, .int p1), (2, .int x2), (3, .int x3)]) dX11_heights_68 (by decide) rfl ?_
    refine zb_aload_n X dX11_heights_70 rfl 1 rfl ?_
    refine zb_getR X 0 (by decide) 11 [3, 4, 5, 6, 7, 8, 9, 10, 11, 0, 12, 0, 0, 0, 0, 0, 0, 0, 0, 0, 0, 0, 0, 13, 14, 15, 16, 17, 0, 18, 19, 20, 21, 0, 0, 0, 22, 23, 24, 25, 0, 0, 26, 27, 28, 29, 0, 0, 0, 30, 0] rfl (C := RX11) (Tt := TX11) (N := 51) rfl kX11_heights_1 24 (by decide) 12 rfl kX11_heights_7 rfl dX11_heights_71 ?_
    refine zb_iload_n X dX11_heights_74 rfl 4 rfl ?_
    obtain ⟨hz, h⟩ := h
    refine zb_iald X 12 (by decide) 1 4608 0 0 rfl (Or.inl rfl) x3.toNatClampNeg rfl hz dX11_heights_75 (al 12 x3.toNatClampNeg) rfl ?_
    refine zb_aload_n X dX11_heights_76 rfl 1 rfl ?_
    refine zb_getR X 0 (by decide) 11 [3, 4, 5, 6, 7, 8, 9, 10, 11, 0, 12, 0, 0, 0, 0, 0, 0, 0, 0, 0, 0, 0, 0, 13, 14, 15, 16, 17, 0, 18, 19, 20, 21, 0, 0, 0, 22, 23, 24, 25, 0, 0, 26, 27, 28, 29, 0, 0, 0, 30, 0] rfl (C := RX11) (Tt := TX11) (N := 51) rfl kX11_heights_1 25 (by decide) 13 rfl kX11_heights_6 rfl dX11_heights_77 ?_
    refine zb_iload_n X dX11_heights_80 rfl 4 rfl ?_
    obtain ⟨hz, h⟩ := h
    refine zb_iald X 13 (by decide) 1 4608 0 0 rfl (Or.inl rfl) x3.toNatClampNeg rfl hz dX11_heights_81 (al 13 x3.toNatClampNeg) rfl ?_
    refine zb_icmp_eq X 119 dX11_heights_82 (by decide) (fun c2 => ?_) (fun c2 => ?_)
    · have h := h.1 c2
      refine zb_sub [1, 2, 3, 4] rfl ?_
      exact tX11_heights_119 X p1 hR hK2 hK25 hK33 x2 x3 al h
    · have h := h.2 c2
      refine zb_iload X dX11_heights_85 0 rfl ?_
      refine zb_aload_n X dX11_heights_87 rfl 1 rfl ?_
      refine zb_getR X 0 (by decide) 11 [3, 4, 5, 6, 7, 8, 9, 10, 11, 0, 12, 0, 0, 0, 0, 0, 0, 0, 0, 0, 0, 0, 0, 13, 14, 15, 16, 17, 0, 18, 19, 20, 21, 0, 0, 0, 22, 23, 24, 25, 0, 0, 26, 27, 28, 29, 0, 0, 0, 30, 0] rfl (C := RX11) (Tt := TX11) (N := 51) rfl kX11_heights_1 32 (by decide) 19 rfl kX11_heights_2 rfl dX11_heights_88 ?_
      refine zb_aload_n X dX11_heights_91 rfl 1 rfl ?_
      refine zb_getR X 0 (by decide) 11 [3, 4, 5, 6, 7, 8, 9, 10, 11, 0, 12, 0, 0, 0, 0, 0, 0, 0, 0, 0, 0, 0, 0, 13, 14, 15, 16, 17, 0, 18, 19, 20, 21, 0, 0, 0, 22, 23, 24, 25, 0, 0, 26, 27, 28, 29, 0, 0, 0, 30, 0] rfl (C := RX11) (Tt := TX11) (N := 51) rfl kX11_heights_1 24 (by decide) 12 rfl kX11_heights_7 rfl dX11_heights_92 ?_
      refine zb_iload_n X dX11_heights_95 rfl 4 rfl ?_
      obtain ⟨hz, h⟩ := h
      refine zb_iald X 12 (by decide) 1 4608 0 0 rfl (Or.inl rfl) x3.toNatClampNeg rfl hz dX11_heights_96 (al 12 x3.toNatClampNeg) rfl ?_
      obtain ⟨hz, h⟩ := h
      refine zb_iald X 19 (by decide) 1 48 0 0 rfl (Or.inl rfl) ((al 12 x3.toNatClampNeg).toNatClampNeg) rfl hz dX11_heights_97 (al 19 ((al 12 x3.toNatClampNeg).toNatClampNeg)) rfl ?_
      refine zb_icmp_gt X 104 dX11_heights_98 (by decide) (fun c3 => ?_) (fun c3 => ?_)
      · have h := h.1 c3
        refine zb_aload_n X dX11_heights_104 rfl 1 rfl ?_
        refine zb_getR X 0 (by decide) 11 [3, 4, 5, 6, 7, 8, 9, 10, 11, 0, 12, 0, 0, 0, 0, 0, 0, 0, 0, 0, 0, 0, 0, 13, 14, 15, 16, 17, 0, 18, 19, 20, 21, 0, 0, 0, 22, 23, 24, 25, 0, 0, 26, 27, 28, 29, 0, 0, 0, 30, 0] rfl (C := RX11) (Tt := TX11) (N := 51) rfl kX11_heights_1 32 (by decide) 19 rfl kX11_heights_2 rfl dX11_heights_105 ?_
        refine zb_aload_n X dX11_heights_108 rfl 1 rfl ?_
        refine zb_getR X 0 (by decide) 11 [3, 4, 5, 6, 7, 8, 9, 10, 11, 0, 12, 0, 0, 0, 0, 0, 0, 0, 0, 0, 0, 0, 0, 13, 14, 15, 16, 17, 0, 18, 19, 20, 21, 0, 0, 0, 22, 23, 24, 25, 0, 0, 26, 27, 28, 29, 0, 0, 0, 30, 0] rfl (C := RX11) (Tt := TX11) (N := 51) rfl kX11_heights_1 24 (by decide) 12 rfl kX11_heights_7 rfl dX11_heights_109 ?_
        refine zb_iload_n X dX11_heights_112 rfl 4 rfl ?_
        obtain ⟨hz, h⟩ := h
        refine zb_iald X 12 (by decide) 1 4608 0 0 rfl (Or.inl rfl) x3.toNatClampNeg rfl hz dX11_heights_113 (al 12 x3.toNatClampNeg) rfl ?_
        refine zb_iload X dX11_heights_114 0 rfl ?_
        obtain ⟨hz, h⟩ := h
        refine zb_iast X 19 (by decide) 1 48 0 0 rfl (Or.inl rfl) ((al 12 x3.toNatClampNeg).toNatClampNeg) rfl hz dX11_heights_116 ?_
        refine zb_iconst X (1 : Int32) dX11_heights_117 (by decide) ?_
        refine zb_istore_n X (lv' := [(2, .int (1 : Int32)), (4, .int (((al 15 x3.toNatClampNeg) - ((al 14 x3.toNatClampNeg) * p1)) + (al 19 ((al 13 x3.toNatClampNeg).toNatClampNeg)))), (0, .ref (ad 0)), (1, .int p1), (3, .int x3)]) dX11_heights_118 rfl (by decide) rfl ?_
        refine zb_sub [2, 3, 0, 4] rfl ?_
        exact tX11_heights_119 X p1 hR hK2 hK25 hK33 (1 : Int32) x3 (up2 al 19 ((al 12 x3.toNatClampNeg).toNatClampNeg) (((al 15 x3.toNatClampNeg) - ((al 14 x3.toNatClampNeg) * p1)) + (al 19 ((al 13 x3.toNatClampNeg).toNatClampNeg)))) h
      · have h := h.2 c3
        refine zb_goto X 119 dX11_heights_101 (by decide) ?_
        refine zb_sub [1, 2, 3, 4] rfl ?_
        exact tX11_heights_119 X p1 hR hK2 hK25 hK33 x2 x3 al h
theorem uX11_heights_0 {G : zG} {Z : zC}  {ad ln : Nat → Nat} (X : zX G Z cX11_heights 5 RX11 wsX11_heights) (p1 : Int32) {post : (Nat → Nat → Int32) → Prop} (hR : zRv G Z rmX11_heights 5 zTR ad ln cX11_heights post) (al : Nat → Nat → Int32) (h : vcX11_heights_0 G  ad ln p1 (BX11_heights_2 G Z  ad ln p1) (BX11_heights_25 G Z  ad ln p1) (BX11_heights_33 G Z  ad ln p1) post  al) : zB G Z rmX11_heights 5 zTR ad ln 0 0 0 [(0, .ref (ad 0)), (1, .int p1)] [] al := tX11_heights_0 X p1 hR (fun _ _ h => h) (fun _ _ h => h) (fun _ _ _ h => h)  al h
theorem uX11_heights_2 {G : zG} {Z : zC}  {ad ln : Nat → Nat} (X : zX G Z cX11_heights 5 RX11 wsX11_heights) (p1 : Int32) {post : (Nat → Nat → Int32) → Prop} (hR : zRv G Z rmX11_heights 5 zTR ad ln cX11_heights post) (x2 : Int32) (al : Nat → Nat → Int32) (h : vcX11_heights_2 G  ad ln p1 (BX11_heights_2 G Z  ad ln p1) (BX11_heights_25 G Z  ad ln p1) (BX11_heights_33 G Z  ad ln p1) post x2 al) : zB G Z rmX11_heights 5 zTR ad ln 0 0 2 [(0, .ref (ad 0)), (1, .int p1), (2, .int x2)] [] al := tX11_heights_2 X p1 hR (fun _ _ h => h) (fun _ _ h => h) (fun _ _ _ h => h) x2 al h
theorem uX11_heights_25 {G : zG} {Z : zC}  {ad ln : Nat → Nat} (X : zX G Z cX11_heights 5 RX11 wsX11_heights) (p1 : Int32) {post : (Nat → Nat → Int32) → Prop} (hR : zRv G Z rmX11_heights 5 zTR ad ln cX11_heights post) (x2 : Int32) (al : Nat → Nat → Int32) (h : vcX11_heights_25 G  ad ln p1 (BX11_heights_2 G Z  ad ln p1) (BX11_heights_25 G Z  ad ln p1) (BX11_heights_33 G Z  ad ln p1) post x2 al) : zB G Z rmX11_heights 5 zTR ad ln 0 0 25 [(0, .ref (ad 0)), (1, .int p1), (2, .int x2)] [] al := tX11_heights_25 X p1 hR (fun _ _ h => h) (fun _ _ h => h) (fun _ _ _ h => h) x2 al h
theorem uX11_heights_119 {G : zG} {Z : zC}  {ad ln : Nat → Nat} (X : zX G Z cX11_heights 5 RX11 wsX11_heights) (p1 : Int32) {post : (Nat → Nat → Int32) → Prop} (hR : zRv G Z rmX11_heights 5 zTR ad ln cX11_heights post) (x2 x3 : Int32) (al : Nat → Nat → Int32) (h : vcX11_heights_119 G  ad ln p1 (BX11_heights_2 G Z  ad ln p1) (BX11_heights_25 G Z  ad ln p1) (BX11_heights_33 G Z  ad ln p1) post x2 x3 al) : zB G Z rmX11_heights 5 zTR ad ln 0 0 119 [(0, .ref (ad 0)), (1, .int p1), (2, .int x2), (3, .int x3)] [] al := tX11_heights_119 X p1 hR (fun _ _ h => h) (fun _ _ h => h) (fun _ _ _ h => h) x2 x3 al h
theorem uX11_heights_33 {G : zG} {Z : zC}  {ad ln : Nat → Nat} (X : zX G Z cX11_heights 5 RX11 wsX11_heights) (p1 : Int32) {post : (Nat → Nat → Int32) → Prop} (hR : zRv G Z rmX11_heights 5 zTR ad ln cX11_heights post) (x2 x3 : Int32) (al : Nat → Nat → Int32) (h : vcX11_heights_33 G  ad ln p1 (BX11_heights_2 G Z  ad ln p1) (BX11_heights_25 G Z  ad ln p1) (BX11_heights_33 G Z  ad ln p1) post x2 x3 al) : zB G Z rmX11_heights 5 zTR ad ln 0 0 33 [(0, .ref (ad 0)), (1, .int p1), (2, .int x2), (3, .int x3)] [] al := tX11_heights_33 X p1 hR (fun _ _ h => h) (fun _ _ h => h) (fun _ _ _ h => h) x2 x3 al h

abbrev rmX11_used : Room := { frames := 2, cells := 0, slots := 0, locals := 43 }
theorem kX11_used_0 : Cond.fieldLink RX11 137 RX11 "rows" "I" ∈ wsX11_used := by decide +kernel
theorem kX11_used_1 : zIn RX11 TX11 51 wsX11_used := by decide +kernel
theorem kX11_used_2 : Cond.fieldLink RX11 189 RX11 "cycle" "[I" ∈ wsX11_used := by decide +kernel
abbrev BX11_used_6 (G : zG) (Z : zC)  (ad ln : Nat → Nat) (p1 : Int32) (p2 : Int32) (p3 : Int32) (p4 : Int32) (x5 x6 : Int32) (al : Nat → Nat → Int32) : Prop := zB G Z rmX11_used 7 zTR ad ln 0 0 6 [(0, .ref (ad 0)), (1, .int p1), (2, .int p2), (3, .int p3), (4, .int p4), (5, .int x5), (6, .int x6)] [] al
def vcX11_used_0 (G : zG)  (ad ln : Nat → Nat) (p1 : Int32) (p2 : Int32) (p3 : Int32) (p4 : Int32) (K6 : Int32 → Int32 → (Nat → Nat → Int32) → Prop) (post : Int32 → (Nat → Nat → Int32) → Prop) (al : Nat → Nat → Int32) : Prop :=
  K6 (0 : Int32) (0 : Int32) al
def vcX11_used_65 (G : zG)  (ad ln : Nat → Nat) (p1 : Int32) (p2 : Int32) (p3 : Int32) (p4 : Int32) (K6 : Int32 → Int32 → (Nat → Nat → Int32) → Prop) (post : Int32 → (Nat → Nat → Int32) → Prop) (x6 s0 s1 : Int32) (al : Nat → Nat → Int32) : Prop :=
  K6 (s1 + s0) (x6 + (1 : Int32)) al
def vcX11_used_64 (G : zG)  (ad ln : Nat → Nat) (p1 : Int32) (p2 : Int32) (p3 : Int32) (p4 : Int32) (K6 : Int32 → Int32 → (Nat → Nat → Int32) → Prop) (post : Int32 → (Nat → Nat → Int32) → Prop) (x6 s0 : Int32) (al : Nat → Nat → Int32) : Prop :=
  vcX11_used_65 G  ad ln p1 p2 p3 p4 K6 post x6 (0 : Int32) s0 al
def vcX11_used_6 (G : zG)  (ad ln : Nat → Nat) (p1 : Int32) (p2 : Int32) (p3 : Int32) (p4 : Int32) (K6 : Int32 → Int32 → (Nat → Nat → Int32) → Prop) (post : Int32 → (Nat → Nat → Int32) → Prop) (x5 x6 : Int32) (al : Nat → Nat → Int32) : Prop :=
  ((al 0 9) ≤ x6 → post x5 al) ∧ (¬ (al 0 9) ≤ x6 → (x6 = p1 → vcX11_used_64 G  ad ln p1 p2 p3 p4 K6 post x6 x5 al) ∧ (¬ x6 = p1 → (vp_in x6 48 ∧ ((al 17 x6.toNatClampNeg) < 0 → vcX11_used_64 G  ad ln p1 p2 p3 p4 K6 post x6 x5 al) ∧ (¬ (al 17 x6.toNatClampNeg) < 0 → (vp_in x6 48 ∧ ¬ p4 = 0 ∧ ¬ p4 = 0 ∧ (¬ ((al 17 x6.toNatClampNeg) - (al 17 x6.toNatClampNeg) / p4 * p4) = (p2 - p2 / p4 * p4) → vcX11_used_64 G  ad ln p1 p2 p3 p4 K6 post x6 x5 al) ∧ (((al 17 x6.toNatClampNeg) - (al 17 x6.toNatClampNeg) / p4 * p4) = (p2 - p2 / p4 * p4) → zMi G yX11_isIn wsX11_isIn rmX11_isIn zTR ad ln [.ref (ad 0), .int x6, .int p3] al (fun q5 a5 => (q5 = 0 → vcX11_used_64 G  ad ln p1 p2 p3 p4 K6 post x6 x5 a5) ∧ (¬ q5 = 0 → vcX11_used_65 G  ad ln p1 p2 p3 p4 K6 post x6 (1 : Int32) x5 a5))))))))
set_option maxRecDepth 20000 in
theorem tX11_used_0 {G : zG} {Z : zC}  {ad ln : Nat → Nat} (X : zX G Z cX11_used 7 RX11 wsX11_used) (p1 : Int32) (p2 : Int32) (p3 : Int32) (p4 : Int32) {K6 : Int32 → Int32 → (Nat → Nat → Int32) → Prop} {post : Int32 → (Nat → Nat → Int32) → Prop} (hR : zRi G Z rmX11_used 7 zTR ad ln cX11_used .int post) (hK6 : ∀ x5 x6 : Int32, ∀ al, K6 x5 x6 al → zB G Z rmX11_used 7 zTR ad ln 0 0 6 [(0, .ref (ad 0)), (1, .int p1), (2, .int p2), (3, .int p3), (4, .int p4), (5, .int x5), (6, .int x6)] [] al) (al : Nat → Nat → Int32) (h : vcX11_used_0 G  ad ln p1 p2 p3 p4 K6 post  al) : zB G Z rmX11_used 7 zTR ad ln 0 0 0 [(0, .ref (ad 0)), (1, .int p1), (2, .int p2), (3, .int p3), (4, .int p4)] [] al := by
  unfold vcX11_used_0 at h
  refine zb_iconst X (0 : Int32) dX11_used_0 (by decide) ?_
  refine zb_istore X (lv' := [(5, .int (0 : Int32)), (0, .ref (ad 0)), (1, .int p1), (2, .int p2), (3, .int p3), (4, .int p4)]) dX11_used_1 (by decide) rfl ?_
  refine zb_iconst X (0 : Int32) dX11_used_3 (by decide) ?_
  refine zb_istore X (lv' := [(6, .int (0 : Int32)), (5, .int (0 : Int32)), (0, .ref (ad 0)), (1, .int p1), (2, .int p2), (3, .int p3), (4, .int p4)]) dX11_used_4 (by decide) rfl ?_
  refine zb_sub [2, 3, 4, 5, 6, 1, 0] rfl ?_
  exact hK6 (0 : Int32) (0 : Int32) al h
set_option maxRecDepth 20000 in
theorem tX11_used_65 {G : zG} {Z : zC}  {ad ln : Nat → Nat} (X : zX G Z cX11_used 7 RX11 wsX11_used) (p1 : Int32) (p2 : Int32) (p3 : Int32) (p4 : Int32) {K6 : Int32 → Int32 → (Nat → Nat → Int32) → Prop} {post : Int32 → (Nat → Nat → Int32) → Prop} (hR : zRi G Z rmX11_used 7 zTR ad ln cX11_used .int post) (hK6 : ∀ x5 x6 : Int32, ∀ al, K6 x5 x6 al → zB G Z rmX11_used 7 zTR ad ln 0 0 6 [(0, .ref (ad 0)), (1, .int p1), (2, .int p2), (3, .int p3), (4, .int p4), (5, .int x5), (6, .int x6)] [] al) (x6 s0 s1 : Int32) (al : Nat → Nat → Int32) (h : vcX11_used_65 G  ad ln p1 p2 p3 p4 K6 post x6 s0 s1 al) : zB G Z rmX11_used 7 zTR ad ln 0 0 65 [(0, .ref (ad 0)), (1, .int p1), (2, .int p2), (3, .int p3), (4, .int p4), (6, .int x6)] [.int s0, .int s1] al := by
  unfold vcX11_used_65 at h
  refine zb_iadd X dX11_used_65 ?_
  refine zb_istore X (lv' := [(5, .int (s1 + s0)), (0, .ref (ad 0)), (1, .int p1), (2, .int p2), (3, .int p3), (4, .int p4), (6, .int x6)]) dX11_used_66 (by decide) rfl ?_
  refine zb_iinc X (lv' := [(6, .int (x6 + (1 : Int32))), (5, .int (s1 + s0)), (0, .ref (ad 0)), (1, .int p1), (2, .int p2), (3, .int p3), (4, .int p4)]) (x6 + (1 : Int32)) dX11_used_68 6 rfl rfl (by decide) rfl ?_
  refine zb_goto X 6 dX11_used_71 (by decide) ?_
  refine zb_sub [2, 3, 4, 5, 6, 1, 0] rfl ?_
  exact hK6 (s1 + s0) (x6 + (1 : Int32)) al h
set_option maxRecDepth 20000 in
theorem tX11_used_64 {G : zG} {Z : zC}  {ad ln : Nat → Nat} (X : zX G Z cX11_used 7 RX11 wsX11_used) (p1 : Int32) (p2 : Int32) (p3 : Int32) (p4 : Int32) {K6 : Int32 → Int32 → (Nat → Nat → Int32) → Prop} {post : Int32 → (Nat → Nat → Int32) → Prop} (hR : zRi G Z rmX11_used 7 zTR ad ln cX11_used .int post) (hK6 : ∀ x5 x6 : Int32, ∀ al, K6 x5 x6 al → zB G Z rmX11_used 7 zTR ad ln 0 0 6 [(0, .ref (ad 0)), (1, .int p1), (2, .int p2), (3, .int p3), (4, .int p4), (5, .int x5), (6, .int x6)] [] al) (x6 s0 : Int32) (al : Nat → Nat → Int32) (h : vcX11_used_64 G  ad ln p1 p2 p3 p4 K6 post x6 s0 al) : zB G Z rmX11_used 7 zTR ad ln 0 0 64 [(0, .ref (ad 0)), (1, .int p1), (2, .int p2), (3, .int p3), (4, .int p4), (6, .int x6)] [.int s0] al := by
  unfold vcX11_used_64 at h
  refine zb_iconst X (0 : Int32) dX11_used_64 (by decide) ?_
  refine zb_sub [0, 1, 2, 3, 4, 5] rfl ?_
  exact tX11_used_65 X p1 p2 p3 p4 hR hK6 x6 (0 : Int32) s0 al h
set_option maxRecDepth 20000 in
theorem tX11_used_6 {G : zG} {Z : zC}  {ad ln : Nat → Nat} (X : zX G Z cX11_used 7 RX11 wsX11_used) (p1 : Int32) (p2 : Int32) (p3 : Int32) (p4 : Int32) {K6 : Int32 → Int32 → (Nat → Nat → Int32) → Prop} {post : Int32 → (Nat → Nat → Int32) → Prop} (hR : zRi G Z rmX11_used 7 zTR ad ln cX11_used .int post) (hK6 : ∀ x5 x6 : Int32, ∀ al, K6 x5 x6 al → zB G Z rmX11_used 7 zTR ad ln 0 0 6 [(0, .ref (ad 0)), (1, .int p1), (2, .int p2), (3, .int p3), (4, .int p4), (5, .int x5), (6, .int x6)] [] al) (x5 x6 : Int32) (al : Nat → Nat → Int32) (h : vcX11_used_6 G  ad ln p1 p2 p3 p4 K6 post x5 x6 al) : zB G Z rmX11_used 7 zTR ad ln 0 0 6 [(0, .ref (ad 0)), (1, .int p1), (2, .int p2), (3, .int p3), (4, .int p4), (5, .int x5), (6, .int x6)] [] al := by
  unfold vcX11_used_6 at h
  refine zb_iload X dX11_used_6 6 rfl ?_
  refine zb_aload_n X dX11_used_8 rfl 0 rfl ?_
  refine zb_getI X 0 (by decide) 11 [3, 4, 5, 6, 7, 8, 9, 10, 11, 0, 12, 0, 0, 0, 0, 0, 0, 0, 0, 0, 0, 0, 0, 13, 14, 15, 16, 17, 0, 18, 19, 20, 21, 0, 0, 0, 22, 23, 24, 25, 0, 0, 26, 27, 28, 29, 0, 0, 0, 30, 0] rfl (C := RX11) (Tt := TX11) (N := 51) rfl kX11_used_1 9 (by decide) rfl kX11_used_0 rfl dX11_used_9 (al 0 9) rfl ?_
  refine zb_icmp_ge X 74 dX11_used_12 (by decide) (fun c1 => ?_) (fun c1 => ?_)
  · have h := h.1 c1
    refine zb_iload X dX11_used_74 5 rfl ?_
    exact hR 76 _ _ _ dX11_used_76 rfl h
  · have h := h.2 c1
    refine zb_iload X dX11_used_15 5 rfl ?_
    refine zb_iload X dX11_used_17 6 rfl ?_
    refine zb_iload_n X dX11_used_19 rfl 1 rfl ?_
    refine zb_icmp_eq X 64 dX11_used_20 (by decide) (fun c2 => ?_) (fun c2 => ?_)
    · have h := h.1 c2
      refine zb_sub [0, 1, 2, 3, 4, 6] rfl ?_
      exact tX11_used_64 X p1 p2 p3 p4 hR hK6 x6 x5 al h
    · have h := h.2 c2
      refine zb_aload_n X dX11_used_23 rfl 0 rfl ?_
      refine zb_getR X 0 (by decide) 11 [3, 4, 5, 6, 7, 8, 9, 10, 11, 0, 12, 0, 0, 0, 0, 0, 0, 0, 0, 0, 0, 0, 0, 13, 14, 15, 16, 17, 0, 18, 19, 20, 21, 0, 0, 0, 22, 23, 24, 25, 0, 0, 26, 27, 28, 29, 0, 0, 0, 30, 0] rfl (C := RX11) (Tt := TX11) (N := 51) rfl kX11_used_1 30 (by decide) 17 rfl kX11_used_2 rfl dX11_used_24 ?_
      refine zb_iload X dX11_used_27 6 rfl ?_
      obtain ⟨hz, h⟩ := h
      refine zb_iald X 17 (by decide) 1 48 0 0 rfl (Or.inl rfl) x6.toNatClampNeg rfl hz dX11_used_29 (al 17 x6.toNatClampNeg) rfl ?_
      refine zb_if_lt X 64 dX11_used_30 (by decide) (fun c3 => ?_) (fun c3 => ?_)
      · have h := h.1 c3
        refine zb_sub [0, 1, 2, 3, 4, 6] rfl ?_
        exact tX11_used_64 X p1 p2 p3 p4 hR hK6 x6 x5 al h
      · have h := h.2 c3
        refine zb_aload_n X dX11_used_33 rfl 0 rfl ?_
        refine zb_getR X 0 (by decide) 11 [3, 4, 5, 6, 7, 8, 9, 10, 11, 0, 12, 0, 0, 0, 0, 0, 0, 0, 0, 0, 0, 0, 0, 13, 14, 15, 16, 17, 0, 18, 19, 20, 21, 0, 0, 0, 22, 23, 24, 25, 0, 0, 26, 27, 28, 29, 0, 0, 0, 30, 0] rfl (C := RX11) (Tt := TX11) (N := 51) rfl kX11_used_1 30 (by decide) 17 rfl kX11_used_2 rfl dX11_used_34 ?_
        refine zb_iload X dX11_used_37 6 rfl ?_
        obtain ⟨hz, h⟩ := h
        refine zb_iald X 17 (by decide) 1 48 0 0 rfl (Or.inl rfl) x6.toNatClampNeg rfl hz dX11_used_39 (al 17 x6.toNatClampNeg) rfl ?_
        refine zb_iload X dX11_used_40 4 rfl ?_
        obtain ⟨hz, h⟩ := h
        refine zb_irem X dX11_used_42 hz ?_
        refine zb_iload_n X dX11_used_43 rfl 2 rfl ?_
        refine zb_iload X dX11_used_44 4 rfl ?_
        obtain ⟨hz, h⟩ := h
        refine zb_irem X dX11_used_46 hz ?_
        refine zb_icmp_ne X 64 dX11_used_47 (by decide) (fun c4 => ?_) (fun c4 => ?_)
        · have h := h.1 c4
          refine zb_sub [0, 1, 2, 3, 4, 6] rfl ?_
          exact tX11_used_64 X p1 p2 p3 p4 hR hK6 x6 x5 al h
        · have h := h.2 c4
          refine zb_aload_n X dX11_used_50 rfl 0 rfl ?_
          refine zb_iload X dX11_used_51 6 rfl ?_
          refine zb_iload_n X dX11_used_53 rfl 3 rfl ?_
          refine zb_callVi (n := 2) X 0 (by decide) 11 [3, 4, 5, 6, 7, 8, 9, 10, 11, 0, 12, 0, 0, 0, 0, 0, 0, 0, 0, 0, 0, 0, 0, 13, 14, 15, 16, 17, 0, 18, 19, 20, 21, 0, 0, 0, 22, 23, 24, 25, 0, 0, 26, 27, 28, 29, 0, 0, 0, 30, 0] rfl (C := RX11) (Tt := TX11) (N := 51) rfl h gX11_used_X11_isIn rfl (by decide +kernel) (by decide) rfl rfl (Nat.le_of_ble_eq_true rfl) dX11_used_54 (kc' := 0) (ks' := 0) rfl rfl (fun q5 a5 h => ?_)
          refine zb_if_eq X 64 dX11_used_57 (by decide) (fun c6 => ?_) (fun c6 => ?_)
          · have h := h.1 c6
            refine zb_sub [0, 1, 2, 3, 4, 6] rfl ?_
            exact tX11_used_64 X p1 p2 p3 p4 hR hK6 x6 x5 a5 h
          · have h := h.2 c6
            refine zb_iconst X (1 : Int32) dX11_used_60 (by decide) ?_
            refine zb_goto X 65 dX11_used_61 (by decide) ?_
            refine zb_sub [0, 1, 2, 3, 4, 6] rfl ?_
            exact tX11_used_65 X p1 p2 p3 p4 hR hK6 x6 (1 : Int32) x5 a5 h
theorem uX11_used_0 {G : zG} {Z : zC}  {ad ln : Nat → Nat} (X : zX G Z cX11_used 7 RX11 wsX11_used) (p1 : Int32) (p2 : Int32) (p3 : Int32) (p4 : Int32) {post : Int32 → (Nat → Nat → Int32) → Prop} (hR : zRi G Z rmX11_used 7 zTR ad ln cX11_used .int post) (al : Nat → Nat → Int32) (h : vcX11_used_0 G  ad ln p1 p2 p3 p4 (BX11_used_6 G Z  ad ln p1 p2 p3 p4) post  al) : zB G Z rmX11_used 7 zTR ad ln 0 0 0 [(0, .ref (ad 0)), (1, .int p1), (2, .int p2), (3, .int p3), (4, .int p4)] [] al := tX11_used_0 X p1 p2 p3 p4 hR (fun _ _ _ h => h)  al h
theorem uX11_used_65 {G : zG} {Z : zC}  {ad ln : Nat → Nat} (X : zX G Z cX11_used 7 RX11 wsX11_used) (p1 : Int32) (p2 : Int32) (p3 : Int32) (p4 : Int32) {post : Int32 → (Nat → Nat → Int32) → Prop} (hR : zRi G Z rmX11_used 7 zTR ad ln cX11_used .int post) (x6 s0 s1 : Int32) (al : Nat → Nat → Int32) (h : vcX11_used_65 G  ad ln p1 p2 p3 p4 (BX11_used_6 G Z  ad ln p1 p2 p3 p4) post x6 s0 s1 al) : zB G Z rmX11_used 7 zTR ad ln 0 0 65 [(0, .ref (ad 0)), (1, .int p1), (2, .int p2), (3, .int p3), (4, .int p4), (6, .int x6)] [.int s0, .int s1] al := tX11_used_65 X p1 p2 p3 p4 hR (fun _ _ _ h => h) x6 s0 s1 al h
theorem uX11_used_64 {G : zG} {Z : zC}  {ad ln : Nat → Nat} (X : zX G Z cX11_used 7 RX11 wsX11_used) (p1 : Int32) (p2 : Int32) (p3 : Int32) (p4 : Int32) {post : Int32 → (Nat → Nat → Int32) → Prop} (hR : zRi G Z rmX11_used 7 zTR ad ln cX11_used .int post) (x6 s0 : Int32) (al : Nat → Nat → Int32) (h : vcX11_used_64 G  ad ln p1 p2 p3 p4 (BX11_used_6 G Z  ad ln p1 p2 p3 p4) post x6 s0 al) : zB G Z rmX11_used 7 zTR ad ln 0 0 64 [(0, .ref (ad 0)), (1, .int p1), (2, .int p2), (3, .int p3), (4, .int p4), (6, .int x6)] [.int s0] al := tX11_used_64 X p1 p2 p3 p4 hR (fun _ _ _ h => h) x6 s0 al h
theorem uX11_used_6 {G : zG} {Z : zC}  {ad ln : Nat → Nat} (X : zX G Z cX11_used 7 RX11 wsX11_used) (p1 : Int32) (p2 : Int32) (p3 : Int32) (p4 : Int32) {post : Int32 → (Nat → Nat → Int32) → Prop} (hR : zRi G Z rmX11_used 7 zTR ad ln cX11_used .int post) (x5 x6 : Int32) (al : Nat → Nat → Int32) (h : vcX11_used_6 G  ad ln p1 p2 p3 p4 (BX11_used_6 G Z  ad ln p1 p2 p3 p4) post x5 x6 al) : zB G Z rmX11_used 7 zTR ad ln 0 0 6 [(0, .ref (ad 0)), (1, .int p1), (2, .int p2), (3, .int p3), (4, .int p4), (5, .int x5), (6, .int x6)] [] al := tX11_used_6 X p1 p2 p3 p4 hR (fun _ _ _ h => h) x5 x6 al h

abbrev rmX11_full : Room := { frames := 3, cells := 0, slots := 0, locals := 69 }
abbrev BX11_full_3 (G : zG) (Z : zC)  (ad ln : Nat → Nat) (p1 : Int32) (p2 : Int32) (p3 : Int32) (x4 : Int32) (al : Nat → Nat → Int32) : Prop := zB G Z rmX11_full 5 zTR ad ln 0 0 3 [(0, .ref (ad 0)), (1, .int p1), (2, .int p2), (3, .int p3), (4, .int x4)] [] al
def vcX11_full_0 (G : zG)  (ad ln : Nat → Nat) (p1 : Int32) (p2 : Int32) (p3 : Int32) (K3 : Int32 → (Nat → Nat → Int32) → Prop) (post : Int32 → (Nat → Nat → Int32) → Prop) (al : Nat → Nat → Int32) : Prop :=
  K3 (0 : Int32) al
def vcX11_full_40 (G : zG)  (ad ln : Nat → Nat) (p1 : Int32) (p2 : Int32) (p3 : Int32) (K3 : Int32 → (Nat → Nat → Int32) → Prop) (post : Int32 → (Nat → Nat → Int32) → Prop) (x4 : Int32) (al : Nat → Nat → Int32) : Prop :=
  K3 (x4 + (1 : Int32)) al
def vcX11_full_3 (G : zG)  (ad ln : Nat → Nat) (p1 : Int32) (p2 : Int32) (p3 : Int32) (K3 : Int32 → (Nat → Nat → Int32) → Prop) (post : Int32 → (Nat → Nat → Int32) → Prop) (x4 : Int32) (al : Nat → Nat → Int32) : Prop :=
  ((4 : Int32) ≤ x4 → post (-1 : Int32) al) ∧ (¬ (4 : Int32) ≤ x4 → zMi G yX11_isIn wsX11_isIn rmX11_isIn zTR ad ln [.ref (ad 0), .int p1, .int x4] al (fun q2 a2 => (q2 = 0 → vcX11_full_40 G  ad ln p1 p2 p3 K3 post x4 a2) ∧ (¬ q2 = 0 → zMi G yX11_used wsX11_used rmX11_used zTR ad ln [.ref (ad 0), .int p1, .int p2, .int x4, .int p3] a2 (fun q4 a4 => zMi G yX11_room wsX11_room rmX11_room zTR ad ln [.ref (ad 0), .int x4] a4 (fun q5 a5 => (q4 < q5 → vcX11_full_40 G  ad ln p1 p2 p3 K3 post x4 a5) ∧ (¬ q4 < q5 → post x4 a5))))))
set_option maxRecDepth 20000 in
theorem tX11_full_0 {G : zG} {Z : zC}  {ad ln : Nat → Nat} (X : zX G Z cX11_full 5 RX11 wsX11_full) (p1 : Int32) (p2 : Int32) (p3 : Int32) {K3 : Int32 → (Nat → Nat → Int32) → Prop} {post : Int32 → (Nat → Nat → Int32) → Prop} (hR : zRi G Z rmX11_full 5 zTR ad ln cX11_full .int post) (hK3 : ∀ x4 : Int32, ∀ al, K3 x4 al → zB G Z rmX11_full 5 zTR ad ln 0 0 3 [(0, .ref (ad 0)), (1, .int p1), (2, .int p2), (3, .int p3), (4, .int x4)] [] al) (al : Nat → Nat → Int32) (h : vcX11_full_0 G  ad ln p1 p2 p3 K3 post  al) : zB G Z rmX11_full 5 zTR ad ln 0 0 0 [(0, .ref (ad 0)), (1, .int p1), (2, .int p2), (3, .int p3)] [] al := by
  unfold vcX11_full_0 at h
  refine zb_iconst X (0 : Int32) dX11_full_0 (by decide) ?_
  refine zb_istore X (lv' := [(4, .int (0 : Int32)), (0, .ref (ad 0)), (1, .int p1), (2, .int p2), (3, .int p3)]) dX11_full_1 (by decide) rfl ?_
  refine zb_sub [1, 2, 3, 4, 0] rfl ?_
  exact hK3 (0 : Int32) al h
set_option maxRecDepth 20000 in
theorem tX11_full_40 {G : zG} {Z : zC}  {ad ln : Nat → Nat} (X : zX G Z cX11_full 5 RX11 wsX11_full) (p1 : Int32) (p2 : Int32) (p3 : Int32) {K3 : Int32 → (Nat → Nat → Int32) → Prop} {post : Int32 → (Nat → Nat → Int32) → Prop} (hR : zRi G Z rmX11_full 5 zTR ad ln cX11_full .int post) (hK3 : ∀ x4 : Int32, ∀ al, K3 x4 al → zB G Z rmX11_full 5 zTR ad ln 0 0 3 [(0, .ref (ad 0)), (1, .int p1), (2, .int p2), (3, .int p3), (4, .int x4)] [] al) (x4 : Int32) (al : Nat → Nat → Int32) (h : vcX11_full_40 G  ad ln p1 p2 p3 K3 post x4 al) : zB G Z rmX11_full 5 zTR ad ln 0 0 40 [(0, .ref (ad 0)), (1, .int p1), (2, .int p2), (3, .int p3), (4, .int x4)] [] al := by
  unfold vcX11_full_40 at h
  refine zb_iinc X (lv' := [(4, .int (x4 + (1 : Int32))), (0, .ref (ad 0)), (1, .int p1), (2, .int p2), (3, .int p3)]) (x4 + (1 : Int32)) dX11_full_40 4 rfl rfl (by decide) rfl ?_
  refine zb_goto X 3 dX11_full_43 (by decide) ?_
  refine zb_sub [1, 2, 3, 4, 0] rfl ?_
  exact hK3 (x4 + (1 : Int32)) al h
set_option maxRecDepth 20000 in
theorem tX11_full_3 {G : zG} {Z : zC}  {ad ln : Nat → Nat} (X : zX G Z cX11_full 5 RX11 wsX11_full) (p1 : Int32) (p2 : Int32) (p3 : Int32) {K3 : Int32 → (Nat → Nat → Int32) → Prop} {post : Int32 → (Nat → Nat → Int32) → Prop} (hR : zRi G Z rmX11_full 5 zTR ad ln cX11_full .int post) (hK3 : ∀ x4 : Int32, ∀ al, K3 x4 al → zB G Z rmX11_full 5 zTR ad ln 0 0 3 [(0, .ref (ad 0)), (1, .int p1), (2, .int p2), (3, .int p3), (4, .int x4)] [] al) (x4 : Int32) (al : Nat → Nat → Int32) (h : vcX11_full_3 G  ad ln p1 p2 p3 K3 post x4 al) : zB G Z rmX11_full 5 zTR ad ln 0 0 3 [(0, .ref (ad 0)), (1, .int p1), (2, .int p2), (3, .int p3), (4, .int x4)] [] al := by
  unfold vcX11_full_3 at h
  refine zb_iload X dX11_full_3 4 rfl ?_
  refine zb_iconst X (4 : Int32) dX11_full_5 (by decide) ?_
  refine zb_icmp_ge X 46 dX11_full_6 (by decide) (fun c1 => ?_) (fun c1 => ?_)
  · have h := h.1 c1
    refine zb_iconst X (-1 : Int32) dX11_full_46 (by decide) ?_
    exact hR 47 _ _ _ dX11_full_47 rfl h
  · have h := h.2 c1
    refine zb_aload_n X dX11_full_9 rfl 0 rfl ?_
    refine zb_iload_n X dX11_full_10 rfl 1 rfl ?_
    refine zb_iload X dX11_full_11 4 rfl ?_
    refine zb_callVi (n := 2) X 0 (by decide) 11 [3, 4, 5, 6, 7, 8, 9, 10, 11, 0, 12, 0, 0, 0, 0, 0, 0, 0, 0, 0, 0, 0, 0, 13, 14, 15, 16, 17, 0, 18, 19, 20, 21, 0, 0, 0, 22, 23, 24, 25, 0, 0, 26, 27, 28, 29, 0, 0, 0, 30, 0] rfl (C := RX11) (Tt := TX11) (N := 51) rfl h gX11_full_X11_isIn rfl (by decide +kernel) (by decide) rfl rfl (Nat.le_of_ble_eq_true rfl) dX11_full_13 (kc' := 0) (ks' := 0) rfl rfl (fun q2 a2 h => ?_)
    refine zb_if_eq X 40 dX11_full_16 (by decide) (fun c3 => ?_) (fun c3 => ?_)
    · have h := h.1 c3
      refine zb_sub [0, 1, 2, 3, 4] rfl ?_
      exact tX11_full_40 X p1 p2 p3 hR hK3 x4 a2 h
    · have h := h.2 c3
      refine zb_aload_n X dX11_full_19 rfl 0 rfl ?_
      refine zb_iload_n X dX11_full_20 rfl 1 rfl ?_
      refine zb_iload_n X dX11_full_21 rfl 2 rfl ?_
      refine zb_iload X dX11_full_22 4 rfl ?_
      refine zb_iload_n X dX11_full_24 rfl 3 rfl ?_
      refine zb_callVi (n := 4) X 0 (by decide) 11 [3, 4, 5, 6, 7, 8, 9, 10, 11, 0, 12, 0, 0, 0, 0, 0, 0, 0, 0, 0, 0, 0, 0, 13, 14, 15, 16, 17, 0, 18, 19, 20, 21, 0, 0, 0, 22, 23, 24, 25, 0, 0, 26, 27, 28, 29, 0, 0, 0, 30, 0] rfl (C := RX11) (Tt := TX11) (N := 51) rfl h gX11_full_X11_used rfl (by decide +kernel) (by decide) rfl rfl (Nat.le_of_ble_eq_true rfl) dX11_full_25 (kc' := 0) (ks' := 0) rfl rfl (fun q4 a4 h => ?_)
      refine zb_aload_n X dX11_full_28 rfl 0 rfl ?_
      refine zb_iload X dX11_full_29 4 rfl ?_
      refine zb_callVi (n := 1) X 0 (by decide) 11 [3, 4, 5, 6, 7, 8, 9, 10, 11, 0, 12, 0, 0, 0, 0, 0, 0, 0, 0, 0, 0, 0, 0, 13, 14, 15, 16, 17, 0, 18, 19, 20, 21, 0, 0, 0, 22, 23, 24, 25, 0, 0, 26, 27, 28, 29, 0, 0, 0, 30, 0] rfl (C := RX11) (Tt := TX11) (N := 51) rfl h gX11_full_X11_room rfl (by decide +kernel) (by decide) rfl rfl (Nat.le_of_ble_eq_true rfl) dX11_full_31 (kc' := 0) (ks' := 0) rfl rfl (fun q5 a5 h => ?_)
      refine zb_icmp_lt X 40 dX11_full_34 (by decide) (fun c6 => ?_) (fun c6 => ?_)
      · have h := h.1 c6
        refine zb_sub [0, 1, 2, 3, 4] rfl ?_
        exact tX11_full_40 X p1 p2 p3 hR hK3 x4 a5 h
      · have h := h.2 c6
        refine zb_iload X dX11_full_37 4 rfl ?_
        exact hR 39 _ _ _ dX11_full_39 rfl h
theorem uX11_full_0 {G : zG} {Z : zC}  {ad ln : Nat → Nat} (X : zX G Z cX11_full 5 RX11 wsX11_full) (p1 : Int32) (p2 : Int32) (p3 : Int32) {post : Int32 → (Nat → Nat → Int32) → Prop} (hR : zRi G Z rmX11_full 5 zTR ad ln cX11_full .int post) (al : Nat → Nat → Int32) (h : vcX11_full_0 G  ad ln p1 p2 p3 (BX11_full_3 G Z  ad ln p1 p2 p3) post  al) : zB G Z rmX11_full 5 zTR ad ln 0 0 0 [(0, .ref (ad 0)), (1, .int p1), (2, .int p2), (3, .int p3)] [] al := tX11_full_0 X p1 p2 p3 hR (fun _ _ h => h)  al h
theorem uX11_full_40 {G : zG} {Z : zC}  {ad ln : Nat → Nat} (X : zX G Z cX11_full 5 RX11 wsX11_full) (p1 : Int32) (p2 : Int32) (p3 : Int32) {post : Int32 → (Nat → Nat → Int32) → Prop} (hR : zRi G Z rmX11_full 5 zTR ad ln cX11_full .int post) (x4 : Int32) (al : Nat → Nat → Int32) (h : vcX11_full_40 G  ad ln p1 p2 p3 (BX11_full_3 G Z  ad ln p1 p2 p3) post x4 al) : zB G Z rmX11_full 5 zTR ad ln 0 0 40 [(0, .ref (ad 0)), (1, .int p1), (2, .int p2), (3, .int p3), (4, .int x4)] [] al := tX11_full_40 X p1 p2 p3 hR (fun _ _ h => h) x4 al h
theorem uX11_full_3 {G : zG} {Z : zC}  {ad ln : Nat → Nat} (X : zX G Z cX11_full 5 RX11 wsX11_full) (p1 : Int32) (p2 : Int32) (p3 : Int32) {post : Int32 → (Nat → Nat → Int32) → Prop} (hR : zRi G Z rmX11_full 5 zTR ad ln cX11_full .int post) (x4 : Int32) (al : Nat → Nat → Int32) (h : vcX11_full_3 G  ad ln p1 p2 p3 (BX11_full_3 G Z  ad ln p1 p2 p3) post x4 al) : zB G Z rmX11_full 5 zTR ad ln 0 0 3 [(0, .ref (ad 0)), (1, .int p1), (2, .int p2), (3, .int p3), (4, .int x4)] [] al := tX11_full_3 X p1 p2 p3 hR (fun _ _ h => h) x4 al h

abbrev rmX11_put : Room := { frames := 4, cells := 0, slots := 0, locals := 93 }
theorem kX11_put_0 : Cond.fieldLink RX11 119 RX11 "waits" "I" ∈ wsX11_put := by decide +kernel
theorem kX11_put_1 : zIn RX11 TX11 51 wsX11_put := by decide +kernel
theorem kX11_put_2 : Cond.fieldLink RX11 125 RX11 "waitY" "[I" ∈ wsX11_put := by decide +kernel
theorem kX11_put_3 : Cond.fieldLink RX11 122 RX11 "waitX" "[I" ∈ wsX11_put := by decide +kernel
theorem kX11_put_4 : Cond.fieldLink RX11 189 RX11 "cycle" "[I" ∈ wsX11_put := by decide +kernel
theorem kX11_put_5 : Cond.fieldLink RX11 131 RX11 "waitDelay" "[I" ∈ wsX11_put := by decide +kernel
theorem kX11_put_6 : Cond.fieldLink RX11 128 RX11 "waitD" "[I" ∈ wsX11_put := by decide +kernel
theorem kX11_put_7 : Cond.methodLink RX11 134 Lib.Math.max.name ∈ wsX11_put := by decide +kernel
theorem kX11_put_8 : Cond.static Lib.Math.max.name ∈ wsX11_put := by decide +kernel
theorem kX11_put_9 : Cond.initialized "java/lang/Math" ∈ wsX11_put := by decide +kernel
theorem kX11_put_10 : Cond.code Lib.Math.max.name Lib.Math.max.code 2 (some .int) ∈ wsX11_put := by decide +kernel
theorem kX11_put_11 : Cond.fieldLink RX11 199 RX11 "latest" "[I" ∈ wsX11_put := by decide +kernel
theorem kX11_put_12 : Cond.fieldLink RX11 137 RX11 "rows" "I" ∈ wsX11_put := by decide +kernel
abbrev BX11_put_287 (G : zG) (Z : zC)  (ad ln : Nat → Nat) (p1 : Int32) (p2 : Int32) (x5 : Int32) (al : Nat → Nat → Int32) : Prop := zB G Z rmX11_put 8 zTR ad ln 0 0 287 [(0, .ref (ad 0)), (1, .int p1), (2, .int p2), (5, .int x5)] [] al
abbrev BX11_put_214 (G : zG) (Z : zC)  (ad ln : Nat → Nat) (p1 : Int32) (p2 : Int32) (x4 x5 x6 : Int32) (al : Nat → Nat → Int32) : Prop := zB G Z rmX11_put 8 zTR ad ln 0 0 214 [(0, .ref (ad 0)), (1, .int p1), (2, .int p2), (4, .int x4), (5, .int x5), (6, .int x6)] [] al
abbrev BX11_put_201 (G : zG) (Z : zC)  (ad ln : Nat → Nat) (p1 : Int32) (p2 : Int32) (x4 x5 : Int32) (al : Nat → Nat → Int32) : Prop := zB G Z rmX11_put 8 zTR ad ln 0 0 201 [(0, .ref (ad 0)), (1, .int p1), (2, .int p2), (4, .int x4), (5, .int x5)] [] al
abbrev BX11_put_101 (G : zG) (Z : zC)  (ad ln : Nat → Nat) (p1 : Int32) (p2 : Int32) (x3 x4 x5 : Int32) (al : Nat → Nat → Int32) : Prop := zB G Z rmX11_put 8 zTR ad ln 0 0 101 [(0, .ref (ad 0)), (1, .int p1), (2, .int p2), (3, .int x3), (4, .int x4), (5, .int x5)] [] al
abbrev BX11_put_5 (G : zG) (Z : zC)  (ad ln : Nat → Nat) (p1 : Int32) (p2 : Int32) (x3 x4 : Int32) (al : Nat → Nat → Int32) : Prop := zB G Z rmX11_put 8 zTR ad ln 0 0 5 [(0, .ref (ad 0)), (1, .int p1), (2, .int p2), (3, .int x3), (4, .int x4)] [] al
def vcX11_put_0 (G : zG)  (ad ln : Nat → Nat) (p1 : Int32) (p2 : Int32) (K5 : Int32 → Int32 → (Nat → Nat → Int32) → Prop) (K101 : Int32 → Int32 → Int32 → (Nat → Nat → Int32) → Prop) (K201 : Int32 → Int32 → (Nat → Nat → Int32) → Prop) (K214 : Int32 → Int32 → Int32 → (Nat → Nat → Int32) → Prop) (K287 : Int32 → (Nat → Nat → Int32) → Prop) (post : (Nat → Nat → Int32) → Prop) (al : Nat → Nat → Int32) : Prop :=
  K5 (0 : Int32) (0 : Int32) al
def vcX11_put_89 (G : zG)  (ad ln : Nat → Nat) (p1 : Int32) (p2 : Int32) (K5 : Int32 → Int32 → (Nat → Nat → Int32) → Prop) (K101 : Int32 → Int32 → Int32 → (Nat → Nat → Int32) → Prop) (K201 : Int32 → Int32 → (Nat → Nat → Int32) → Prop) (K214 : Int32 → Int32 → Int32 → (Nat → Nat → Int32) → Prop) (K287 : Int32 → (Nat → Nat → Int32) → Prop) (post : (Nat → Nat → Int32) → Prop) (x3 x4 : Int32) (al : Nat → Nat → Int32) : Prop :=
  K5 x3 (x4 + (1 : Int32)) al
def vcX11_put_5 (G : zG)  (ad ln : Nat → Nat) (p1 : Int32) (p2 : Int32) (K5 : Int32 → Int32 → (Nat → Nat → Int32) → Prop) (K101 : Int32 → Int32 → Int32 → (Nat → Nat → Int32) → Prop) (K201 : Int32 → Int32 → (Nat → Nat → Int32) → Prop) (K214 : Int32 → Int32 → Int32 → (Nat → Nat → Int32) → Prop) (K287 : Int32 → (Nat → Nat → Int32) → Prop) (post : (Nat → Nat → Int32) → Prop) (x3 x4 : Int32) (al : Nat → Nat → Int32) : Prop :=
  ((al 0 28) ≤ x4 → K101 x3 (-1 : Int32) (0 : Int32) al) ∧ (¬ (al 0 28) ≤ x4 → (vp_in x4 4608 ∧ (¬ (al 13 x4.toNatClampNeg) = p1 → vcX11_put_89 G  ad ln p1 p2 K5 K101 K201 K214 K287 post x3 x4 al) ∧ ((al 13 x4.toNatClampNeg) = p1 → (vp_in x4 4608 ∧ ((al 12 x4.toNatClampNeg) = p1 → vcX11_put_89 G  ad ln p1 p2 K5 K101 K201 K214 K287 post x3 x4 al) ∧ (¬ (al 12 x4.toNatClampNeg) = p1 → (vp_in x4 4608 ∧ vp_in (al 12 x4.toNatClampNeg) 48 ∧ (0 ≤ (al 17 ((al 12 x4.toNatClampNeg).toNatClampNeg)) → (vp_in x4 4608 ∧ vp_in (al 12 x4.toNatClampNeg) 48 ∧ vp_in x4 4608 ∧ vp_in x4 4608 ∧ vcX11_put_89 G  ad ln p1 p2 K5 K101 K201 K214 K287 post (if x3 < (((al 17 ((al 12 x4.toNatClampNeg).toNatClampNeg)) + (al 15 x4.toNatClampNeg)) - ((al 14 x4.toNatClampNeg) * p2)) then (((al 17 ((al 12 x4.toNatClampNeg).toNatClampNeg)) + (al 15 x4.toNatClampNeg)) - ((al 14 x4.toNatClampNeg) * p2)) else x3) x4 al)) ∧ (¬ 0 ≤ (al 17 ((al 12 x4.toNatClampNeg).toNatClampNeg)) → vcX11_put_89 G  ad ln p1 p2 K5 K101 K201 K214 K287 post x3 x4 al)))))))
def vcX11_put_175 (G : zG)  (ad ln : Nat → Nat) (p1 : Int32) (p2 : Int32) (K5 : Int32 → Int32 → (Nat → Nat → Int32) → Prop) (K101 : Int32 → Int32 → Int32 → (Nat → Nat → Int32) → Prop) (K201 : Int32 → Int32 → (Nat → Nat → Int32) → Prop) (K214 : Int32 → Int32 → Int32 → (Nat → Nat → Int32) → Prop) (K287 : Int32 → (Nat → Nat → Int32) → Prop) (post : (Nat → Nat → Int32) → Prop) (x4 : Int32) (al : Nat → Nat → Int32) : Prop :=
  (vp_in p1 48 ∧ vp_in p1 48 ∧ zMi G yX11_full wsX11_full rmX11_full zTR ad ln [.ref (ad 0), .int p1, .int x4, .int p2] (up2 (up2 al 17 p1.toNatClampNeg x4) 18 p1.toNatClampNeg x4) (fun q1 a1 => K201 x4 q1 a1))
def vcX11_put_173 (G : zG)  (ad ln : Nat → Nat) (p1 : Int32) (p2 : Int32) (K5 : Int32 → Int32 → (Nat → Nat → Int32) → Prop) (K101 : Int32 → Int32 → Int32 → (Nat → Nat → Int32) → Prop) (K201 : Int32 → Int32 → (Nat → Nat → Int32) → Prop) (K214 : Int32 → Int32 → Int32 → (Nat → Nat → Int32) → Prop) (K287 : Int32 → (Nat → Nat → Int32) → Prop) (post : (Nat → Nat → Int32) → Prop) (s0 : Int32) (al : Nat → Nat → Int32) : Prop :=
  vcX11_put_175 G  ad ln p1 p2 K5 K101 K201 K214 K287 post s0 al
def vcX11_put_172 (G : zG)  (ad ln : Nat → Nat) (p1 : Int32) (p2 : Int32) (K5 : Int32 → Int32 → (Nat → Nat → Int32) → Prop) (K101 : Int32 → Int32 → Int32 → (Nat → Nat → Int32) → Prop) (K201 : Int32 → Int32 → (Nat → Nat → Int32) → Prop) (K214 : Int32 → Int32 → Int32 → (Nat → Nat → Int32) → Prop) (K287 : Int32 → (Nat → Nat → Int32) → Prop) (post : (Nat → Nat → Int32) → Prop) (x3 : Int32) (al : Nat → Nat → Int32) : Prop :=
  vcX11_put_173 G  ad ln p1 p2 K5 K101 K201 K214 K287 post x3 al
def vcX11_put_137 (G : zG)  (ad ln : Nat → Nat) (p1 : Int32) (p2 : Int32) (K5 : Int32 → Int32 → (Nat → Nat → Int32) → Prop) (K101 : Int32 → Int32 → Int32 → (Nat → Nat → Int32) → Prop) (K201 : Int32 → Int32 → (Nat → Nat → Int32) → Prop) (K214 : Int32 → Int32 → Int32 → (Nat → Nat → Int32) → Prop) (K287 : Int32 → (Nat → Nat → Int32) → Prop) (post : (Nat → Nat → Int32) → Prop) (x3 x4 : Int32) (al : Nat → Nat → Int32) : Prop :=
  (0 ≤ x4 → vcX11_put_175 G  ad ln p1 p2 K5 K101 K201 K214 K287 post x4 al) ∧ (¬ 0 ≤ x4 → (vp_in p1 48 ∧ ((al 18 p1.toNatClampNeg) < 0 → vcX11_put_172 G  ad ln p1 p2 K5 K101 K201 K214 K287 post x3 al) ∧ (¬ (al 18 p1.toNatClampNeg) < 0 → (vp_in p1 48 ∧ ((al 18 p1.toNatClampNeg) < x3 → vcX11_put_172 G  ad ln p1 p2 K5 K101 K201 K214 K287 post x3 al) ∧ (¬ (al 18 p1.toNatClampNeg) < x3 → (vp_in p1 48 ∧ vcX11_put_173 G  ad ln p1 p2 K5 K101 K201 K214 K287 post ((al 18 p1.toNatClampNeg) + (1 : Int32)) al))))))
def vcX11_put_131 (G : zG)  (ad ln : Nat → Nat) (p1 : Int32) (p2 : Int32) (K5 : Int32 → Int32 → (Nat → Nat → Int32) → Prop) (K101 : Int32 → Int32 → Int32 → (Nat → Nat → Int32) → Prop) (K201 : Int32 → Int32 → (Nat → Nat → Int32) → Prop) (K214 : Int32 → Int32 → Int32 → (Nat → Nat → Int32) → Prop) (K287 : Int32 → (Nat → Nat → Int32) → Prop) (post : (Nat → Nat → Int32) → Prop) (x3 x4 x5 : Int32) (al : Nat → Nat → Int32) : Prop :=
  K101 x3 x4 (x5 + (1 : Int32)) al
def vcX11_put_101 (G : zG)  (ad ln : Nat → Nat) (p1 : Int32) (p2 : Int32) (K5 : Int32 → Int32 → (Nat → Nat → Int32) → Prop) (K101 : Int32 → Int32 → Int32 → (Nat → Nat → Int32) → Prop) (K201 : Int32 → Int32 → (Nat → Nat → Int32) → Prop) (K214 : Int32 → Int32 → Int32 → (Nat → Nat → Int32) → Prop) (K287 : Int32 → (Nat → Nat → Int32) → Prop) (post : (Nat → Nat → Int32) → Prop) (x3 x4 x5 : Int32) (al : Nat → Nat → Int32) : Prop :=
  (p2 ≤ x5 → vcX11_put_137 G  ad ln p1 p2 K5 K101 K201 K214 K287 post x3 x4 al) ∧ (¬ p2 ≤ x5 → (0 ≤ x4 → vcX11_put_137 G  ad ln p1 p2 K5 K101 K201 K214 K287 post x3 x4 al) ∧ (¬ 0 ≤ x4 → zMi G yX11_full wsX11_full rmX11_full zTR ad ln [.ref (ad 0), .int p1, .int (x3 + x5), .int p2] al (fun q3 a3 => (0 ≤ q3 → vcX11_put_131 G  ad ln p1 p2 K5 K101 K201 K214 K287 post x3 x4 x5 a3) ∧ (¬ 0 ≤ q3 → vcX11_put_131 G  ad ln p1 p2 K5 K101 K201 K214 K287 post x3 (x3 + x5) x5 a3))))
def vcX11_put_201 (G : zG)  (ad ln : Nat → Nat) (p1 : Int32) (p2 : Int32) (K5 : Int32 → Int32 → (Nat → Nat → Int32) → Prop) (K101 : Int32 → Int32 → Int32 → (Nat → Nat → Int32) → Prop) (K201 : Int32 → Int32 → (Nat → Nat → Int32) → Prop) (K214 : Int32 → Int32 → Int32 → (Nat → Nat → Int32) → Prop) (K287 : Int32 → (Nat → Nat → Int32) → Prop) (post : (Nat → Nat → Int32) → Prop) (x4 x5 : Int32) (al : Nat → Nat → Int32) : Prop :=
  (x5 < 0 → K287 (0 : Int32) al) ∧ (¬ x5 < 0 → K214 x4 x5 ((al 0 9) - (1 : Int32)) al)
def vcX11_put_257 (G : zG)  (ad ln : Nat → Nat) (p1 : Int32) (p2 : Int32) (K5 : Int32 → Int32 → (Nat → Nat → Int32) → Prop) (K101 : Int32 → Int32 → Int32 → (Nat → Nat → Int32) → Prop) (K201 : Int32 → Int32 → (Nat → Nat → Int32) → Prop) (K214 : Int32 → Int32 → Int32 → (Nat → Nat → Int32) → Prop) (K287 : Int32 → (Nat → Nat → Int32) → Prop) (post : (Nat → Nat → Int32) → Prop) (x4 x5 x6 : Int32) (al : Nat → Nat → Int32) : Prop :=
  K214 x4 x5 (x6 + (-1 : Int32)) al
def vcX11_put_214 (G : zG)  (ad ln : Nat → Nat) (p1 : Int32) (p2 : Int32) (K5 : Int32 → Int32 → (Nat → Nat → Int32) → Prop) (K101 : Int32 → Int32 → Int32 → (Nat → Nat → Int32) → Prop) (K201 : Int32 → Int32 → (Nat → Nat → Int32) → Prop) (K214 : Int32 → Int32 → Int32 → (Nat → Nat → Int32) → Prop) (K287 : Int32 → (Nat → Nat → Int32) → Prop) (post : (Nat → Nat → Int32) → Prop) (x4 x5 x6 : Int32) (al : Nat → Nat → Int32) : Prop :=
  (x6 = p1 → vcX11_put_257 G  ad ln p1 p2 K5 K101 K201 K214 K287 post x4 x5 x6 al) ∧ (¬ x6 = p1 → (vp_in x6 48 ∧ ((al 17 x6.toNatClampNeg) < 0 → vcX11_put_257 G  ad ln p1 p2 K5 K101 K201 K214 K287 post x4 x5 x6 al) ∧ (¬ (al 17 x6.toNatClampNeg) < 0 → (vp_in x6 48 ∧ ¬ p2 = 0 ∧ ¬ p2 = 0 ∧ (¬ ((al 17 x6.toNatClampNeg) - (al 17 x6.toNatClampNeg) / p2 * p2) = (x4 - x4 / p2 * p2) → vcX11_put_257 G  ad ln p1 p2 K5 K101 K201 K214 K287 post x4 x5 x6 al) ∧ (((al 17 x6.toNatClampNeg) - (al 17 x6.toNatClampNeg) / p2 * p2) = (x4 - x4 / p2 * p2) → zMi G yX11_isIn wsX11_isIn rmX11_isIn zTR ad ln [.ref (ad 0), .int x6, .int x5] al (fun q4 a4 => (¬ q4 = 0 → (vp_in x6 48 ∧ zMi G yX11_full wsX11_full rmX11_full zTR ad ln [.ref (ad 0), .int p1, .int x4, .int p2] (up2 a4 17 x6.toNatClampNeg (-1 : Int32)) (fun q6 a6 => K201 x4 q6 a6))) ∧ (q4 = 0 → vcX11_put_257 G  ad ln p1 p2 K5 K101 K201 K214 K287 post x4 x5 x6 a4)))))))
def vcX11_put_410 (G : zG)  (ad ln : Nat → Nat) (p1 : Int32) (p2 : Int32) (K5 : Int32 → Int32 → (Nat → Nat → Int32) → Prop) (K101 : Int32 → Int32 → Int32 → (Nat → Nat → Int32) → Prop) (K201 : Int32 → Int32 → (Nat → Nat → Int32) → Prop) (K214 : Int32 → Int32 → Int32 → (Nat → Nat → Int32) → Prop) (K287 : Int32 → (Nat → Nat → Int32) → Prop) (post : (Nat → Nat → Int32) → Prop) (x5 : Int32) (al : Nat → Nat → Int32) : Prop :=
  K287 (x5 + (1 : Int32)) al
def vcX11_put_408 (G : zG)  (ad ln : Nat → Nat) (p1 : Int32) (p2 : Int32) (K5 : Int32 → Int32 → (Nat → Nat → Int32) → Prop) (K101 : Int32 → Int32 → Int32 → (Nat → Nat → Int32) → Prop) (K201 : Int32 → Int32 → (Nat → Nat → Int32) → Prop) (K214 : Int32 → Int32 → Int32 → (Nat → Nat → Int32) → Prop) (K287 : Int32 → (Nat → Nat → Int32) → Prop) (post : (Nat → Nat → Int32) → Prop) (x5 s0 : Int32) (al : Nat → Nat → Int32) : Prop :=
  (vp_in s0 48 ∧ vcX11_put_410 G  ad ln p1 p2 K5 K101 K201 K214 K287 post x5 (up2 al 17 s0.toNatClampNeg (-1 : Int32)))
def vcX11_put_333 (G : zG)  (ad ln : Nat → Nat) (p1 : Int32) (p2 : Int32) (K5 : Int32 → Int32 → (Nat → Nat → Int32) → Prop) (K101 : Int32 → Int32 → Int32 → (Nat → Nat → Int32) → Prop) (K201 : Int32 → Int32 → (Nat → Nat → Int32) → Prop) (K214 : Int32 → Int32 → Int32 → (Nat → Nat → Int32) → Prop) (K287 : Int32 → (Nat → Nat → Int32) → Prop) (post : (Nat → Nat → Int32) → Prop) (x5 x6 x7 : Int32) (al : Nat → Nat → Int32) : Prop :=
  (vp_in x6 48 ∧ ((al 17 x6.toNatClampNeg) < 0 → vcX11_put_410 G  ad ln p1 p2 K5 K101 K201 K214 K287 post x5 al) ∧ (¬ (al 17 x6.toNatClampNeg) < 0 → (vp_in x7 48 ∧ (0 ≤ (al 17 x7.toNatClampNeg) → (vp_in x7 48 ∧ vp_in x5 4608 ∧ vp_in x6 48 ∧ vp_in x5 4608 ∧ (((al 17 x6.toNatClampNeg) + (al 15 x5.toNatClampNeg)) ≤ ((al 17 x7.toNatClampNeg) + ((al 14 x5.toNatClampNeg) * p2)) → vcX11_put_410 G  ad ln p1 p2 K5 K101 K201 K214 K287 post x5 al) ∧ (¬ ((al 17 x6.toNatClampNeg) + (al 15 x5.toNatClampNeg)) ≤ ((al 17 x7.toNatClampNeg) + ((al 14 x5.toNatClampNeg) * p2)) → (¬ x6 = p1 → vcX11_put_408 G  ad ln p1 p2 K5 K101 K201 K214 K287 post x5 x6 al) ∧ (x6 = p1 → vcX11_put_408 G  ad ln p1 p2 K5 K101 K201 K214 K287 post x5 x7 al)))) ∧ (¬ 0 ≤ (al 17 x7.toNatClampNeg) → vcX11_put_410 G  ad ln p1 p2 K5 K101 K201 K214 K287 post x5 al))))
def vcX11_put_287 (G : zG)  (ad ln : Nat → Nat) (p1 : Int32) (p2 : Int32) (K5 : Int32 → Int32 → (Nat → Nat → Int32) → Prop) (K101 : Int32 → Int32 → Int32 → (Nat → Nat → Int32) → Prop) (K201 : Int32 → Int32 → (Nat → Nat → Int32) → Prop) (K214 : Int32 → Int32 → Int32 → (Nat → Nat → Int32) → Prop) (K287 : Int32 → (Nat → Nat → Int32) → Prop) (post : (Nat → Nat → Int32) → Prop) (x5 : Int32) (al : Nat → Nat → Int32) : Prop :=
  ((al 0 28) ≤ x5 → post al) ∧ (¬ (al 0 28) ≤ x5 → (vp_in x5 4608 ∧ vp_in x5 4608 ∧ ((al 12 x5.toNatClampNeg) = (al 13 x5.toNatClampNeg) → vcX11_put_410 G  ad ln p1 p2 K5 K101 K201 K214 K287 post x5 al) ∧ (¬ (al 12 x5.toNatClampNeg) = (al 13 x5.toNatClampNeg) → ((al 12 x5.toNatClampNeg) = p1 → vcX11_put_333 G  ad ln p1 p2 K5 K101 K201 K214 K287 post x5 (al 12 x5.toNatClampNeg) (al 13 x5.toNatClampNeg) al) ∧ (¬ (al 12 x5.toNatClampNeg) = p1 → (¬ (al 13 x5.toNatClampNeg) = p1 → vcX11_put_410 G  ad ln p1 p2 K5 K101 K201 K214 K287 post x5 al) ∧ ((al 13 x5.toNatClampNeg) = p1 → vcX11_put_333 G  ad ln p1 p2 K5 K101 K201 K214 K287 post x5 (al 12 x5.toNatClampNeg) (al 13 x5.toNatClampNeg) al)))))
set_option maxRecDepth 20000 in
theorem tX11_put_0 {G : zG} {Z : zC}  {ad ln : Nat → Nat} (X : zX G Z cX11_put 8 RX11 wsX11_put) (p1 : Int32) (p2 : Int32) {K5 : Int32 → Int32 → (Nat → Nat → Int32) → Prop} {K101 : Int32 → Int32 → Int32 → (Nat → Nat → Int32) → Prop} {K201 : Int32 → Int32 → (Nat → Nat → Int32) → Prop} {K214 : Int32 → Int32 → Int32 → (Nat → Nat → Int32) → Prop} {K287 : Int32 → (Nat → Nat → Int32) → Prop} {post : (Nat → Nat → Int32) → Prop} (hR : zRv G Z rmX11_put 8 zTR ad ln cX11_put post) (hK5 : ∀ x3 x4 : Int32, ∀ al, K5 x3 x4 al → zB G Z rmX11_put 8 zTR ad ln 0 0 5 [(0, .ref (ad 0)), (1, .int p1), (2, .int p2), (3, .int x3), (4, .int x4)] [] al) (hK101 : ∀ x3 x4 x5 : Int32, ∀ al, K101 x3 x4 x5 al → zB G Z rmX11_put 8 zTR ad ln 0 0 101 [(0, .ref (ad 0)), (1, .int p1), (2, .int p2), (3, .int x3), (4, .int x4), (5, .int x5)] [] al) (hK201 : ∀ x4 x5 : Int32, ∀ al, K201 x4 x5 al → zB G Z rmX11_put 8 zTR ad ln 0 0 201 [(0, .ref (ad 0)), (1, .int p1), (2, .int p2), (4, .int x4), (5, .int x5)] [] al) (hK214 : ∀ x4 x5 x6 : Int32, ∀ al, K214 x4 x5 x6 al → zB G Z rmX11_put 8 zTR ad ln 0 0 214 [(0, .ref (ad 0)), (1, .int p1), (2, .int p2), (4, .int x4), (5, .int x5), (6, .int x6)] [] al) (hK287 : ∀ x5 : Int32, ∀ al, K287 x5 al → zB G Z rmX11_put 8 zTR ad ln 0 0 287 [(0, .ref (ad 0)), (1, .int p1), (2, .int p2), (5, .int x5)] [] al) (al : Nat → Nat → Int32) (h : vcX11_put_0 G  ad ln p1 p2 K5 K101 K201 K214 K287 post  al) : zB G Z rmX11_put 8 zTR ad ln 0 0 0 [(0, .ref (ad 0)), (1, .int p1), (2, .int p2)] [] al := by
  unfold vcX11_put_0 at h
  refine zb_iconst X (0 : Int32) dX11_put_0 (by decide) ?_
  refine zb_istore_n X (lv' := [(3, .int (0 : Int32)), (0, .ref (ad 0)), (1, .int p1), (2, .int p2)]) dX11_put_1 rfl (by decide) rfl ?_
  refine zb_iconst X (0 : Int32) dX11_put_2 (by decide) ?_
  refine zb_istore X (lv' := [(4, .int (0 : Int32)), (3, .int (0 : Int32)), (0, .ref (ad 0)), (1, .int p1), (2, .int p2)]) dX11_put_3 (by decide) rfl ?_
  refine zb_sub [2, 3, 4, 1, 0] rfl ?_
  exact hK5 (0 : Int32) (0 : Int32) al h
set_option maxRecDepth 20000 in
theorem tX11_put_89 {G : zG} {Z : zC}  {ad ln : Nat → Nat} (X : zX G Z cX11_put 8 RX11 wsX11_put) (p1 : Int32) (p2 : Int32) {K5 : Int32 → Int32 → (Nat → Nat → Int32) → Prop} {K101 : Int32 → Int32 → Int32 → (Nat → Nat → Int32) → Prop} {K201 : Int32 → Int32 → (Nat → Nat → Int32) → Prop} {K214 : Int32 → Int32 → Int32 → (Nat → Nat → Int32) → Prop} {K287 : Int32 → (Nat → Nat → Int32) → Prop} {post : (Nat → Nat → Int32) → Prop} (hR : zRv G Z rmX11_put 8 zTR ad ln cX11_put post) (hK5 : ∀ x3 x4 : Int32, ∀ al, K5 x3 x4 al → zB G Z rmX11_put 8 zTR ad ln 0 0 5 [(0, .ref (ad 0)), (1, .int p1), (2, .int p2), (3, .int x3), (4, .int x4)] [] al) (hK101 : ∀ x3 x4 x5 : Int32, ∀ al, K101 x3 x4 x5 al → zB G Z rmX11_put 8 zTR ad ln 0 0 101 [(0, .ref (ad 0)), (1, .int p1), (2, .int p2), (3, .int x3), (4, .int x4), (5, .int x5)] [] al) (hK201 : ∀ x4 x5 : Int32, ∀ al, K201 x4 x5 al → zB G Z rmX11_put 8 zTR ad ln 0 0 201 [(0, .ref (ad 0)), (1, .int p1), (2, .int p2), (4, .int x4), (5, .int x5)] [] al) (hK214 : ∀ x4 x5 x6 : Int32, ∀ al, K214 x4 x5 x6 al → zB G Z rmX11_put 8 zTR ad ln 0 0 214 [(0, .ref (ad 0)), (1, .int p1), (2, .int p2), (4, .int x4), (5, .int x5), (6, .int x6)] [] al) (hK287 : ∀ x5 : Int32, ∀ al, K287 x5 al → zB G Z rmX11_put 8 zTR ad ln 0 0 287 [(0, .ref (ad 0)), (1, .int p1), (2, .int p2), (5, .int x5)] [] al) (x3 x4 : Int32) (al : Nat → Nat → Int32) (h : vcX11_put_89 G  ad ln p1 p2 K5 K101 K201 K214 K287 post x3 x4 al) : zB G Z rmX11_put 8 zTR ad ln 0 0 89 [(0, .ref (ad 0)), (1, .int p1), (2, .int p2), (3, .int x3), (4, .int x4)] [] al := by
  unfold vcX11_put_89 at h
  refine zb_iinc X (lv' := [(4, .int (x4 + (1 : Int32))), (0, .ref (ad 0)), (1, .int p1), (2, .int p2), (3, .int x3)]) (x4 + (1 : Int32)) dX11_put_89 4 rfl rfl (by decide) rfl ?_
  refine zb_goto X 5 dX11_put_92 (by decide) ?_
  refine zb_sub [1, 2, 3, 4, 0] rfl ?_
  exact hK5 x3 (x4 + (1 : Int32)) al h
set_option maxRecDepth 20000 in
theorem tX11_put_5 {G : zG} {Z : zC}  {ad ln : Nat → Nat} (X : zX G Z cX11_put 8 RX11 wsX11_put) (p1 : Int32) (p2 : Int32) {K5 : Int32 → Int32 → (Nat → Nat → Int32) → Prop} {K101 : Int32 → Int32 → Int32 → (Nat → Nat → Int32) → Prop} {K201 : Int32 → Int32 → (Nat → Nat → Int32) → Prop} {K214 : Int32 → Int32 → Int32 → (Nat → Nat → Int32) → Prop} {K287 : Int32 → (Nat → Nat → Int32) → Prop} {post : (Nat → Nat → Int32) → Prop} (hR : zRv G Z rmX11_put 8 zTR ad ln cX11_put post) (hK5 : ∀ x3 x4 : Int32, ∀ al, K5 x3 x4 al → zB G Z rmX11_put 8 zTR ad ln 0 0 5 [(0, .ref (ad 0)), (1, .int p1), (2, .int p2), (3, .int x3), (4, .int x4)] [] al) (hK101 : ∀ x3 x4 x5 : Int32, ∀ al, K101 x3 x4 x5 al → zB G Z rmX11_put 8 zTR ad ln 0 0 101 [(0, .ref (ad 0)), (1, .int p1), (2, .int p2), (3, .int x3), (4, .int x4), (5, .int x5)] [] al) (hK201 : ∀ x4 x5 : Int32, ∀ al, K201 x4 x5 al → zB G Z rmX11_put 8 zTR ad ln 0 0 201 [(0, .ref (ad 0)), (1, .int p1), (2, .int p2), (4, .int x4), (5, .int x5)] [] al) (hK214 : ∀ x4 x5 x6 : Int32, ∀ al, K214 x4 x5 x6 al → zB G Z rmX11_put 8 zTR ad ln 0 0 214 [(0, .ref (ad 0)), (1, .int p1), (2, .int p2), (4, .int x4), (5, .int x5), (6, .int x6)] [] al) (hK287 : ∀ x5 : Int32, ∀ al, K287 x5 al → zB G Z rmX11_put 8 zTR ad ln 0 0 287 [(0, .ref (ad 0)), (1, .int p1), (2, .int p2), (5, .int x5)] [] al) (x3 x4 : Int32) (al : Nat → Nat → Int32) (h : vcX11_put_5 G  ad ln p1 p2 K5 K101 K201 K214 K287 post x3 x4 al) : zB G Z rmX11_put 8 zTR ad ln 0 0 5 [(0, .ref (ad 0)), (1, .int p1), (2, .int p2), (3, .int x3), (4, .int x4)] [] al := by
  unfold vcX11_put_5 at h
  refine zb_iload X dX11_put_5 4 rfl ?_
  refine zb_aload_n X dX11_put_7 rfl 0 rfl ?_
  refine zb_getI X 0 (by decide) 11 [3, 4, 5, 6, 7, 8, 9, 10, 11, 0, 12, 0, 0, 0, 0, 0, 0, 0, 0, 0, 0, 0, 0, 13, 14, 15, 16, 17, 0, 18, 19, 20, 21, 0, 0, 0, 22, 23, 24, 25, 0, 0, 26, 27, 28, 29, 0, 0, 0, 30, 0] rfl (C := RX11) (Tt := TX11) (N := 51) rfl kX11_put_1 28 (by decide) rfl kX11_put_0 rfl dX11_put_8 (al 0 28) rfl ?_
  refine zb_icmp_ge X 95 dX11_put_11 (by decide) (fun c1 => ?_) (fun c1 => ?_)
  · have h := h.1 c1
    refine zb_iconst X (-1 : Int32) dX11_put_95 (by decide) ?_
    refine zb_istore X (lv' := [(4, .int (-1 : Int32)), (0, .ref (ad 0)), (1, .int p1), (2, .int p2), (3, .int x3)]) dX11_put_96 (by decide) rfl ?_
    refine zb_iconst X (0 : Int32) dX11_put_98 (by decide) ?_
    refine zb_istore X (lv' := [(5, .int (0 : Int32)), (4, .int (-1 : Int32)), (0, .ref (ad 0)), (1, .int p1), (2, .int p2), (3, .int x3)]) dX11_put_99 (by decide) rfl ?_
    refine zb_sub [2, 3, 4, 5, 1, 0] rfl ?_
    exact hK101 x3 (-1 : Int32) (0 : Int32) al h
  · have h := h.2 c1
    refine zb_aload_n X dX11_put_14 rfl 0 rfl ?_
    refine zb_getR X 0 (by decide) 11 [3, 4, 5, 6, 7, 8, 9, 10, 11, 0, 12, 0, 0, 0, 0, 0, 0, 0, 0, 0, 0, 0, 0, 13, 14, 15, 16, 17, 0, 18, 19, 20, 21, 0, 0, 0, 22, 23, 24, 25, 0, 0, 26, 27, 28, 29, 0, 0, 0, 30, 0] rfl (C := RX11) (Tt := TX11) (N := 51) rfl kX11_put_1 25 (by decide) 13 rfl kX11_put_2 rfl dX11_put_15 ?_
    refine zb_iload X dX11_put_18 4 rfl ?_
    obtain ⟨hz, h⟩ := h
    refine zb_iald X 13 (by decide) 1 4608 0 0 rfl (Or.inl rfl) x4.toNatClampNeg rfl hz dX11_put_20 (al 13 x4.toNatClampNeg) rfl ?_
    refine zb_iload_n X dX11_put_21 rfl 1 rfl ?_
    refine zb_icmp_ne X 89 dX11_put_22 (by decide) (fun c2 => ?_) (fun c2 => ?_)
    · have h := h.1 c2
      refine zb_sub [0, 1, 2, 3, 4] rfl ?_
      exact tX11_put_89 X p1 p2 hR hK5 hK101 hK201 hK214 hK287 x3 x4 al h
    · have h := h.2 c2
      refine zb_aload_n X dX11_put_25 rfl 0 rfl ?_
      refine zb_getR X 0 (by decide) 11 [3, 4, 5, 6, 7, 8, 9, 10, 11, 0, 12, 0, 0, 0, 0, 0, 0, 0, 0, 0, 0, 0, 0, 13, 14, 15, 16, 17, 0, 18, 19, 20, 21, 0, 0, 0, 22, 23, 24, 25, 0, 0, 26, 27, 28, 29, 0, 0, 0, 30, 0] rfl (C := RX11) (Tt := TX11) (N := 51) rfl kX11_put_1 24 (by decide) 12 rfl kX11_put_3 rfl dX11_put_26 ?_
      refine zb_iload X dX11_put_29 4 rfl ?_
      obtain ⟨hz, h⟩ := h
      refine zb_iald X 12 (by decide) 1 4608 0 0 rfl (Or.inl rfl) x4.toNatClampNeg rfl hz dX11_put_31 (al 12 x4.toNatClampNeg) rfl ?_
      refine zb_iload_n X dX11_put_32 rfl 1 rfl ?_
      refine zb_icmp_eq X 89 dX11_put_33 (by decide) (fun c3 => ?_) (fun c3 => ?_)
      · have h := h.1 c3
        refine zb_sub [0, 1, 2, 3, 4] rfl ?_
        exact tX11_put_89 X p1 p2 hR hK5 hK101 hK201 hK214 hK287 x3 x4 al h
      · have h := h.2 c3
        refine zb_aload_n X dX11_put_36 rfl 0 rfl ?_
        refine zb_getR X 0 (by decide) 11 [3, 4, 5, 6, 7, 8, 9, 10, 11, 0, 12, 0, 0, 0, 0, 0, 0, 0, 0, 0, 0, 0, 0, 13, 14, 15, 16, 17, 0, 18, 19, 20, 21, 0, 0, 0, 22, 23, 24, 25, 0, 0, 26, 27, 28, 29, 0, 0, 0, 30, 0] rfl (C := RX11) (Tt := TX11) (N := 51) rfl kX11_put_1 30 (by decide) 17 rfl kX11_put_4 rfl dX11_put_37 ?_
        refine zb_aload_n X dX11_put_40 rfl 0 rfl ?_
        refine zb_getR X 0 (by decide) 11 [3, 4, 5, 6, 7, 8, 9, 10, 11, 0, 12, 0, 0, 0, 0, 0, 0, 0, 0, 0, 0, 0, 0, 13, 14, 15, 16, 17, 0, 18, 19, 20, 21, 0, 0, 0, 22, 23, 24, 25, 0, 0, 26, 27, 28, 29, 0, 0, 0, 30, 0] rfl (C := RX11) (Tt := TX11) (N := 51) rfl kX11_put_1 24 (by decide) 12 rfl kX11_put_3 rfl dX11_put_41 ?_
        refine zb_iload X dX11_put_44 4 rfl ?_
        obtain ⟨hz, h⟩ := h
        refine zb_iald X 12 (by decide) 1 4608 0 0 rfl (Or.inl rfl) x4.toNatClampNeg rfl hz dX11_put_46 (al 12 x4.toNatClampNeg) rfl ?_
        obtain ⟨hz, h⟩ := h
        refine zb_iald X 17 (by decide) 1 48 0 0 rfl (Or.inl rfl) ((al 12 x4.toNatClampNeg).toNatClampNeg) rfl hz dX11_put_47 (al 17 ((al 12 x4.toNatClampNeg).toNatClampNeg)) rfl ?_
        refine zb_if_ge X 54 dX11_put_48 (by decide) (fun c4 => ?_) (fun c4 => ?_)
        · have h := h.1 c4
          refine zb_iload_n X dX11_put_54 rfl 3 rfl ?_
          refine zb_aload_n X dX11_put_55 rfl 0 rfl ?_
          refine zb_getR X 0 (by decide) 11 [3, 4, 5, 6, 7, 8, 9, 10, 11, 0, 12, 0, 0, 0, 0, 0, 0, 0, 0, 0, 0, 0, 0, 13, 14, 15, 16, 17, 0, 18, 19, 20, 21, 0, 0, 0, 22, 23, 24, 25, 0, 0, 26, 27, 28, 29, 0, 0, 0, 30, 0] rfl (C := RX11) (Tt := TX11) (N := 51) rfl kX11_put_1 30 (by decide) 17 rfl kX11_put_4 rfl dX11_put_56 ?_
          refine zb_aload_n X dX11_put_59 rfl 0 rfl ?_
          refine zb_getR X 0 (by decide) 11 [3, 4, 5, 6, 7, 8, 9, 10, 11, 0, 12, 0, 0, 0, 0, 0, 0, 0, 0, 0, 0, 0, 0, 13, 14, 15, 16, 17, 0, 18, 19, 20, 21, 0, 0, 0, 22, 23, 24, 25, 0, 0, 26, 27, 28, 29, 0, 0, 0, 30, 0] rfl (C := RX11) (Tt := TX11) (N := 51) rfl kX11_put_1 24 (by decide) 12 rfl kX11_put_3 rfl dX11_put_60 ?_
          refine zb_iload X dX11_put_63 4 rfl ?_
          obtain ⟨hz, h⟩ := h
          refine zb_iald X 12 (by decide) 1 4608 0 0 rfl (Or.inl rfl) x4.toNatClampNeg rfl hz dX11_put_65 (al 12 x4.toNatClampNeg) rfl ?_
          obtain ⟨hz, h⟩ := h
          refine zb_iald X 17 (by decide) 1 48 0 0 rfl (Or.inl rfl) ((al 12 x4.toNatClampNeg).toNatClampNeg) rfl hz dX11_put_66 (al 17 ((al 12 x4.toNatClampNeg).toNatClampNeg)) rfl ?_
          refine zb_aload_n X dX11_put_67 rfl 0 rfl ?_
          refine zb_getR X 0 (by decide) 11 [3, 4, 5, 6, 7, 8, 9, 10, 11, 0, 12, 0, 0, 0, 0, 0, 0, 0, 0, 0, 0, 0, 0, 13, 14, 15, 16, 17, 0, 18, 19, 20, 21, 0, 0, 0, 22, 23, 24, 25, 0, 0, 26, 27, 28, 29, 0, 0, 0, 30, 0] rfl (C := RX11) (Tt := TX11) (N := 51) rfl kX11_put_1 27 (by decide) 15 rfl kX11_put_5 rfl dX11_put_68 ?_
          refine zb_iload X dX11_put_71 4 rfl ?_
          obtain ⟨hz, h⟩ := h
          refine zb_iald X 15 (by decide) 1 4608 0 0 rfl (Or.inl rfl) x4.toNatClampNeg rfl hz dX11_put_73 (al 15 x4.toNatClampNeg) rfl ?_
          refine zb_iadd X dX11_put_74 ?_
          refine zb_aload_n X dX11_put_75 rfl 0 rfl ?_
          refine zb_getR X 0 (by decide) 11 [3, 4, 5, 6, 7, 8, 9, 10, 11, 0, 12, 0, 0, 0, 0, 0, 0, 0, 0, 0, 0, 0, 0, 13, 14, 15, 16, 17, 0, 18, 19, 20, 21, 0, 0, 0, 22, 23, 24, 25, 0, 0, 26, 27, 28, 29, 0, 0, 0, 30, 0] rfl (C := RX11) (Tt := TX11) (N := 51) rfl kX11_put_1 26 (by decide) 14 rfl kX11_put_6 rfl dX11_put_76 ?_
          refine zb_iload X dX11_put_79 4 rfl ?_
          obtain ⟨hz, h⟩ := h
          refine zb_iald X 14 (by decide) 1 4608 0 0 rfl (Or.inl rfl) x4.toNatClampNeg rfl hz dX11_put_81 (al 14 x4.toNatClampNeg) rfl ?_
          refine zb_iload_n X dX11_put_82 rfl 2 rfl ?_
          refine zb_imul X dX11_put_83 ?_
          refine zb_isub X dX11_put_84 ?_
          refine zb_mmax X kX11_put_7 kX11_put_8 kX11_put_9 kX11_put_10 ⟨⟨Nat.le_of_ble_eq_true rfl, Nat.le_of_ble_eq_true rfl⟩, Nat.le_of_ble_eq_true rfl, Nat.le_of_ble_eq_true rfl⟩ dX11_put_85 ?_
          refine zb_istore_n X (lv' := [(3, .int (if x3 < (((al 17 ((al 12 x4.toNatClampNeg).toNatClampNeg)) + (al 15 x4.toNatClampNeg)) - ((al 14 x4.toNatClampNeg) * p2)) then (((al 17 ((al 12 x4.toNatClampNeg).toNatClampNeg)) + (al 15 x4.toNatClampNeg)) - ((al 14 x4.toNatClampNeg) * p2)) else x3)), (0, .ref (ad 0)), (1, .int p1), (2, .int p2), (4, .int x4)]) dX11_put_88 rfl (by decide) rfl ?_
          refine zb_sub [1, 2, 3, 0, 4] rfl ?_
          exact tX11_put_89 X p1 p2 hR hK5 hK101 hK201 hK214 hK287 (if x3 < (((al 17 ((al 12 x4.toNatClampNeg).toNatClampNeg)) + (al 15 x4.toNatClampNeg)) - ((al 14 x4.toNatClampNeg) * p2)) then (((al 17 ((al 12 x4.toNatClampNeg).toNatClampNeg)) + (al 15 x4.toNatClampNeg)) - ((al 14 x4.toNatClampNeg) * p2)) else x3) x4 al h
        · have h := h.2 c4
          refine zb_goto X 89 dX11_put_51 (by decide) ?_
          refine zb_sub [0, 1, 2, 3, 4] rfl ?_
          exact tX11_put_89 X p1 p2 hR hK5 hK101 hK201 hK214 hK287 x3 x4 al h
set_option maxRecDepth 20000 in
theorem tX11_put_175 {G : zG} {Z : zC}  {ad ln : Nat → Nat} (X : zX G Z cX11_put 8 RX11 wsX11_put) (p1 : Int32) (p2 : Int32) {K5 : Int32 → Int32 → (Nat → Nat → Int32) → Prop} {K101 : Int32 → Int32 → Int32 → (Nat → Nat → Int32) → Prop} {K201 : Int32 → Int32 → (Nat → Nat → Int32) → Prop} {K214 : Int32 → Int32 → Int32 → (Nat → Nat → Int32) → Prop} {K287 : Int32 → (Nat → Nat → Int32) → Prop} {post : (Nat → Nat → Int32) → Prop} (hR : zRv G Z rmX11_put 8 zTR ad ln cX11_put post) (hK5 : ∀ x3 x4 : Int32, ∀ al, K5 x3 x4 al → zB G Z rmX11_put 8 zTR ad ln 0 0 5 [(0, .ref (ad 0)), (1, .int p1), (2, .int p2), (3, .int x3), (4, .int x4)] [] al) (hK101 : ∀ x3 x4 x5 : Int32, ∀ al, K101 x3 x4 x5 al → zB G Z rmX11_put 8 zTR ad ln 0 0 101 [(0, .ref (ad 0)), (1, .int p1), (2, .int p2), (3, .int x3), (4, .int x4), (5, .int x5)] [] al) (hK201 : ∀ x4 x5 : Int32, ∀ al, K201 x4 x5 al → zB G Z rmX11_put 8 zTR ad ln 0 0 201 [(0, .ref (ad 0)), (1, .int p1), (2, .int p2), (4, .int x4), (5, .int x5)] [] al) (hK214 : ∀ x4 x5 x6 : Int32, ∀ al, K214 x4 x5 x6 al → zB G Z rmX11_put 8 zTR ad ln 0 0 214 [(0, .ref (ad 0)), (1, .int p1), (2, .int p2), (4, .int x4), (5, .int x5), (6, .int x6)] [] al) (hK287 : ∀ x5 : Int32, ∀ al, K287 x5 al → zB G Z rmX11_put 8 zTR ad ln 0 0 287 [(0, .ref (ad 0)), (1, .int p1), (2, .int p2), (5, .int x5)] [] al) (x4 : Int32) (al : Nat → Nat → Int32) (h : vcX11_put_175 G  ad ln p1 p2 K5 K101 K201 K214 K287 post x4 al) : zB G Z rmX11_put 8 zTR ad ln 0 0 175 [(0, .ref (ad 0)), (1, .int p1), (2, .int p2), (4, .int x4)] [] al := by
  unfold vcX11_put_175 at h
  refine zb_aload_n X dX11_put_175 rfl 0 rfl ?_
  refine zb_getR X 0 (by decide) 11 [3, 4, 5, 6, 7, 8, 9, 10, 11, 0, 12, 0, 0, 0, 0, 0, 0, 0, 0, 0, 0, 0, 0, 13, 14, 15, 16, 17, 0, 18, 19, 20, 21, 0, 0, 0, 22, 23, 24, 25, 0, 0, 26, 27, 28, 29, 0, 0, 0, 30, 0] rfl (C := RX11) (Tt := TX11) (N := 51) rfl kX11_put_1 30 (by decide) 17 rfl kX11_put_4 rfl dX11_put_176 ?_
  refine zb_iload_n X dX11_put_179 rfl 1 rfl ?_
  refine zb_iload X dX11_put_180 3 rfl ?_
  obtain ⟨hz, h⟩ := h
  refine zb_iast X 17 (by decide) 1 48 0 0 rfl (Or.inl rfl) p1.toNatClampNeg rfl hz dX11_put_182 ?_
  refine zb_aload_n X dX11_put_183 rfl 0 rfl ?_
  refine zb_getR X 0 (by decide) 11 [3, 4, 5, 6, 7, 8, 9, 10, 11, 0, 12, 0, 0, 0, 0, 0, 0, 0, 0, 0, 0, 0, 0, 13, 14, 15, 16, 17, 0, 18, 19, 20, 21, 0, 0, 0, 22, 23, 24, 25, 0, 0, 26, 27, 28, 29, 0, 0, 0, 30, 0] rfl (C := RX11) (Tt := TX11) (N := 51) rfl kX11_put_1 31 (by decide) 18 rfl kX11_put_11 rfl dX11_put_184 ?_
  refine zb_iload_n X dX11_put_187 rfl 1 rfl ?_
  refine zb_iload X dX11_put_188 3 rfl ?_
  obtain ⟨hz, h⟩ := h
  refine zb_iast X 18 (by decide) 1 48 0 0 rfl (Or.inl rfl) p1.toNatClampNeg rfl hz dX11_put_190 ?_
  refine zb_aload_n X dX11_put_191 rfl 0 rfl ?_
  refine zb_iload_n X dX11_put_192 rfl 1 rfl ?_
  refine zb_iload X dX11_put_193 3 rfl ?_
  refine zb_iload_n X dX11_put_195 rfl 2 rfl ?_
  refine zb_callVi (n := 3) X 0 (by decide) 11 [3, 4, 5, 6, 7, 8, 9, 10, 11, 0, 12, 0, 0, 0, 0, 0, 0, 0, 0, 0, 0, 0, 0, 13, 14, 15, 16, 17, 0, 18, 19, 20, 21, 0, 0, 0, 22, 23, 24, 25, 0, 0, 26, 27, 28, 29, 0, 0, 0, 30, 0] rfl (C := RX11) (Tt := TX11) (N := 51) rfl h gX11_put_X11_full rfl (by decide +kernel) (by decide) rfl rfl (Nat.le_of_ble_eq_true rfl) dX11_put_196 (kc' := 0) (ks' := 0) rfl rfl (fun q1 a1 h => ?_)
  refine zb_istore X (lv' := [(5, .int q1), (0, .ref (ad 0)), (1, .int p1), (2, .int p2), (4, .int x4)]) dX11_put_199 (by decide) rfl ?_
  refine zb_sub [1, 2, 3, 4, 0] rfl ?_
  exact hK201 x4 q1 a1 h
set_option maxRecDepth 20000 in
theorem tX11_put_173 {G : zG} {Z : zC}  {ad ln : Nat → Nat} (X : zX G Z cX11_put 8 RX11 wsX11_put) (p1 : Int32) (p2 : Int32) {K5 : Int32 → Int32 → (Nat → Nat → Int32) → Prop} {K101 : Int32 → Int32 → Int32 → (Nat → Nat → Int32) → Prop} {K201 : Int32 → Int32 → (Nat → Nat → Int32) → Prop} {K214 : Int32 → Int32 → Int32 → (Nat → Nat → Int32) → Prop} {K287 : Int32 → (Nat → Nat → Int32) → Prop} {post : (Nat → Nat → Int32) → Prop} (hR : zRv G Z rmX11_put 8 zTR ad ln cX11_put post) (hK5 : ∀ x3 x4 : Int32, ∀ al, K5 x3 x4 al → zB G Z rmX11_put 8 zTR ad ln 0 0 5 [(0, .ref (ad 0)), (1, .int p1), (2, .int p2), (3, .int x3), (4, .int x4)] [] al) (hK101 : ∀ x3 x4 x5 : Int32, ∀ al, K101 x3 x4 x5 al → zB G Z rmX11_put 8 zTR ad ln 0 0 101 [(0, .ref (ad 0)), (1, .int p1), (2, .int p2), (3, .int x3), (4, .int x4), (5, .int x5)] [] al) (hK201 : ∀ x4 x5 : Int32, ∀ al, K201 x4 x5 al → zB G Z rmX11_put 8 zTR ad ln 0 0 201 [(0, .ref (ad 0)), (1, .int p1), (2, .int p2), (4, .int x4), (5, .int x5)] [] al) (hK214 : ∀ x4 x5 x6 : Int32, ∀ al, K214 x4 x5 x6 al → zB G Z rmX11_put 8 zTR ad ln 0 0 214 [(0, .ref (ad 0)), (1, .int p1), (2, .int p2), (4, .int x4), (5, .int x5), (6, .int x6)] [] al) (hK287 : ∀ x5 : Int32, ∀ al, K287 x5 al → zB G Z rmX11_put 8 zTR ad ln 0 0 287 [(0, .ref (ad 0)), (1, .int p1), (2, .int p2), (5, .int x5)] [] al) (s0 : Int32) (al : Nat → Nat → Int32) (h : vcX11_put_173 G  ad ln p1 p2 K5 K101 K201 K214 K287 post s0 al) : zB G Z rmX11_put 8 zTR ad ln 0 0 173 [(0, .ref (ad 0)), (1, .int p1), (2, .int p2)] [.int s0] al := by
  unfold vcX11_put_173 at h
  refine zb_istore X (lv' := [(4, .int s0), (0, .ref (ad 0)), (1, .int p1), (2, .int p2)]) dX11_put_173 (by decide) rfl ?_
  refine zb_sub [1, 2, 3, 0] rfl ?_
  exact tX11_put_175 X p1 p2 hR hK5 hK101 hK201 hK214 hK287 s0 al h
set_option maxRecDepth 20000 in
theorem tX11_put_172 {G : zG} {Z : zC}  {ad ln : Nat → Nat} (X : zX G Z cX11_put 8 RX11 wsX11_put) (p1 : Int32) (p2 : Int32) {K5 : Int32 → Int32 → (Nat → Nat → Int32) → Prop} {K101 : Int32 → Int32 → Int32 → (Nat → Nat → Int32) → Prop} {K201 : Int32 → Int32 → (Nat → Nat → Int32) → Prop} {K214 : Int32 → Int32 → Int32 → (Nat → Nat → Int32) → Prop} {K287 : Int32 → (Nat → Nat → Int32) → Prop} {post : (Nat → Nat → Int32) → Prop} (hR : zRv G Z rmX11_put 8 zTR ad ln cX11_put post) (hK5 : ∀ x3 x4 : Int32, ∀ al, K5 x3 x4 al → zB G Z rmX11_put 8 zTR ad ln 0 0 5 [(0, .ref (ad 0)), (1, .int p1), (2, .int p2), (3, .int x3), (4, .int x4)] [] al) (hK101 : ∀ x3 x4 x5 : Int32, ∀ al, K101 x3 x4 x5 al → zB G Z rmX11_put 8 zTR ad ln 0 0 101 [(0, .ref (ad 0)), (1, .int p1), (2, .int p2), (3, .int x3), (4, .int x4), (5, .int x5)] [] al) (hK201 : ∀ x4 x5 : Int32, ∀ al, K201 x4 x5 al → zB G Z rmX11_put 8 zTR ad ln 0 0 201 [(0, .ref (ad 0)), (1, .int p1), (2, .int p2), (4, .int x4), (5, .int x5)] [] al) (hK214 : ∀ x4 x5 x6 : Int32, ∀ al, K214 x4 x5 x6 al → zB G Z rmX11_put 8 zTR ad ln 0 0 214 [(0, .ref (ad 0)), (1, .int p1), (2, .int p2), (4, .int x4), (5, .int x5), (6, .int x6)] [] al) (hK287 : ∀ x5 : Int32, ∀ al, K287 x5 al → zB G Z rmX11_put 8 zTR ad ln 0 0 287 [(0, .ref (ad 0)), (1, .int p1), (2, .int p2), (5, .int x5)] [] al) (x3 : Int32) (al : Nat → Nat → Int32) (h : vcX11_put_172 G  ad ln p1 p2 K5 K101 K201 K214 K287 post x3 al) : zB G Z rmX11_put 8 zTR ad ln 0 0 172 [(0, .ref (ad 0)), (1, .int p1), (2, .int p2), (3, .int x3)] [] al := by
  unfold vcX11_put_172 at h
  refine zb_iload_n X dX11_put_172 rfl 3 rfl ?_
  refine zb_sub [0, 1, 2] rfl ?_
  exact tX11_put_173 X p1 p2 hR hK5 hK101 hK201 hK214 hK287 x3 al h
set_option maxRecDepth 20000 in
theorem tX11_put_137 {G : zG} {Z : zC}  {ad ln : Nat → Nat} (X : zX G Z cX11_put 8 RX11 wsX11_put) (p1 : Int32) (p2 : Int32) {K5 : Int32 → Int32 → (Nat → Nat → Int32) → Prop} {K101 : Int32 → Int32 → Int32 → (Nat → Nat → Int32) → Prop} {K201 : Int32 → Int32 → (Nat → Nat → Int32) → Prop} {K214 : Int32 → Int32 → Int32 → (Nat → Nat → Int32) → Prop} {K287 : Int32 → (Nat → Nat → Int32) → Prop} {post : (Nat → Nat → Int32) → Prop} (hR : zRv G Z rmX11_put 8 zTR ad ln cX11_put post) (hK5 : ∀ x3 x4 : Int32, ∀ al, K5 x3 x4 al → zB G Z rmX11_put 8 zTR ad ln 0 0 5 [(0, .ref (ad 0)), (1, .int p1), (2, .int p2), (3, .int x3), (4, .int x4)] [] al) (hK101 : ∀ x3 x4 x5 : Int32, ∀ al, K101 x3 x4 x5 al → zB G Z rmX11_put 8 zTR ad ln 0 0 101 [(0, .ref (ad 0)), (1, .int p1), (2, .int p2), (3, .int x3), (4, .int x4), (5, .int x5)] [] al) (hK201 : ∀ x4 x5 : Int32, ∀ al, K201 x4 x5 al → zB G Z rmX11_put 8 zTR ad ln 0 0 201 [(0, .ref (ad 0)), (1, .int p1), (2, .int p2), (4, .int x4), (5, .int x5)] [] al) (hK214 : ∀ x4 x5 x6 : Int32, ∀ al, K214 x4 x5 x6 al → zB G Z rmX11_put 8 zTR ad ln 0 0 214 [(0, .ref (ad 0)), (1, .int p1), (2, .int p2), (4, .int x4), (5, .int x5), (6, .int x6)] [] al) (hK287 : ∀ x5 : Int32, ∀ al, K287 x5 al → zB G Z rmX11_put 8 zTR ad ln 0 0 287 [(0, .ref (ad 0)), (1, .int p1), (2, .int p2), (5, .int x5)] [] al) (x3 x4 : Int32) (al : Nat → Nat → Int32) (h : vcX11_put_137 G  ad ln p1 p2 K5 K101 K201 K214 K287 post x3 x4 al) : zB G Z rmX11_put 8 zTR ad ln 0 0 137 [(0, .ref (ad 0)), (1, .int p1), (2, .int p2), (3, .int x3), (4, .int x4)] [] al := by
  unfold vcX11_put_137 at h
  refine zb_iload X dX11_put_137 4 rfl ?_
  refine zb_if_ge X 175 dX11_put_139 (by decide) (fun c1 => ?_) (fun c1 => ?_)
  · have h := h.1 c1
    refine zb_sub [0, 1, 2, 4] rfl ?_
    exact tX11_put_175 X p1 p2 hR hK5 hK101 hK201 hK214 hK287 x4 al h
  · have h := h.2 c1
    refine zb_aload_n X dX11_put_142 rfl 0 rfl ?_
    refine zb_getR X 0 (by decide) 11 [3, 4, 5, 6, 7, 8, 9, 10, 11, 0, 12, 0, 0, 0, 0, 0, 0, 0, 0, 0, 0, 0, 0, 13, 14, 15, 16, 17, 0, 18, 19, 20, 21, 0, 0, 0, 22, 23, 24, 25, 0, 0, 26, 27, 28, 29, 0, 0, 0, 30, 0] rfl (C := RX11) (Tt := TX11) (N := 51) rfl kX11_put_1 31 (by decide) 18 rfl kX11_put_11 rfl dX11_put_143 ?_
    refine zb_iload_n X dX11_put_146 rfl 1 rfl ?_
    obtain ⟨hz, h⟩ := h
    refine zb_iald X 18 (by decide) 1 48 0 0 rfl (Or.inl rfl) p1.toNatClampNeg rfl hz dX11_put_147 (al 18 p1.toNatClampNeg) rfl ?_
    refine zb_if_lt X 172 dX11_put_148 (by decide) (fun c2 => ?_) (fun c2 => ?_)
    · have h := h.1 c2
      refine zb_sub [0, 1, 2, 3] rfl ?_
      exact tX11_put_172 X p1 p2 hR hK5 hK101 hK201 hK214 hK287 x3 al h
    · have h := h.2 c2
      refine zb_iload_n X dX11_put_151 rfl 3 rfl ?_
      refine zb_aload_n X dX11_put_152 rfl 0 rfl ?_
      refine zb_getR X 0 (by decide) 11 [3, 4, 5, 6, 7, 8, 9, 10, 11, 0, 12, 0, 0, 0, 0, 0, 0, 0, 0, 0, 0, 0, 0, 13, 14, 15, 16, 17, 0, 18, 19, 20, 21, 0, 0, 0, 22, 23, 24, 25, 0, 0, 26, 27, 28, 29, 0, 0, 0, 30, 0] rfl (C := RX11) (Tt := TX11) (N := 51) rfl kX11_put_1 31 (by decide) 18 rfl kX11_put_11 rfl dX11_put_153 ?_
      refine zb_iload_n X dX11_put_156 rfl 1 rfl ?_
      obtain ⟨hz, h⟩ := h
      refine zb_iald X 18 (by decide) 1 48 0 0 rfl (Or.inl rfl) p1.toNatClampNeg rfl hz dX11_put_157 (al 18 p1.toNatClampNeg) rfl ?_
      refine zb_icmp_gt X 172 dX11_put_158 (by decide) (fun c3 => ?_) (fun c3 => ?_)
      · have h := h.1 c3
        refine zb_sub [0, 1, 2, 3] rfl ?_
        exact tX11_put_172 X p1 p2 hR hK5 hK101 hK201 hK214 hK287 x3 al h
      · have h := h.2 c3
        refine zb_aload_n X dX11_put_161 rfl 0 rfl ?_
        refine zb_getR X 0 (by decide) 11 [3, 4, 5, 6, 7, 8, 9, 10, 11, 0, 12, 0, 0, 0, 0, 0, 0, 0, 0, 0, 0, 0, 0, 13, 14, 15, 16, 17, 0, 18, 19, 20, 21, 0, 0, 0, 22, 23, 24, 25, 0, 0, 26, 27, 28, 29, 0, 0, 0, 30, 0] rfl (C := RX11) (Tt := TX11) (N := 51) rfl kX11_put_1 31 (by decide) 18 rfl kX11_put_11 rfl dX11_put_162 ?_
        refine zb_iload_n X dX11_put_165 rfl 1 rfl ?_
        obtain ⟨hz, h⟩ := h
        refine zb_iald X 18 (by decide) 1 48 0 0 rfl (Or.inl rfl) p1.toNatClampNeg rfl hz dX11_put_166 (al 18 p1.toNatClampNeg) rfl ?_
        refine zb_iconst X (1 : Int32) dX11_put_167 (by decide) ?_
        refine zb_iadd X dX11_put_168 ?_
        refine zb_goto X 173 dX11_put_169 (by decide) ?_
        refine zb_sub [0, 1, 2] rfl ?_
        exact tX11_put_173 X p1 p2 hR hK5 hK101 hK201 hK214 hK287 ((al 18 p1.toNatClampNeg) + (1 : Int32)) al h
set_option maxRecDepth 20000 in
theorem tX11_put_131 {G : zG} {Z : zC}  {ad ln : Nat → Nat} (X : zX G Z cX11_put 8 RX11 wsX11_put) (p1 : Int32) (p2 : Int32) {K5 : Int32 → Int32 → (Nat → Nat → Int32) → Prop} {K101 : Int32 → Int32 → Int32 → (Nat → Nat → Int32) → Prop} {K201 : Int32 → Int32 → (Nat → Nat → Int32) → Prop} {K214 : Int32 → Int32 → Int32 → (Nat → Nat → Int32) → Prop} {K287 : Int32 → (Nat → Nat → Int32) → Prop} {post : (Nat → Nat → Int32) → Prop} (hR : zRv G Z rmX11_put 8 zTR ad ln cX11_put post) (hK5 : ∀ x3 x4 : Int32, ∀ al, K5 x3 x4 al → zB G Z rmX11_put 8 zTR ad ln 0 0 5 [(0, .ref (ad 0)), (1, .int p1), (2, .int p2), (3, .int x3), (4, .int x4)] [] al) (hK101 : ∀ x3 x4 x5 : Int32, ∀ al, K101 x3 x4 x5 al → zB G Z rmX11_put 8 zTR ad ln 0 0 101 [(0, .ref (ad 0)), (1, .int p1), (2, .int p2), (3, .int x3), (4, .int x4), (5, .int x5)] [] al) (hK201 : ∀ x4 x5 : Int32, ∀ al, K201 x4 x5 al → zB G Z rmX11_put 8 zTR ad ln 0 0 201 [(0, .ref (ad 0)), (1, .int p1), (2, .int p2), (4, .int x4), (5, .int x5)] [] al) (hK214 : ∀ x4 x5 x6 : Int32, ∀ al, K214 x4 x5 x6 al → zB G Z rmX11_put 8 zTR ad ln 0 0 214 [(0, .ref (ad 0)), (1, .int p1), (2, .int p2), (4, .int x4), (5, .int x5), (6, .int x6)] [] al) (hK287 : ∀ x5 : Int32, ∀ al, K287 x5 al → zB G Z rmX11_put 8 zTR ad ln 0 0 287 [(0, .ref (ad 0)), (1, .int p1), (2, .int p2), (5, .int x5)] [] al) (x3 x4 x5 : Int32) (al : Nat → Nat → Int32) (h : vcX11_put_131 G  ad ln p1 p2 K5 K101 K201 K214 K287 post x3 x4 x5 al) : zB G Z rmX11_put 8 zTR ad ln 0 0 131 [(0, .ref (ad 0)), (1, .int p1), (2, .int p2), (3, .int x3), (4, .int x4), (5, .int x5)] [] al := by
  unfold vcX11_put_131 at h
  refine zb_iinc X (lv' := [(5, .int (x5 + (1 : Int32))), (0, .ref (ad 0)), (1, .int p1), (2, .int p2), (3, .int x3), (4, .int x4)]) (x5 + (1 : Int32)) dX11_put_131 5 rfl rfl (by decide) rfl ?_
  refine zb_goto X 101 dX11_put_134 (by decide) ?_
  refine zb_sub [1, 2, 3, 4, 5, 0] rfl ?_
  exact hK101 x3 x4 (x5 + (1 : Int32)) al h
set_option maxRecDepth 20000 in
theorem tX11_put_101 {G : zG} {Z : zC}  {ad ln : Nat → Nat} (X : zX G Z cX11_put 8 RX11 wsX11_put) (p1 : Int32) (p2 : Int32) {K5 : Int32 → Int32 → (Nat → Nat → Int32) → Prop} {K101 : Int32 → Int32 → Int32 → (Nat → Nat → Int32) → Prop} {K201 : Int32 → Int32 → (Nat → Nat → Int32) → Prop} {K214 : Int32 → Int32 → Int32 → (Nat → Nat → Int32) → Prop} {K287 : Int32 → (Nat → Nat → Int32) → Prop} {post : (Nat → Nat → Int32) → Prop} (hR : zRv G Z rmX11_put 8 zTR ad ln cX11_put post) (hK5 : ∀ x3 x4 : Int32, ∀ al, K5 x3 x4 al → zB G Z rmX11_put 8 zTR ad ln 0 0 5 [(0, .ref (ad 0)), (1, .int p1), (2, .int p2), (3, .int x3), (4, .int x4)] [] al) (hK101 : ∀ x3 x4 x5 : Int32, ∀ al, K101 x3 x4 x5 al → zB G Z rmX11_put 8 zTR ad ln 0 0 101 [(0, .ref (ad 0)), (1, .int p1), (2, .int p2), (3, .int x3), (4, .int x4), (5, .int x5)] [] al) (hK201 : ∀ x4 x5 : Int32, ∀ al, K201 x4 x5 al → zB G Z rmX11_put 8 zTR ad ln 0 0 201 [(0, .ref (ad 0)), (1, .int p1), (2, .int p2), (4, .int x4), (5, .int x5)] [] al) (hK214 : ∀ x4 x5 x6 : Int32, ∀ al, K214 x4 x5 x6 al → zB G Z rmX11_put 8 zTR ad ln 0 0 214 [(0, .ref (ad 0)), (1, .int p1), (2, .int p2), (4, .int x4), (5, .int x5), (6, .int x6)] [] al) (hK287 : ∀ x5 : Int32, ∀ al, K287 x5 al → zB G Z rmX11_put 8 zTR ad ln 0 0 287 [(0, .ref (ad 0)), (1, .int p1), (2, .int p2), (5, .int x5)] [] al) (x3 x4 x5 : Int32) (al : Nat → Nat → Int32) (h : vcX11_put_101 G  ad ln p1 p2 K5 K101 K201 K214 K287 post x3 x4 x5 al) : zB G Z rmX11_put 8 zTR ad ln 0 0 101 [(0, .ref (ad 0)), (1, .int p1), (2, .int p2), (3, .int x3), (4, .int x4), (5, .int x5)] [] al := by
  unfold vcX11_put_101 at h
  refine zb_iload X dX11_put_101 5 rfl ?_
  refine zb_iload_n X dX11_put_103 rfl 2 rfl ?_
  refine zb_icmp_ge X 137 dX11_put_104 (by decide) (fun c1 => ?_) (fun c1 => ?_)
  · have h := h.1 c1
    refine zb_sub [0, 1, 2, 3, 4] rfl ?_
    exact tX11_put_137 X p1 p2 hR hK5 hK101 hK201 hK214 hK287 x3 x4 al h
  · have h := h.2 c1
    refine zb_iload X dX11_put_107 4 rfl ?_
    refine zb_if_ge X 137 dX11_put_109 (by decide) (fun c2 => ?_) (fun c2 => ?_)
    · have h := h.1 c2
      refine zb_sub [0, 1, 2, 3, 4] rfl ?_
      exact tX11_put_137 X p1 p2 hR hK5 hK101 hK201 hK214 hK287 x3 x4 al h
    · have h := h.2 c2
      refine zb_aload_n X dX11_put_112 rfl 0 rfl ?_
      refine zb_iload_n X dX11_put_113 rfl 1 rfl ?_
      refine zb_iload_n X dX11_put_114 rfl 3 rfl ?_
      refine zb_iload X dX11_put_115 5 rfl ?_
      refine zb_iadd X dX11_put_117 ?_
      refine zb_iload_n X dX11_put_118 rfl 2 rfl ?_
      refine zb_callVi (n := 3) X 0 (by decide) 11 [3, 4, 5, 6, 7, 8, 9, 10, 11, 0, 12, 0, 0, 0, 0, 0, 0, 0, 0, 0, 0, 0, 0, 13, 14, 15, 16, 17, 0, 18, 19, 20, 21, 0, 0, 0, 22, 23, 24, 25, 0, 0, 26, 27, 28, 29, 0, 0, 0, 30, 0] rfl (C := RX11) (Tt := TX11) (N := 51) rfl h gX11_put_X11_full rfl (by decide +kernel) (by decide) rfl rfl (Nat.le_of_ble_eq_true rfl) dX11_put_119 (kc' := 0) (ks' := 0) rfl rfl (fun q3 a3 h => ?_)
      refine zb_if_ge X 131 dX11_put_122 (by decide) (fun c4 => ?_) (fun c4 => ?_)
      · have h := h.1 c4
        refine zb_sub [0, 1, 2, 3, 4, 5] rfl ?_
        exact tX11_put_131 X p1 p2 hR hK5 hK101 hK201 hK214 hK287 x3 x4 x5 a3 h
      · have h := h.2 c4
        refine zb_iload_n X dX11_put_125 rfl 3 rfl ?_
        refine zb_iload X dX11_put_126 5 rfl ?_
        refine zb_iadd X dX11_put_128 ?_
        refine zb_istore X (lv' := [(4, .int (x3 + x5)), (0, .ref (ad 0)), (1, .int p1), (2, .int p2), (3, .int x3), (5, .int x5)]) dX11_put_129 (by decide) rfl ?_
        refine zb_sub [1, 2, 3, 4, 0, 5] rfl ?_
        exact tX11_put_131 X p1 p2 hR hK5 hK101 hK201 hK214 hK287 x3 (x3 + x5) x5 a3 h
set_option maxRecDepth 20000 in
theorem tX11_put_201 {G : zG} {Z : zC}  {ad ln : Nat → Nat} (X : zX G Z cX11_put 8 RX11 wsX11_put) (p1 : Int32) (p2 : Int32) {K5 : Int32 → Int32 → (Nat → Nat → Int32) → Prop} {K101 : Int32 → Int32 → Int32 → (Nat → Nat → Int32) → Prop} {K201 : Int32 → Int32 → (Nat → Nat → Int32) → Prop} {K214 : Int32 → Int32 → Int32 → (Nat → Nat → Int32) → Prop} {K287 : Int32 → (Nat → Nat → Int32) → Prop} {post : (Nat → Nat → Int32) → Prop} (hR : zRv G Z rmX11_put 8 zTR ad ln cX11_put post) (hK5 : ∀ x3 x4 : Int32, ∀ al, K5 x3 x4 al → zB G Z rmX11_put 8 zTR ad ln 0 0 5 [(0, .ref (ad 0)), (1, .int p1), (2, .int p2), (3, .int x3), (4, .int x4)] [] al) (hK101 : ∀ x3 x4 x5 : Int32, ∀ al, K101 x3 x4 x5 al → zB G Z rmX11_put 8 zTR ad ln 0 0 101 [(0, .ref (ad 0)), (1, .int p1), (2, .int p2), (3, .int x3), (4, .int x4), (5, .int x5)] [] al) (hK201 : ∀ x4 x5 : Int32, ∀ al, K201 x4 x5 al → zB G Z rmX11_put 8 zTR ad ln 0 0 201 [(0, .ref (ad 0)), (1, .int p1), (2, .int p2), (4, .int x4), (5, .int x5)] [] al) (hK214 : ∀ x4 x5 x6 : Int32, ∀ al, K214 x4 x5 x6 al → zB G Z rmX11_put 8 zTR ad ln 0 0 214 [(0, .ref (ad 0)), (1, .int p1), (2, .int p2), (4, .int x4), (5, .int x5), (6, .int x6)] [] al) (hK287 : ∀ x5 : Int32, ∀ al, K287 x5 al → zB G Z rmX11_put 8 zTR ad ln 0 0 287 [(0, .ref (ad 0)), (1, .int p1), (2, .int p2), (5, .int x5)] [] al) (x4 x5 : Int32) (al : Nat → Nat → Int32) (h : vcX11_put_201 G  ad ln p1 p2 K5 K101 K201 K214 K287 post x4 x5 al) : zB G Z rmX11_put 8 zTR ad ln 0 0 201 [(0, .ref (ad 0)), (1, .int p1), (2, .int p2), (4, .int x4), (5, .int x5)] [] al := by
  unfold vcX11_put_201 at h
  refine zb_iload X dX11_put_201 4 rfl ?_
  refine zb_if_lt X 284 dX11_put_203 (by decide) (fun c1 => ?_) (fun c1 => ?_)
  · have h := h.1 c1
    refine zb_iconst X (0 : Int32) dX11_put_284 (by decide) ?_
    refine zb_istore X (lv' := [(5, .int (0 : Int32)), (0, .ref (ad 0)), (1, .int p1), (2, .int p2), (4, .int x4)]) dX11_put_285 (by decide) rfl ?_
    refine zb_sub [1, 2, 3, 0] rfl ?_
    exact hK287 (0 : Int32) al h
  · have h := h.2 c1
    refine zb_aload_n X dX11_put_206 rfl 0 rfl ?_
    refine zb_getI X 0 (by decide) 11 [3, 4, 5, 6, 7, 8, 9, 10, 11, 0, 12, 0, 0, 0, 0, 0, 0, 0, 0, 0, 0, 0, 0, 13, 14, 15, 16, 17, 0, 18, 19, 20, 21, 0, 0, 0, 22, 23, 24, 25, 0, 0, 26, 27, 28, 29, 0, 0, 0, 30, 0] rfl (C := RX11) (Tt := TX11) (N := 51) rfl kX11_put_1 9 (by decide) rfl kX11_put_12 rfl dX11_put_207 (al 0 9) rfl ?_
    refine zb_iconst X (1 : Int32) dX11_put_210 (by decide) ?_
    refine zb_isub X dX11_put_211 ?_
    refine zb_istore X (lv' := [(6, .int ((al 0 9) - (1 : Int32))), (0, .ref (ad 0)), (1, .int p1), (2, .int p2), (4, .int x4), (5, .int x5)]) dX11_put_212 (by decide) rfl ?_
    refine zb_sub [1, 2, 3, 4, 5, 0] rfl ?_
    exact hK214 x4 x5 ((al 0 9) - (1 : Int32)) al h
set_option maxRecDepth 20000 in
theorem tX11_put_257 {G : zG} {Z : zC}  {ad ln : Nat → Nat} (X : zX G Z cX11_put 8 RX11 wsX11_put) (p1 : Int32) (p2 : Int32) {K5 : Int32 → Int32 → (Nat → Nat → Int32) → Prop} {K101 : Int32 → Int32 → Int32 → (Nat → Nat → Int32) → Prop} {K201 : Int32 → Int32 → (Nat → Nat → Int32) → Prop} {K214 : Int32 → Int32 → Int32 → (Nat → Nat → Int32) → Prop} {K287 : Int32 → (Nat → Nat → Int32) → Prop} {post : (Nat → Nat → Int32) → Prop} (hR : zRv G Z rmX11_put 8 zTR ad ln cX11_put post) (hK5 : ∀ x3 x4 : Int32, ∀ al, K5 x3 x4 al → zB G Z rmX11_put 8 zTR ad ln 0 0 5 [(0, .ref (ad 0)), (1, .int p1), (2, .int p2), (3, .int x3), (4, .int x4)] [] al) (hK101 : ∀ x3 x4 x5 : Int32, ∀ al, K101 x3 x4 x5 al → zB G Z rmX11_put 8 zTR ad ln 0 0 101 [(0, .ref (ad 0)), (1, .int p1), (2, .int p2), (3, .int x3), (4, .int x4), (5, .int x5)] [] al) (hK201 : ∀ x4 x5 : Int32, ∀ al, K201 x4 x5 al → zB G Z rmX11_put 8 zTR ad ln 0 0 201 [(0, .ref (ad 0)), (1, .int p1), (2, .int p2), (4, .int x4), (5, .int x5)] [] al) (hK214 : ∀ x4 x5 x6 : Int32, ∀ al, K214 x4 x5 x6 al → zB G Z rmX11_put 8 zTR ad ln 0 0 214 [(0, .ref (ad 0)), (1, .int p1), (2, .int p2), (4, .int x4), (5, .int x5), (6, .int x6)] [] al) (hK287 : ∀ x5 : Int32, ∀ al, K287 x5 al → zB G Z rmX11_put 8 zTR ad ln 0 0 287 [(0, .ref (ad 0)), (1, .int p1), (2, .int p2), (5, .int x5)] [] al) (x4 x5 x6 : Int32) (al : Nat → Nat → Int32) (h : vcX11_put_257 G  ad ln p1 p2 K5 K101 K201 K214 K287 post x4 x5 x6 al) : zB G Z rmX11_put 8 zTR ad ln 0 0 257 [(0, .ref (ad 0)), (1, .int p1), (2, .int p2), (4, .int x4), (5, .int x5), (6, .int x6)] [] al := by
  unfold vcX11_put_257 at h
  refine zb_iinc X (lv' := [(6, .int (x6 + (-1 : Int32))), (0, .ref (ad 0)), (1, .int p1), (2, .int p2), (4, .int x4), (5, .int x5)]) (x6 + (-1 : Int32)) dX11_put_257 5 rfl rfl (by decide) rfl ?_
  refine zb_goto X 214 dX11_put_260 (by decide) ?_
  refine zb_sub [1, 2, 3, 4, 5, 0] rfl ?_
  exact hK214 x4 x5 (x6 + (-1 : Int32)) al h
set_option maxRecDepth 20000 in
theorem tX11_put_214 {G : zG} {Z : zC}  {ad ln : Nat → Nat} (X : zX G Z cX11_put 8 RX11 wsX11_put) (p1 : Int32) (p2 : Int32) {K5 : Int32 → Int32 → (Nat → Nat → Int32) → Prop} {K101 : Int32 → Int32 → Int32 → (Nat → Nat → Int32) → Prop} {K201 : Int32 → Int32 → (Nat → Nat → Int32) → Prop} {K214 : Int32 → Int32 → Int32 → (Nat → Nat → Int32) → Prop} {K287 : Int32 → (Nat → Nat → Int32) → Prop} {post : (Nat → Nat → Int32) → Prop} (hR : zRv G Z rmX11_put 8 zTR ad ln cX11_put post) (hK5 : ∀ x3 x4 : Int32, ∀ al, K5 x3 x4 al → zB G Z rmX11_put 8 zTR ad ln 0 0 5 [(0, .ref (ad 0)), (1, .int p1), (2, .int p2), (3, .int x3), (4, .int x4)] [] al) (hK101 : ∀ x3 x4 x5 : Int32, ∀ al, K101 x3 x4 x5 al → zB G Z rmX11_put 8 zTR ad ln 0 0 101 [(0, .ref (ad 0)), (1, .int p1), (2, .int p2), (3, .int x3), (4, .int x4), (5, .int x5)] [] al) (hK201 : ∀ x4 x5 : Int32, ∀ al, K201 x4 x5 al → zB G Z rmX11_put 8 zTR ad ln 0 0 201 [(0, .ref (ad 0)), (1, .int p1), (2, .int p2), (4, .int x4), (5, .int x5)] [] al) (hK214 : ∀ x4 x5 x6 : Int32, ∀ al, K214 x4 x5 x6 al → zB G Z rmX11_put 8 zTR ad ln 0 0 214 [(0, .ref (ad 0)), (1, .int p1), (2, .int p2), (4, .int x4), (5, .int x5), (6, .int x6)] [] al) (hK287 : ∀ x5 : Int32, ∀ al, K287 x5 al → zB G Z rmX11_put 8 zTR ad ln 0 0 287 [(0, .ref (ad 0)), (1, .int p1), (2, .int p2), (5, .int x5)] [] al) (x4 x5 x6 : Int32) (al : Nat → Nat → Int32) (h : vcX11_put_214 G  ad ln p1 p2 K5 K101 K201 K214 K287 post x4 x5 x6 al) : zB G Z rmX11_put 8 zTR ad ln 0 0 214 [(0, .ref (ad 0)), (1, .int p1), (2, .int p2), (4, .int x4), (5, .int x5), (6, .int x6)] [] al := by
  unfold vcX11_put_214 at h
  refine zb_iload X dX11_put_214 5 rfl ?_
  refine zb_iload_n X dX11_put_216 rfl 1 rfl ?_
  refine zb_icmp_eq X 257 dX11_put_217 (by decide) (fun c1 => ?_) (fun c1 => ?_)
  · have h := h.1 c1
    refine zb_sub [0, 1, 2, 3, 4, 5] rfl ?_
    exact tX11_put_257 X p1 p2 hR hK5 hK101 hK201 hK214 hK287 x4 x5 x6 al h
  · have h := h.2 c1
    refine zb_aload_n X dX11_put_220 rfl 0 rfl ?_
    refine zb_getR X 0 (by decide) 11 [3, 4, 5, 6, 7, 8, 9, 10, 11, 0, 12, 0, 0, 0, 0, 0, 0, 0, 0, 0, 0, 0, 0, 13, 14, 15, 16, 17, 0, 18, 19, 20, 21, 0, 0, 0, 22, 23, 24, 25, 0, 0, 26, 27, 28, 29, 0, 0, 0, 30, 0] rfl (C := RX11) (Tt := TX11) (N := 51) rfl kX11_put_1 30 (by decide) 17 rfl kX11_put_4 rfl dX11_put_221 ?_
    refine zb_iload X dX11_put_224 5 rfl ?_
    obtain ⟨hz, h⟩ := h
    refine zb_iald X 17 (by decide) 1 48 0 0 rfl (Or.inl rfl) x6.toNatClampNeg rfl hz dX11_put_226 (al 17 x6.toNatClampNeg) rfl ?_
    refine zb_if_lt X 257 dX11_put_227 (by decide) (fun c2 => ?_) (fun c2 => ?_)
    · have h := h.1 c2
      refine zb_sub [0, 1, 2, 3, 4, 5] rfl ?_
      exact tX11_put_257 X p1 p2 hR hK5 hK101 hK201 hK214 hK287 x4 x5 x6 al h
    · have h := h.2 c2
      refine zb_aload_n X dX11_put_230 rfl 0 rfl ?_
      refine zb_getR X 0 (by decide) 11 [3, 4, 5, 6, 7, 8, 9, 10, 11, 0, 12, 0, 0, 0, 0, 0, 0, 0, 0, 0, 0, 0, 0, 13, 14, 15, 16, 17, 0, 18, 19, 20, 21, 0, 0, 0, 22, 23, 24, 25, 0, 0, 26, 27, 28, 29, 0, 0, 0, 30, 0] rfl (C := RX11) (Tt := TX11) (N := 51) rfl kX11_put_1 30 (by decide) 17 rfl kX11_put_4 rfl dX11_put_231 ?_
      refine zb_iload X dX11_put_234 5 rfl ?_
      obtain ⟨hz, h⟩ := h
      refine zb_iald X 17 (by decide) 1 48 0 0 rfl (Or.inl rfl) x6.toNatClampNeg rfl hz dX11_put_236 (al 17 x6.toNatClampNeg) rfl ?_
      refine zb_iload_n X dX11_put_237 rfl 2 rfl ?_
      obtain ⟨hz, h⟩ := h
      refine zb_irem X dX11_put_238 hz ?_
      refine zb_iload X dX11_put_239 3 rfl ?_
      refine zb_iload_n X dX11_put_241 rfl 2 rfl ?_
      obtain ⟨hz, h⟩ := h
      refine zb_irem X dX11_put_242 hz ?_
      refine zb_icmp_ne X 257 dX11_put_243 (by decide) (fun c3 => ?_) (fun c3 => ?_)
      · have h := h.1 c3
        refine zb_sub [0, 1, 2, 3, 4, 5] rfl ?_
        exact tX11_put_257 X p1 p2 hR hK5 hK101 hK201 hK214 hK287 x4 x5 x6 al h
      · have h := h.2 c3
        refine zb_aload_n X dX11_put_246 rfl 0 rfl ?_
        refine zb_iload X dX11_put_247 5 rfl ?_
        refine zb_iload X dX11_put_249 4 rfl ?_
        refine zb_callVi (n := 2) X 0 (by decide) 11 [3, 4, 5, 6, 7, 8, 9, 10, 11, 0, 12, 0, 0, 0, 0, 0, 0, 0, 0, 0, 0, 0, 0, 13, 14, 15, 16, 17, 0, 18, 19, 20, 21, 0, 0, 0, 22, 23, 24, 25, 0, 0, 26, 27, 28, 29, 0, 0, 0, 30, 0] rfl (C := RX11) (Tt := TX11) (N := 51) rfl h gX11_put_X11_isIn rfl (by decide +kernel) (by decide) rfl rfl (Nat.le_of_ble_eq_true rfl) dX11_put_251 (kc' := 0) (ks' := 0) rfl rfl (fun q4 a4 h => ?_)
        refine zb_if_ne X 263 dX11_put_254 (by decide) (fun c5 => ?_) (fun c5 => ?_)
        · have h := h.1 c5
          refine zb_aload_n X dX11_put_263 rfl 0 rfl ?_
          refine zb_getR X 0 (by decide) 11 [3, 4, 5, 6, 7, 8, 9, 10, 11, 0, 12, 0, 0, 0, 0, 0, 0, 0, 0, 0, 0, 0, 0, 13, 14, 15, 16, 17, 0, 18, 19, 20, 21, 0, 0, 0, 22, 23, 24, 25, 0, 0, 26, 27, 28, 29, 0, 0, 0, 30, 0] rfl (C := RX11) (Tt := TX11) (N := 51) rfl kX11_put_1 30 (by decide) 17 rfl kX11_put_4 rfl dX11_put_264 ?_
          refine zb_iload X dX11_put_267 5 rfl ?_
          refine zb_iconst X (-1 : Int32) dX11_put_269 (by decide) ?_
          obtain ⟨hz, h⟩ := h
          refine zb_iast X 17 (by decide) 1 48 0 0 rfl (Or.inl rfl) x6.toNatClampNeg rfl hz dX11_put_270 ?_
          refine zb_aload_n X dX11_put_271 rfl 0 rfl ?_
          refine zb_iload_n X dX11_put_272 rfl 1 rfl ?_
          refine zb_iload X dX11_put_273 3 rfl ?_
          refine zb_iload_n X dX11_put_275 rfl 2 rfl ?_
          refine zb_callVi (n := 3) X 0 (by decide) 11 [3, 4, 5, 6, 7, 8, 9, 10, 11, 0, 12, 0, 0, 0, 0, 0, 0, 0, 0, 0, 0, 0, 0, 13, 14, 15, 16, 17, 0, 18, 19, 20, 21, 0, 0, 0, 22, 23, 24, 25, 0, 0, 26, 27, 28, 29, 0, 0, 0, 30, 0] rfl (C := RX11) (Tt := TX11) (N := 51) rfl h gX11_put_X11_full rfl (by decide +kernel) (by decide) rfl rfl (Nat.le_of_ble_eq_true rfl) dX11_put_276 (kc' := 0) (ks' := 0) rfl rfl (fun q6 a6 h => ?_)
          refine zb_istore X (lv' := [(5, .int q6), (0, .ref (ad 0)), (1, .int p1), (2, .int p2), (4, .int x4), (6, .int x6)]) dX11_put_279 (by decide) rfl ?_
          refine zb_goto X 201 dX11_put_281 (by decide) ?_
          refine zb_sub [1, 2, 3, 4, 0] rfl ?_
          exact hK201 x4 q6 a6 h
        · have h := h.2 c5
          refine zb_sub [0, 1, 2, 3, 4, 5] rfl ?_
          exact tX11_put_257 X p1 p2 hR hK5 hK101 hK201 hK214 hK287 x4 x5 x6 a4 h
set_option maxRecDepth 20000 in
theorem tX11_put_410 {G : zG} {Z : zC}  {ad ln : Nat → Nat} (X : zX G Z cX11_put 8 RX11 wsX11_put) (p1 : Int32) (p2 : Int32) {K5 : Int32 → Int32 → (Nat → Nat → Int32) → Prop} {K101 : Int32 → Int32 → Int32 → (Nat → Nat → Int32) → Prop} {K201 : Int32 → Int32 → (Nat → Nat → Int32) → Prop} {K214 : Int32 → Int32 → Int32 → (Nat → Nat → Int32) → Prop} {K287 : Int32 → (Nat → Nat → Int32) → Prop} {post : (Nat → Nat → Int32) → Prop} (hR : zRv G Z rmX11_put 8 zTR ad ln cX11_put post) (hK5 : ∀ x3 x4 : Int32, ∀ al, K5 x3 x4 al → zB G Z rmX11_put 8 zTR ad ln 0 0 5 [(0, .ref (ad 0)), (1, .int p1), (2, .int p2), (3, .int x3), (4, .int x4)] [] al) (hK101 : ∀ x3 x4 x5 : Int32, ∀ al, K101 x3 x4 x5 al → zB G Z rmX11_put 8 zTR ad ln 0 0 101 [(0, .ref (ad 0)), (1, .int p1), (2, .int p2), (3, .int x3), (4, .int x4), (5, .int x5)] [] al) (hK201 : ∀ x4 x5 : Int32, ∀ al, K201 x4 x5 al → zB G Z rmX11_put 8 zTR ad ln 0 0 201 [(0, .ref (ad 0)), (1, .int p1), (2, .int p2), (4, .int x4), (5, .int x5)] [] al) (hK214 : ∀ x4 x5 x6 : Int32, ∀ al, K214 x4 x5 x6 al → zB G Z rmX11_put 8 zTR ad ln 0 0 214 [(0, .ref (ad 0)), (1, .int p1), (2, .int p2), (4, .int x4), (5, .int x5), (6, .int x6)] [] al) (hK287 : ∀ x5 : Int32, ∀ al, K287 x5 al → zB G Z rmX11_put 8 zTR ad ln 0 0 287 [(0, .ref (ad 0)), (1, .int p1), (2, .int p2), (5, .int x5)] [] al) (x5 : Int32) (al : Nat → Nat → Int32) (h : vcX11_put_410 G  ad ln p1 p2 K5 K101 K201 K214 K287 post x5 al) : zB G Z rmX11_put 8 zTR ad ln 0 0 410 [(0, .ref (ad 0)), (1, .int p1), (2, .int p2), (5, .int x5)] [] al := by
  unfold vcX11_put_410 at h
  refine zb_iinc X (lv' := [(5, .int (x5 + (1 : Int32))), (0, .ref (ad 0)), (1, .int p1), (2, .int p2)]) (x5 + (1 : Int32)) dX11_put_410 3 rfl rfl (by decide) rfl ?_
  refine zb_goto X 287 dX11_put_413 (by decide) ?_
  refine zb_sub [1, 2, 3, 0] rfl ?_
  exact hK287 (x5 + (1 : Int32)) al h
set_option maxRecDepth 20000 in
theorem tX11_put_408 {G : zG} {Z : zC}  {ad ln : Nat → Nat} (X : zX G Z cX11_put 8 RX11 wsX11_put) (p1 : Int32) (p2 : Int32) {K5 : Int32 → Int32 → (Nat → Nat → Int32) → Prop} {K101 : Int32 → Int32 → Int32 → (Nat → Nat → Int32) → Prop} {K201 : Int32 → Int32 → (Nat → Nat → Int32) → Prop} {K214 : Int32 → Int32 → Int32 → (Nat → Nat → Int32) → Prop} {K287 : Int32 → (Nat → Nat → Int32) → Prop} {post : (Nat → Nat → Int32) → Prop} (hR : zRv G Z rmX11_put 8 zTR ad ln cX11_put post) (hK5 : ∀ x3 x4 : Int32, ∀ al, K5 x3 x4 al → zB G Z rmX11_put 8 zTR ad ln 0 0 5 [(0, .ref (ad 0)), (1, .int p1), (2, .int p2), (3, .int x3), (4, .int x4)] [] al) (hK101 : ∀ x3 x4 x5 : Int32, ∀ al, K101 x3 x4 x5 al → zB G Z rmX11_put 8 zTR ad ln 0 0 101 [(0, .ref (ad 0)), (1, .int p1), (2, .int p2), (3, .int x3), (4, .int x4), (5, .int x5)] [] al) (hK201 : ∀ x4 x5 : Int32, ∀ al, K201 x4 x5 al → zB G Z rmX11_put 8 zTR ad ln 0 0 201 [(0, .ref (ad 0)), (1, .int p1), (2, .int p2), (4, .int x4), (5, .int x5)] [] al) (hK214 : ∀ x4 x5 x6 : Int32, ∀ al, K214 x4 x5 x6 al → zB G Z rmX11_put 8 zTR ad ln 0 0 214 [(0, .ref (ad 0)), (1, .int p1), (2, .int p2), (4, .int x4), (5, .int x5), (6, .int x6)] [] al) (hK287 : ∀ x5 : Int32, ∀ al, K287 x5 al → zB G Z rmX11_put 8 zTR ad ln 0 0 287 [(0, .ref (ad 0)), (1, .int p1), (2, .int p2), (5, .int x5)] [] al) (x5 s0 : Int32) (al : Nat → Nat → Int32) (h : vcX11_put_408 G  ad ln p1 p2 K5 K101 K201 K214 K287 post x5 s0 al) : zB G Z rmX11_put 8 zTR ad ln 0 0 408 [(0, .ref (ad 0)), (1, .int p1), (2, .int p2), (5, .int x5)] [.int s0, .ref (ad 17)] al := by
  unfold vcX11_put_408 at h
  refine zb_iconst X (-1 : Int32) dX11_put_408 (by decide) ?_
  obtain ⟨hz, h⟩ := h
  refine zb_iast X 17 (by decide) 1 48 0 0 rfl (Or.inl rfl) s0.toNatClampNeg rfl hz dX11_put_409 ?_
  refine zb_sub [0, 1, 2, 3] rfl ?_
  exact tX11_put_410 X p1 p2 hR hK5 hK101 hK201 hK214 hK287 x5 (up2 al 17 s0.toNatClampNeg (-1 : Int32)) h
set_option maxRecDepth 20000 in
theorem tX11_put_333 {G : zG} {Z : zC}  {ad ln : Nat → Nat} (X : zX G Z cX11_put 8 RX11 wsX11_put) (p1 : Int32) (p2 : Int32) {K5 : Int32 → Int32 → (Nat → Nat → Int32) → Prop} {K101 : Int32 → Int32 → Int32 → (Nat → Nat → Int32) → Prop} {K201 : Int32 → Int32 → (Nat → Nat → Int32) → Prop} {K214 : Int32 → Int32 → Int32 → (Nat → Nat → Int32) → Prop} {K287 : Int32 → (Nat → Nat → Int32) → Prop} {post : (Nat → Nat → Int32) → Prop} (hR : zRv G Z rmX11_put 8 zTR ad ln cX11_put post) (hK5 : ∀ x3 x4 : Int32, ∀ al, K5 x3 x4 al → zB G Z rmX11_put 8 zTR ad ln 0 0 5 [(0, .ref (ad 0)), (1, .int p1), (2, .int p2), (3, .int x3), (4, .int x4)] [] al) (hK101 : ∀ x3 x4 x5 : Int32, ∀ al, K101 x3 x4 x5 al → zB G Z rmX11_put 8 zTR ad ln 0 0 101 [(0, .ref (ad 0)), (1, .int p1), (2, .int p2), (3, .int x3), (4, .int x4), (5, .int x5)] [] al) (hK201 : ∀ x4 x5 : Int32, ∀ al, K201 x4 x5 al → zB G Z rmX11_put 8 zTR ad ln 0 0 201 [(0, .ref (ad 0)), (1, .int p1), (2, .int p2), (4, .int x4), (5, .int x5)] [] al) (hK214 : ∀ x4 x5 x6 : Int32, ∀ al, K214 x4 x5 x6 al → zB G Z rmX11_put 8 zTR ad ln 0 0 214 [(0, .ref (ad 0)), (1, .int p1), (2, .int p2), (4, .int x4), (5, .int x5), (6, .int x6)] [] al) (hK287 : ∀ x5 : Int32, ∀ al, K287 x5 al → zB G Z rmX11_put 8 zTR ad ln 0 0 287 [(0, .ref (ad 0)), (1, .int p1), (2, .int p2), (5, .int x5)] [] al) (x5 x6 x7 : Int32) (al : Nat → Nat → Int32) (h : vcX11_put_333 G  ad ln p1 p2 K5 K101 K201 K214 K287 post x5 x6 x7 al) : zB G Z rmX11_put 8 zTR ad ln 0 0 333 [(0, .ref (ad 0)), (1, .int p1), (2, .int p2), (5, .int x5), (6, .int x6), (7, .int x7)] [] al := by
  unfold vcX11_put_333 at h
  refine zb_aload_n X dX11_put_333 rfl 0 rfl ?_
  refine zb_getR X 0 (by decide) 11 [3, 4, 5, 6, 7, 8, 9, 10, 11, 0, 12, 0, 0, 0, 0, 0, 0, 0, 0, 0, 0, 0, 0, 13, 14, 15, 16, 17, 0, 18, 19, 20, 21, 0, 0, 0, 22, 23, 24, 25, 0, 0, 26, 27, 28, 29, 0, 0, 0, 30, 0] rfl (C := RX11) (Tt := TX11) (N := 51) rfl kX11_put_1 30 (by decide) 17 rfl kX11_put_4 rfl dX11_put_334 ?_
  refine zb_iload X dX11_put_337 4 rfl ?_
  obtain ⟨hz, h⟩ := h
  refine zb_iald X 17 (by decide) 1 48 0 0 rfl (Or.inl rfl) x6.toNatClampNeg rfl hz dX11_put_339 (al 17 x6.toNatClampNeg) rfl ?_
  refine zb_if_lt X 410 dX11_put_340 (by decide) (fun c1 => ?_) (fun c1 => ?_)
  · have h := h.1 c1
    refine zb_sub [0, 1, 2, 3] rfl ?_
    exact tX11_put_410 X p1 p2 hR hK5 hK101 hK201 hK214 hK287 x5 al h
  · have h := h.2 c1
    refine zb_aload_n X dX11_put_343 rfl 0 rfl ?_
    refine zb_getR X 0 (by decide) 11 [3, 4, 5, 6, 7, 8, 9, 10, 11, 0, 12, 0, 0, 0, 0, 0, 0, 0, 0, 0, 0, 0, 0, 13, 14, 15, 16, 17, 0, 18, 19, 20, 21, 0, 0, 0, 22, 23, 24, 25, 0, 0, 26, 27, 28, 29, 0, 0, 0, 30, 0] rfl (C := RX11) (Tt := TX11) (N := 51) rfl kX11_put_1 30 (by decide) 17 rfl kX11_put_4 rfl dX11_put_344 ?_
    refine zb_iload X dX11_put_347 5 rfl ?_
    obtain ⟨hz, h⟩ := h
    refine zb_iald X 17 (by decide) 1 48 0 0 rfl (Or.inl rfl) x7.toNatClampNeg rfl hz dX11_put_349 (al 17 x7.toNatClampNeg) rfl ?_
    refine zb_if_ge X 356 dX11_put_350 (by decide) (fun c2 => ?_) (fun c2 => ?_)
    · have h := h.1 c2
      refine zb_aload_n X dX11_put_356 rfl 0 rfl ?_
      refine zb_getR X 0 (by decide) 11 [3, 4, 5, 6, 7, 8, 9, 10, 11, 0, 12, 0, 0, 0, 0, 0, 0, 0, 0, 0, 0, 0, 0, 13, 14, 15, 16, 17, 0, 18, 19, 20, 21, 0, 0, 0, 22, 23, 24, 25, 0, 0, 26, 27, 28, 29, 0, 0, 0, 30, 0] rfl (C := RX11) (Tt := TX11) (N := 51) rfl kX11_put_1 30 (by decide) 17 rfl kX11_put_4 rfl dX11_put_357 ?_
      refine zb_iload X dX11_put_360 5 rfl ?_
      obtain ⟨hz, h⟩ := h
      refine zb_iald X 17 (by decide) 1 48 0 0 rfl (Or.inl rfl) x7.toNatClampNeg rfl hz dX11_put_362 (al 17 x7.toNatClampNeg) rfl ?_
      refine zb_aload_n X dX11_put_363 rfl 0 rfl ?_
      refine zb_getR X 0 (by decide) 11 [3, 4, 5, 6, 7, 8, 9, 10, 11, 0, 12, 0, 0, 0, 0, 0, 0, 0, 0, 0, 0, 0, 0, 13, 14, 15, 16, 17, 0, 18, 19, 20, 21, 0, 0, 0, 22, 23, 24, 25, 0, 0, 26, 27, 28, 29, 0, 0, 0, 30, 0] rfl (C := RX11) (Tt := TX11) (N := 51) rfl kX11_put_1 26 (by decide) 14 rfl kX11_put_6 rfl dX11_put_364 ?_
      refine zb_iload X dX11_put_367 3 rfl ?_
      obtain ⟨hz, h⟩ := h
      refine zb_iald X 14 (by decide) 1 4608 0 0 rfl (Or.inl rfl) x5.toNatClampNeg rfl hz dX11_put_369 (al 14 x5.toNatClampNeg) rfl ?_
      refine zb_iload_n X dX11_put_370 rfl 2 rfl ?_
      refine zb_imul X dX11_put_371 ?_
      refine zb_iadd X dX11_put_372 ?_
      refine zb_aload_n X dX11_put_373 rfl 0 rfl ?_
      refine zb_getR X 0 (by decide) 11 [3, 4, 5, 6, 7, 8, 9, 10, 11, 0, 12, 0, 0, 0, 0, 0, 0, 0, 0, 0, 0, 0, 0, 13, 14, 15, 16, 17, 0, 18, 19, 20, 21, 0, 0, 0, 22, 23, 24, 25, 0, 0, 26, 27, 28, 29, 0, 0, 0, 30, 0] rfl (C := RX11) (Tt := TX11) (N := 51) rfl kX11_put_1 30 (by decide) 17 rfl kX11_put_4 rfl dX11_put_374 ?_
      refine zb_iload X dX11_put_377 4 rfl ?_
      obtain ⟨hz, h⟩ := h
      refine zb_iald X 17 (by decide) 1 48 0 0 rfl (Or.inl rfl) x6.toNatClampNeg rfl hz dX11_put_379 (al 17 x6.toNatClampNeg) rfl ?_
      refine zb_aload_n X dX11_put_380 rfl 0 rfl ?_
      refine zb_getR X 0 (by decide) 11 [3, 4, 5, 6, 7, 8, 9, 10, 11, 0, 12, 0, 0, 0, 0, 0, 0, 0, 0, 0, 0, 0, 0, 13, 14, 15, 16, 17, 0, 18, 19, 20, 21, 0, 0, 0, 22, 23, 24, 25, 0, 0, 26, 27, 28, 29, 0, 0, 0, 30, 0] rfl (C := RX11) (Tt := TX11) (N := 51) rfl kX11_put_1 27 (by decide) 15 rfl kX11_put_5 rfl dX11_put_381 ?_
      refine zb_iload X dX11_put_384 3 rfl ?_
      obtain ⟨hz, h⟩ := h
      refine zb_iald X 15 (by decide) 1 4608 0 0 rfl (Or.inl rfl) x5.toNatClampNeg rfl hz dX11_put_386 (al 15 x5.toNatClampNeg) rfl ?_
      refine zb_iadd X dX11_put_387 ?_
      refine zb_icmp_ge X 410 dX11_put_388 (by decide) (fun c3 => ?_) (fun c3 => ?_)
      · have h := h.1 c3
        refine zb_sub [0, 1, 2, 3] rfl ?_
        exact tX11_put_410 X p1 p2 hR hK5 hK101 hK201 hK214 hK287 x5 al h
      · have h := h.2 c3
        refine zb_aload_n X dX11_put_391 rfl 0 rfl ?_
        refine zb_getR X 0 (by decide) 11 [3, 4, 5, 6, 7, 8, 9, 10, 11, 0, 12, 0, 0, 0, 0, 0, 0, 0, 0, 0, 0, 0, 0, 13, 14, 15, 16, 17, 0, 18, 19, 20, 21, 0, 0, 0, 22, 23, 24, 25, 0, 0, 26, 27, 28, 29, 0, 0, 0, 30, 0] rfl (C := RX11) (Tt := TX11) (N := 51) rfl kX11_put_1 30 (by decide) 17 rfl kX11_put_4 rfl dX11_put_392 ?_
        refine zb_iload X dX11_put_395 4 rfl ?_
        refine zb_iload_n X dX11_put_397 rfl 1 rfl ?_
        refine zb_icmp_ne X 406 dX11_put_398 (by decide) (fun c4 => ?_) (fun c4 => ?_)
        · have h := h.1 c4
          refine zb_iload X dX11_put_406 4 rfl ?_
          refine zb_sub [0, 1, 2, 3] rfl ?_
          exact tX11_put_408 X p1 p2 hR hK5 hK101 hK201 hK214 hK287 x5 x6 al h
        · have h := h.2 c4
          refine zb_iload X dX11_put_401 5 rfl ?_
          refine zb_goto X 408 dX11_put_403 (by decide) ?_
          refine zb_sub [0, 1, 2, 3] rfl ?_
          exact tX11_put_408 X p1 p2 hR hK5 hK101 hK201 hK214 hK287 x5 x7 al h
    · have h := h.2 c2
      refine zb_goto X 410 dX11_put_353 (by decide) ?_
      refine zb_sub [0, 1, 2, 3] rfl ?_
      exact tX11_put_410 X p1 p2 hR hK5 hK101 hK201 hK214 hK287 x5 al h
set_option maxRecDepth 20000 in
theorem tX11_put_287 {G : zG} {Z : zC}  {ad ln : Nat → Nat} (X : zX G Z cX11_put 8 RX11 wsX11_put) (p1 : Int32) (p2 : Int32) {K5 : Int32 → Int32 → (Nat → Nat → Int32) → Prop} {K101 : Int32 → Int32 → Int32 → (Nat → Nat → Int32) → Prop} {K201 : Int32 → Int32 → (Nat → Nat → Int32) → Prop} {K214 : Int32 → Int32 → Int32 → (Nat → Nat → Int32) → Prop} {K287 : Int32 → (Nat → Nat → Int32) → Prop} {post : (Nat → Nat → Int32) → Prop} (hR : zRv G Z rmX11_put 8 zTR ad ln cX11_put post) (hK5 : ∀ x3 x4 : Int32, ∀ al, K5 x3 x4 al → zB G Z rmX11_put 8 zTR ad ln 0 0 5 [(0, .ref (ad 0)), (1, .int p1), (2, .int p2), (3, .int x3), (4, .int x4)] [] al) (hK101 : ∀ x3 x4 x5 : Int32, ∀ al, K101 x3 x4 x5 al → zB G Z rmX11_put 8 zTR ad ln 0 0 101 [(0, .ref (ad 0)), (1, .int p1), (2, .int p2), (3, .int x3), (4, .int x4), (5, .int x5)] [] al) (hK201 : ∀ x4 x5 : Int32, ∀ al, K201 x4 x5 al → zB G Z rmX11_put 8 zTR ad ln 0 0 201 [(0, .ref (ad 0)), (1, .int p1), (2, .int p2), (4, .int x4), (5, .int x5)] [] al) (hK214 : ∀ x4 x5 x6 : Int32, ∀ al, K214 x4 x5 x6 al → zB G Z rmX11_put 8 zTR ad ln 0 0 214 [(0, .ref (ad 0)), (1, .int p1), (2, .int p2), (4, .int x4), (5, .int x5), (6, .int x6)] [] al) (hK287 : ∀ x5 : Int32, ∀ al, K287 x5 al → zB G Z rmX11_put 8 zTR ad ln 0 0 287 [(0, .ref (ad 0)), (1, .int p1), (2, .int p2), (5, .int x5)] [] al) (x5 : Int32) (al : Nat → Nat → Int32) (h : vcX11_put_287 G  ad ln p1 p2 K5 K101 K201 K214 K287 post x5 al) : zB G Z rmX11_put 8 zTR ad ln 0 0 287 [(0, .ref (ad 0)), (1, .int p1), (2, .int p2), (5, .int x5)] [] al := by
  unfold vcX11_put_287 at h
  refine zb_iload X dX11_put_287 3 rfl ?_
  refine zb_aload_n X dX11_put_289 rfl 0 rfl ?_
  refine zb_getI X 0 (by decide) 11 [3, 4, 5, 6, 7, 8, 9, 10, 11, 0, 12, 0, 0, 0, 0, 0, 0, 0, 0, 0, 0, 0, 0, 13, 14, 15, 16, 17, 0, 18, 19, 20, 21, 0, 0, 0, 22, 23, 24, 25, 0, 0, 26, 27, 28, 29, 0, 0, 0, 30, 0] rfl (C := RX11) (Tt := TX11) (N := 51) rfl kX11_put_1 28 (by decide) rfl kX11_put_0 rfl dX11_put_290 (al 0 28) rfl ?_
  refine zb_icmp_ge X 416 dX11_put_293 (by decide) (fun c1 => ?_) (fun c1 => ?_)
  · have h := h.1 c1
    exact hR 416 _ _ dX11_put_416 h
  · have h := h.2 c1
    refine zb_aload_n X dX11_put_296 rfl 0 rfl ?_
    refine zb_getR X 0 (by decide) 11 [3, 4, 5, 6, 7, 8, 9, 10, 11, 0, 12, 0, 0, 0, 0, 0, 0, 0, 0, 0, 0, 0, 0, 13, 14, 15, 16, 17, 0, 18, 19, 20, 21, 0, 0, 0, 22, 23, 24, 25, 0, 0, 26, 27, 28, 29, 0, 0, 0, 30, 0] rfl (C := RX11) (Tt := TX11) (N := 51) rfl kX11_put_1 24 (by decide) 12 rfl kX11_put_3 rfl dX11_put_297 ?_
    refine zb_iload X dX11_put_300 3 rfl ?_
    obtain ⟨hz, h⟩ := h
    refine zb_iald X 12 (by decide) 1 4608 0 0 rfl (Or.inl rfl) x5.toNatClampNeg rfl hz dX11_put_302 (al 12 x5.toNatClampNeg) rfl ?_
    refine zb_istore X (lv' := [(6, .int (al 12 x5.toNatClampNeg)), (0, .ref (ad 0)), (1, .int p1), (2, .int p2), (5, .int x5)]) dX11_put_303 (by decide) rfl ?_
    refine zb_aload_n X dX11_put_305 rfl 1 rfl ?_
    refine zb_getR X 0 (by decide) 11 [3, 4, 5, 6, 7, 8, 9, 10, 11, 0, 12, 0, 0, 0, 0, 0, 0, 0, 0, 0, 0, 0, 0, 13, 14, 15, 16, 17, 0, 18, 19, 20, 21, 0, 0, 0, 22, 23, 24, 25, 0, 0, 26, 27, 28, 29, 0, 0, 0, 30, 0] rfl (C := RX11) (Tt := TX11) (N := 51) rfl kX11_put_1 25 (by decide) 13 rfl kX11_put_2 rfl dX11_put_306 ?_
    refine zb_iload X dX11_put_309 4 rfl ?_
    obtain ⟨hz, h⟩ := h
    refine zb_iald X 13 (by decide) 1 4608 0 0 rfl (Or.inl rfl) x5.toNatClampNeg rfl hz dX11_put_311 (al 13 x5.toNatClampNeg) rfl ?_
    refine zb_istore X (lv' := [(7, .int (al 13 x5.toNatClampNeg)), (6, .int (al 12 x5.toNatClampNeg)), (0, .ref (ad 0)), (1, .int p1), (2, .int p2), (5, .int x5)]) dX11_put_312 (by decide) rfl ?_
    refine zb_iload X dX11_put_314 1 rfl ?_
    refine zb_iload X dX11_put_316 0 rfl ?_
    refine zb_icmp_eq X 410 dX11_put_318 (by decide) (fun c2 => ?_) (fun c2 => ?_)
    · have h := h.1 c2
      refine zb_sub [2, 3, 4, 5] rfl ?_
      exact tX11_put_410 X p1 p2 hR hK5 hK101 hK201 hK214 hK287 x5 al h
    · have h := h.2 c2
      refine zb_iload X dX11_put_321 1 rfl ?_
      refine zb_iload_n X dX11_put_323 rfl 3 rfl ?_
      refine zb_icmp_eq X 333 dX11_put_324 (by decide) (fun c3 => ?_) (fun c3 => ?_)
      · have h := h.1 c3
        refine zb_sub [2, 3, 4, 5, 1, 0] rfl ?_
        exact tX11_put_333 X p1 p2 hR hK5 hK101 hK201 hK214 hK287 x5 (al 12 x5.toNatClampNeg) (al 13 x5.toNatClampNeg) al h
      · have h := h.2 c3
        refine zb_iload X dX11_put_327 0 rfl ?_
        refine zb_iload_n X dX11_put_329 rfl 3 rfl ?_
        refine zb_icmp_ne X 410 dX11_put_330 (by decide) (fun c4 => ?_) (fun c4 => ?_)
        · have h := h.1 c4
          refine zb_sub [2, 3, 4, 5] rfl ?_
          exact tX11_put_410 X p1 p2 hR hK5 hK101 hK201 hK214 hK287 x5 al h
        · have h := h.2 c4
          refine zb_sub [2, 3, 4, 5, 1, 0] rfl ?_
          exact tX11_put_333 X p1 p2 hR hK5 hK101 hK201 hK214 hK287 x5 (al 12 x5.toNatClampNeg) (al 13 x5.toNatClampNeg) al h
theorem uX11_put_0 {G : zG} {Z : zC}  {ad ln : Nat → Nat} (X : zX G Z cX11_put 8 RX11 wsX11_put) (p1 : Int32) (p2 : Int32) {post : (Nat → Nat → Int32) → Prop} (hR : zRv G Z rmX11_put 8 zTR ad ln cX11_put post) (al : Nat → Nat → Int32) (h : vcX11_put_0 G  ad ln p1 p2 (BX11_put_5 G Z  ad ln p1 p2) (BX11_put_101 G Z  ad ln p1 p2) (BX11_put_201 G Z  ad ln p1 p2) (BX11_put_214 G Z  ad ln p1 p2) (BX11_put_287 G Z  ad ln p1 p2) post  al) : zB G Z rmX11_put 8 zTR ad ln 0 0 0 [(0, .ref (ad 0)), (1, .int p1), (2, .int p2)] [] al := tX11_put_0 X p1 p2 hR (fun _ _ _ h => h) (fun _ _ _ _ h => h) (fun _ _ _ h => h) (fun _ _ _ _ h => h) (fun _ _ h => h)  al h
theorem uX11_put_89 {G : zG} {Z : zC}  {ad ln : Nat → Nat} (X : zX G Z cX11_put 8 RX11 wsX11_put) (p1 : Int32) (p2 : Int32) {post : (Nat → Nat → Int32) → Prop} (hR : zRv G Z rmX11_put 8 zTR ad ln cX11_put post) (x3 x4 : Int32) (al : Nat → Nat → Int32) (h : vcX11_put_89 G  ad ln p1 p2 (BX11_put_5 G Z  ad ln p1 p2) (BX11_put_101 G Z  ad ln p1 p2) (BX11_put_201 G Z  ad ln p1 p2) (BX11_put_214 G Z  ad ln p1 p2) (BX11_put_287 G Z  ad ln p1 p2) post x3 x4 al) : zB G Z rmX11_put 8 zTR ad ln 0 0 89 [(0, .ref (ad 0)), (1, .int p1), (2, .int p2), (3, .int x3), (4, .int x4)] [] al := tX11_put_89 X p1 p2 hR (fun _ _ _ h => h) (fun _ _ _ _ h => h) (fun _ _ _ h => h) (fun _ _ _ _ h => h) (fun _ _ h => h) x3 x4 al h
theorem uX11_put_5 {G : zG} {Z : zC}  {ad ln : Nat → Nat} (X : zX G Z cX11_put 8 RX11 wsX11_put) (p1 : Int32) (p2 : Int32) {post : (Nat → Nat → Int32) → Prop} (hR : zRv G Z rmX11_put 8 zTR ad ln cX11_put post) (x3 x4 : Int32) (al : Nat → Nat → Int32) (h : vcX11_put_5 G  ad ln p1 p2 (BX11_put_5 G Z  ad ln p1 p2) (BX11_put_101 G Z  ad ln p1 p2) (BX11_put_201 G Z  ad ln p1 p2) (BX11_put_214 G Z  ad ln p1 p2) (BX11_put_287 G Z  ad ln p1 p2) post x3 x4 al) : zB G Z rmX11_put 8 zTR ad ln 0 0 5 [(0, .ref (ad 0)), (1, .int p1), (2, .int p2), (3, .int x3), (4, .int x4)] [] al := tX11_put_5 X p1 p2 hR (fun _ _ _ h => h) (fun _ _ _ _ h => h) (fun _ _ _ h => h) (fun _ _ _ _ h => h) (fun _ _ h => h) x3 x4 al h
theorem uX11_put_175 {G : zG} {Z : zC}  {ad ln : Nat → Nat} (X : zX G Z cX11_put 8 RX11 wsX11_put) (p1 : Int32) (p2 : Int32) {post : (Nat → Nat → Int32) → Prop} (hR : zRv G Z rmX11_put 8 zTR ad ln cX11_put post) (x4 : Int32) (al : Nat → Nat → Int32) (h : vcX11_put_175 G  ad ln p1 p2 (BX11_put_5 G Z  ad ln p1 p2) (BX11_put_101 G Z  ad ln p1 p2) (BX11_put_201 G Z  ad ln p1 p2) (BX11_put_214 G Z  ad ln p1 p2) (BX11_put_287 G Z  ad ln p1 p2) post x4 al) : zB G Z rmX11_put 8 zTR ad ln 0 0 175 [(0, .ref (ad 0)), (1, .int p1), (2, .int p2), (4, .int x4)] [] al := tX11_put_175 X p1 p2 hR (fun _ _ _ h => h) (fun _ _ _ _ h => h) (fun _ _ _ h => h) (fun _ _ _ _ h => h) (fun _ _ h => h) x4 al h
theorem uX11_put_173 {G : zG} {Z : zC}  {ad ln : Nat → Nat} (X : zX G Z cX11_put 8 RX11 wsX11_put) (p1 : Int32) (p2 : Int32) {post : (Nat → Nat → Int32) → Prop} (hR : zRv G Z rmX11_put 8 zTR ad ln cX11_put post) (s0 : Int32) (al : Nat → Nat → Int32) (h : vcX11_put_173 G  ad ln p1 p2 (BX11_put_5 G Z  ad ln p1 p2) (BX11_put_101 G Z  ad ln p1 p2) (BX11_put_201 G Z  ad ln p1 p2) (BX11_put_214 G Z  ad ln p1 p2) (BX11_put_287 G Z  ad ln p1 p2) post s0 al) : zB G Z rmX11_put 8 zTR ad ln 0 0 173 [(0, .ref (ad 0)), (1, .int p1), (2, .int p2)] [.int s0] al := tX11_put_173 X p1 p2 hR (fun _ _ _ h => h) (fun _ _ _ _ h => h) (fun _ _ _ h => h) (fun _ _ _ _ h => h) (fun _ _ h => h) s0 al h
theorem uX11_put_172 {G : zG} {Z : zC}  {ad ln : Nat → Nat} (X : zX G Z cX11_put 8 RX11 wsX11_put) (p1 : Int32) (p2 : Int32) {post : (Nat → Nat → Int32) → Prop} (hR : zRv G Z rmX11_put 8 zTR ad ln cX11_put post) (x3 : Int32) (al : Nat → Nat → Int32) (h : vcX11_put_172 G  ad ln p1 p2 (BX11_put_5 G Z  ad ln p1 p2) (BX11_put_101 G Z  ad ln p1 p2) (BX11_put_201 G Z  ad ln p1 p2) (BX11_put_214 G Z  ad ln p1 p2) (BX11_put_287 G Z  ad ln p1 p2) post x3 al) : zB G Z rmX11_put 8 zTR ad ln 0 0 172 [(0, .ref (ad 0)), (1, .int p1), (2, .int p2), (3, .int x3)] [] al := tX11_put_172 X p1 p2 hR (fun _ _ _ h => h) (fun _ _ _ _ h => h) (fun _ _ _ h => h) (fun _ _ _ _ h => h) (fun _ _ h => h) x3 al h
theorem uX11_put_137 {G : zG} {Z : zC}  {ad ln : Nat → Nat} (X : zX G Z cX11_put 8 RX11 wsX11_put) (p1 : Int32) (p2 : Int32) {post : (Nat → Nat → Int32) → Prop} (hR : zRv G Z rmX11_put 8 zTR ad ln cX11_put post) (x3 x4 : Int32) (al : Nat → Nat → Int32) (h : vcX11_put_137 G  ad ln p1 p2 (BX11_put_5 G Z  ad ln p1 p2) (BX11_put_101 G Z  ad ln p1 p2) (BX11_put_201 G Z  ad ln p1 p2) (BX11_put_214 G Z  ad ln p1 p2) (BX11_put_287 G Z  ad ln p1 p2) post x3 x4 al) : zB G Z rmX11_put 8 zTR ad ln 0 0 137 [(0, .ref (ad 0)), (1, .int p1), (2, .int p2), (3, .int x3), (4, .int x4)] [] al := tX11_put_137 X p1 p2 hR (fun _ _ _ h => h) (fun _ _ _ _ h => h) (fun _ _ _ h => h) (fun _ _ _ _ h => h) (fun _ _ h => h) x3 x4 al h
theorem uX11_put_131 {G : zG} {Z : zC}  {ad ln : Nat → Nat} (X : zX G Z cX11_put 8 RX11 wsX11_put) (p1 : Int32) (p2 : Int32) {post : (Nat → Nat → Int32) → Prop} (hR : zRv G Z rmX11_put 8 zTR ad ln cX11_put post) (x3 x4 x5 : Int32) (al : Nat → Nat → Int32) (h : vcX11_put_131 G  ad ln p1 p2 (BX11_put_5 G Z  ad ln p1 p2) (BX11_put_101 G Z  ad ln p1 p2) (BX11_put_201 G Z  ad ln p1 p2) (BX11_put_214 G Z  ad ln p1 p2) (BX11_put_287 G Z  ad ln p1 p2) post x3 x4 x5 al) : zB G Z rmX11_put 8 zTR ad ln 0 0 131 [(0, .ref (ad 0)), (1, .int p1), (2, .int p2), (3, .int x3), (4, .int x4), (5, .int x5)] [] al := tX11_put_131 X p1 p2 hR (fun _ _ _ h => h) (fun _ _ _ _ h => h) (fun _ _ _ h => h) (fun _ _ _ _ h => h) (fun _ _ h => h) x3 x4 x5 al h
theorem uX11_put_101 {G : zG} {Z : zC}  {ad ln : Nat → Nat} (X : zX G Z cX11_put 8 RX11 wsX11_put) (p1 : Int32) (p2 : Int32) {post : (Nat → Nat → Int32) → Prop} (hR : zRv G Z rmX11_put 8 zTR ad ln cX11_put post) (x3 x4 x5 : Int32) (al : Nat → Nat → Int32) (h : vcX11_put_101 G  ad ln p1 p2 (BX11_put_5 G Z  ad ln p1 p2) (BX11_put_101 G Z  ad ln p1 p2) (BX11_put_201 G Z  ad ln p1 p2) (BX11_put_214 G Z  ad ln p1 p2) (BX11_put_287 G Z  ad ln p1 p2) post x3 x4 x5 al) : zB G Z rmX11_put 8 zTR ad ln 0 0 101 [(0, .ref (ad 0)), (1, .int p1), (2, .int p2), (3, .int x3), (4, .int x4), (5, .int x5)] [] al := tX11_put_101 X p1 p2 hR (fun _ _ _ h => h) (fun _ _ _ _ h => h) (fun _ _ _ h => h) (fun _ _ _ _ h => h) (fun _ _ h => h) x3 x4 x5 al h
theorem uX11_put_201 {G : zG} {Z : zC}  {ad ln : Nat → Nat} (X : zX G Z cX11_put 8 RX11 wsX11_put) (p1 : Int32) (p2 : Int32) {post : (Nat → Nat → Int32) → Prop} (hR : zRv G Z rmX11_put 8 zTR ad ln cX11_put post) (x4 x5 : Int32) (al : Nat → Nat → Int32) (h : vcX11_put_201 G  ad ln p1 p2 (BX11_put_5 G Z  ad ln p1 p2) (BX11_put_101 G Z  ad ln p1 p2) (BX11_put_201 G Z  ad ln p1 p2) (BX11_put_214 G Z  ad ln p1 p2) (BX11_put_287 G Z  ad ln p1 p2) post x4 x5 al) : zB G Z rmX11_put 8 zTR ad ln 0 0 201 [(0, .ref (ad 0)), (1, .int p1), (2, .int p2), (4, .int x4), (5, .int x5)] [] al := tX11_put_201 X p1 p2 hR (fun _ _ _ h => h) (fun _ _ _ _ h => h) (fun _ _ _ h => h) (fun _ _ _ _ h => h) (fun _ _ h => h) x4 x5 al h
theorem uX11_put_257 {G : zG} {Z : zC}  {ad ln : Nat → Nat} (X : zX G Z cX11_put 8 RX11 wsX11_put) (p1 : Int32) (p2 : Int32) {post : (Nat → Nat → Int32) → Prop} (hR : zRv G Z rmX11_put 8 zTR ad ln cX11_put post) (x4 x5 x6 : Int32) (al : Nat → Nat → Int32) (h : vcX11_put_257 G  ad ln p1 p2 (BX11_put_5 G Z  ad ln p1 p2) (BX11_put_101 G Z  ad ln p1 p2) (BX11_put_201 G Z  ad ln p1 p2) (BX11_put_214 G Z  ad ln p1 p2) (BX11_put_287 G Z  ad ln p1 p2) post x4 x5 x6 al) : zB G Z rmX11_put 8 zTR ad ln 0 0 257 [(0, .ref (ad 0)), (1, .int p1), (2, .int p2), (4, .int x4), (5, .int x5), (6, .int x6)] [] al := tX11_put_257 X p1 p2 hR (fun _ _ _ h => h) (fun _ _ _ _ h => h) (fun _ _ _ h => h) (fun _ _ _ _ h => h) (fun _ _ h => h) x4 x5 x6 al h
theorem uX11_put_214 {G : zG} {Z : zC}  {ad ln : Nat → Nat} (X : zX G Z cX11_put 8 RX11 wsX11_put) (p1 : Int32) (p2 : Int32) {post : (Nat → Nat → Int32) → Prop} (hR : zRv G Z rmX11_put 8 zTR ad ln cX11_put post) (x4 x5 x6 : Int32) (al : Nat → Nat → Int32) (h : vcX11_put_214 G  ad ln p1 p2 (BX11_put_5 G Z  ad ln p1 p2) (BX11_put_101 G Z  ad ln p1 p2) (BX11_put_201 G Z  ad ln p1 p2) (BX11_put_214 G Z  ad ln p1 p2) (BX11_put_287 G Z  ad ln p1 p2) post x4 x5 x6 al) : zB G Z rmX11_put 8 zTR ad ln 0 0 214 [(0, .ref (ad 0)), (1, .int p1), (2, .int p2), (4, .int x4), (5, .int x5), (6, .int x6)] [] al := tX11_put_214 X p1 p2 hR (fun _ _ _ h => h) (fun _ _ _ _ h => h) (fun _ _ _ h => h) (fun _ _ _ _ h => h) (fun _ _ h => h) x4 x5 x6 al h
theorem uX11_put_410 {G : zG} {Z : zC}  {ad ln : Nat → Nat} (X : zX G Z cX11_put 8 RX11 wsX11_put) (p1 : Int32) (p2 : Int32) {post : (Nat → Nat → Int32) → Prop} (hR : zRv G Z rmX11_put 8 zTR ad ln cX11_put post) (x5 : Int32) (al : Nat → Nat → Int32) (h : vcX11_put_410 G  ad ln p1 p2 (BX11_put_5 G Z  ad ln p1 p2) (BX11_put_101 G Z  ad ln p1 p2) (BX11_put_201 G Z  ad ln p1 p2) (BX11_put_214 G Z  ad ln p1 p2) (BX11_put_287 G Z  ad ln p1 p2) post x5 al) : zB G Z rmX11_put 8 zTR ad ln 0 0 410 [(0, .ref (ad 0)), (1, .int p1), (2, .int p2), (5, .int x5)] [] al := tX11_put_410 X p1 p2 hR (fun _ _ _ h => h) (fun _ _ _ _ h => h) (fun _ _ _ h => h) (fun _ _ _ _ h => h) (fun _ _ h => h) x5 al h
theorem uX11_put_408 {G : zG} {Z : zC}  {ad ln : Nat → Nat} (X : zX G Z cX11_put 8 RX11 wsX11_put) (p1 : Int32) (p2 : Int32) {post : (Nat → Nat → Int32) → Prop} (hR : zRv G Z rmX11_put 8 zTR ad ln cX11_put post) (x5 s0 : Int32) (al : Nat → Nat → Int32) (h : vcX11_put_408 G  ad ln p1 p2 (BX11_put_5 G Z  ad ln p1 p2) (BX11_put_101 G Z  ad ln p1 p2) (BX11_put_201 G Z  ad ln p1 p2) (BX11_put_214 G Z  ad ln p1 p2) (BX11_put_287 G Z  ad ln p1 p2) post x5 s0 al) : zB G Z rmX11_put 8 zTR ad ln 0 0 408 [(0, .ref (ad 0)), (1, .int p1), (2, .int p2), (5, .int x5)] [.int s0, .ref (ad 17)] al := tX11_put_408 X p1 p2 hR (fun _ _ _ h => h) (fun _ _ _ _ h => h) (fun _ _ _ h => h) (fun _ _ _ _ h => h) (fun _ _ h => h) x5 s0 al h
theorem uX11_put_333 {G : zG} {Z : zC}  {ad ln : Nat → Nat} (X : zX G Z cX11_put 8 RX11 wsX11_put) (p1 : Int32) (p2 : Int32) {post : (Nat → Nat → Int32) → Prop} (hR : zRv G Z rmX11_put 8 zTR ad ln cX11_put post) (x5 x6 x7 : Int32) (al : Nat → Nat → Int32) (h : vcX11_put_333 G  ad ln p1 p2 (BX11_put_5 G Z  ad ln p1 p2) (BX11_put_101 G Z  ad ln p1 p2) (BX11_put_201 G Z  ad ln p1 p2) (BX11_put_214 G Z  ad ln p1 p2) (BX11_put_287 G Z  ad ln p1 p2) post x5 x6 x7 al) : zB G Z rmX11_put 8 zTR ad ln 0 0 333 [(0, .ref (ad 0)), (1, .int p1), (2, .int p2), (5, .int x5), (6, .int x6), (7, .int x7)] [] al := tX11_put_333 X p1 p2 hR (fun _ _ _ h => h) (fun _ _ _ _ h => h) (fun _ _ _ h => h) (fun _ _ _ _ h => h) (fun _ _ h => h) x5 x6 x7 al h
theorem uX11_put_287 {G : zG} {Z : zC}  {ad ln : Nat → Nat} (X : zX G Z cX11_put 8 RX11 wsX11_put) (p1 : Int32) (p2 : Int32) {post : (Nat → Nat → Int32) → Prop} (hR : zRv G Z rmX11_put 8 zTR ad ln cX11_put post) (x5 : Int32) (al : Nat → Nat → Int32) (h : vcX11_put_287 G  ad ln p1 p2 (BX11_put_5 G Z  ad ln p1 p2) (BX11_put_101 G Z  ad ln p1 p2) (BX11_put_201 G Z  ad ln p1 p2) (BX11_put_214 G Z  ad ln p1 p2) (BX11_put_287 G Z  ad ln p1 p2) post x5 al) : zB G Z rmX11_put 8 zTR ad ln 0 0 287 [(0, .ref (ad 0)), (1, .int p1), (2, .int p2), (5, .int x5)] [] al := tX11_put_287 X p1 p2 hR (fun _ _ _ h => h) (fun _ _ _ _ h => h) (fun _ _ _ h => h) (fun _ _ _ _ h => h) (fun _ _ h => h) x5 al h

abbrev rmX11_tryAt : Room := { frames := 5, cells := 0, slots := 0, locals := 120 }
theorem kX11_tryAt_0 : Cond.fieldLink RX11 137 RX11 "rows" "I" ∈ wsX11_tryAt := by decide +kernel
theorem kX11_tryAt_1 : zIn RX11 TX11 51 wsX11_tryAt := by decide +kernel
theorem kX11_tryAt_2 : Cond.fieldLink RX11 202 RX11 "tries" "I" ∈ wsX11_tryAt := by decide +kernel
theorem kX11_tryAt_3 : Cond.fieldLink RX11 189 RX11 "cycle" "[I" ∈ wsX11_tryAt := by decide +kernel
theorem kX11_tryAt_4 : Cond.fieldLink RX11 199 RX11 "latest" "[I" ∈ wsX11_tryAt := by decide +kernel
theorem kX11_tryAt_5 : Cond.fieldLink RX11 186 RX11 "height" "[I" ∈ wsX11_tryAt := by decide +kernel
abbrev BX11_tryAt_44 (G : zG) (Z : zC)  (ad ln : Nat → Nat) (p1 : Int32) (x2 x3 : Int32) (al : Nat → Nat → Int32) : Prop := zB G Z rmX11_tryAt 4 zTR ad ln 0 0 44 [(0, .ref (ad 0)), (1, .int p1), (2, .int x2), (3, .int x3)] [] al
abbrev BX11_tryAt_40 (G : zG) (Z : zC)  (ad ln : Nat → Nat) (p1 : Int32) (al : Nat → Nat → Int32) : Prop := zB G Z rmX11_tryAt 4 zTR ad ln 0 0 40 [(0, .ref (ad 0)), (1, .int p1)] [] al
abbrev BX11_tryAt_7 (G : zG) (Z : zC)  (ad ln : Nat → Nat) (p1 : Int32) (x2 : Int32) (al : Nat → Nat → Int32) : Prop := zB G Z rmX11_tryAt 4 zTR ad ln 0 0 7 [(0, .ref (ad 0)), (1, .int p1), (2, .int x2)] [] al
def vcX11_tryAt_0 (G : zG)  (ad ln : Nat → Nat) (p1 : Int32) (K7 : Int32 → (Nat → Nat → Int32) → Prop) (K40 : (Nat → Nat → Int32) → Prop) (K44 : Int32 → Int32 → (Nat → Nat → Int32) → Prop) (post : Int32 → (Nat → Nat → Int32) → Prop) (al : Nat → Nat → Int32) : Prop :=
  zMv G yX11_heights wsX11_heights rmX11_heights zTR ad ln [.ref (ad 0), .int p1] al (fun a1 => K7 (0 : Int32) a1)
def vcX11_tryAt_7 (G : zG)  (ad ln : Nat → Nat) (p1 : Int32) (K7 : Int32 → (Nat → Nat → Int32) → Prop) (K40 : (Nat → Nat → Int32) → Prop) (K44 : Int32 → Int32 → (Nat → Nat → Int32) → Prop) (post : Int32 → (Nat → Nat → Int32) → Prop) (x2 : Int32) (al : Nat → Nat → Int32) : Prop :=
  ((al 0 9) ≤ x2 → K40  (up2 al 0 34 (0 : Int32))) ∧ (¬ (al 0 9) ≤ x2 → (vp_in x2 48 ∧ vp_in x2 48 ∧ K7 (x2 + (1 : Int32)) (up2 (up2 al 17 x2.toNatClampNeg (-1 : Int32)) 18 x2.toNatClampNeg (-1 : Int32))))
def vcX11_tryAt_40 (G : zG)  (ad ln : Nat → Nat) (p1 : Int32) (K7 : Int32 → (Nat → Nat → Int32) → Prop) (K40 : (Nat → Nat → Int32) → Prop) (K44 : Int32 → Int32 → (Nat → Nat → Int32) → Prop) (post : Int32 → (Nat → Nat → Int32) → Prop) (al : Nat → Nat → Int32) : Prop :=
  K44 (-1 : Int32) (0 : Int32) al
def vcX11_tryAt_82 (G : zG)  (ad ln : Nat → Nat) (p1 : Int32) (K7 : Int32 → (Nat → Nat → Int32) → Prop) (K40 : (Nat → Nat → Int32) → Prop) (K44 : Int32 → Int32 → (Nat → Nat → Int32) → Prop) (post : Int32 → (Nat → Nat → Int32) → Prop) (x2 x3 : Int32) (al : Nat → Nat → Int32) : Prop :=
  K44 x2 (x3 + (1 : Int32)) al
def vcX11_tryAt_80 (G : zG)  (ad ln : Nat → Nat) (p1 : Int32) (K7 : Int32 → (Nat → Nat → Int32) → Prop) (K40 : (Nat → Nat → Int32) → Prop) (K44 : Int32 → Int32 → (Nat → Nat → Int32) → Prop) (post : Int32 → (Nat → Nat → Int32) → Prop) (x3 : Int32) (al : Nat → Nat → Int32) : Prop :=
  vcX11_tryAt_82 G  ad ln p1 K7 K40 K44 post x3 x3 al
def vcX11_tryAt_44 (G : zG)  (ad ln : Nat → Nat) (p1 : Int32) (K7 : Int32 → (Nat → Nat → Int32) → Prop) (K40 : (Nat → Nat → Int32) → Prop) (K44 : Int32 → Int32 → (Nat → Nat → Int32) → Prop) (post : Int32 → (Nat → Nat → Int32) → Prop) (x2 x3 : Int32) (al : Nat → Nat → Int32) : Prop :=
  ((al 0 9) ≤ x3 → (0 ≤ x2 → (¬ (al 0 34) = ((8 : Int32) * (al 0 9)) → zMv G yX11_put wsX11_put rmX11_put zTR ad ln [.ref (ad 0), .int x2, .int p1] (up2 al 0 34 ((al 0 34) + (1 : Int32))) (fun a4 => K40  a4)) ∧ ((al 0 34) = ((8 : Int32) * (al 0 9)) → post (0 : Int32) al)) ∧ (¬ 0 ≤ x2 → post (1 : Int32) al)) ∧ (¬ (al 0 9) ≤ x3 → (vp_in x3 48 ∧ (0 ≤ (al 17 x3.toNatClampNeg) → vcX11_tryAt_82 G  ad ln p1 K7 K40 K44 post x2 x3 al) ∧ (¬ 0 ≤ (al 17 x3.toNatClampNeg) → (x2 < 0 → vcX11_tryAt_80 G  ad ln p1 K7 K40 K44 post x3 al) ∧ (¬ x2 < 0 → (vp_in x3 48 ∧ vp_in x2 48 ∧ ((al 19 x3.toNatClampNeg) ≤ (al 19 x2.toNatClampNeg) → vcX11_tryAt_82 G  ad ln p1 K7 K40 K44 post x2 x3 al) ∧ (¬ (al 19 x3.toNatClampNeg) ≤ (al 19 x2.toNatClampNeg) → vcX11_tryAt_80 G  ad ln p1 K7 K40 K44 post x3 al))))))
set_option maxRecDepth 20000 in
theorem tX11_tryAt_0 {G : zG} {Z : zC}  {ad ln : Nat → Nat} (X : zX G Z cX11_tryAt 4 RX11 wsX11_tryAt) (p1 : Int32) {K7 : Int32 → (Nat → Nat → Int32) → Prop} {K40 : (Nat → Nat → Int32) → Prop} {K44 : Int32 → Int32 → (Nat → Nat → Int32) → Prop} {post : Int32 → (Nat → Nat → Int32) → Prop} (hR : zRi G Z rmX11_tryAt 4 zTR ad ln cX11_tryAt .boolean post) (hK7 : ∀ x2 : Int32, ∀ al, K7 x2 al → zB G Z rmX11_tryAt 4 zTR ad ln 0 0 7 [(0, .ref (ad 0)), (1, .int p1), (2, .int x2)] [] al) (hK40 : ∀ al, K40  al → zB G Z rmX11_tryAt 4 zTR ad ln 0 0 40 [(0, .ref (ad 0)), (1, .int p1)] [] al) (hK44 : ∀ x2 x3 : Int32, ∀ al, K44 x2 x3 al → zB G Z rmX11_tryAt 4 zTR ad ln 0 0 44 [(0, .ref (ad 0)), (1, .int p1), (2, .int x2), (3, .int x3)] [] al) (al : Nat → Nat → Int32) (h : vcX11_tryAt_0 G  ad ln p1 K7 K40 K44 post  al) : zB G Z rmX11_tryAt 4 zTR ad ln 0 0 0 [(0, .ref (ad 0)), (1, .int p1)] [] al := by
  unfold vcX11_tryAt_0 at h
  refine zb_aload_n X dX11_tryAt_0 rfl 0 rfl ?_
  refine zb_iload_n X dX11_tryAt_1 rfl 1 rfl ?_
  refine zb_callVv (n := 1) X 0 (by decide) 11 [3, 4, 5, 6, 7, 8, 9, 10, 11, 0, 12, 0, 0, 0, 0, 0, 0, 0, 0, 0, 0, 0, 0, 13, 14, 15, 16, 17, 0, 18, 19, 20, 21, 0, 0, 0, 22, 23, 24, 25, 0, 0, 26, 27, 28, 29, 0, 0, 0, 30, 0] rfl (C := RX11) (Tt := TX11) (N := 51) rfl h gX11_tryAt_X11_heights rfl (by decide +kernel) (by decide) rfl rfl (Nat.le_of_ble_eq_true rfl) dX11_tryAt_2 (kc' := 0) (ks' := 0) rfl rfl (fun a1 h => ?_)
  refine zb_iconst X (0 : Int32) dX11_tryAt_5 (by decide) ?_
  refine zb_istore_n X (lv' := [(2, .int (0 : Int32)), (0, .ref (ad 0)), (1, .int p1)]) dX11_tryAt_6 rfl (by decide) rfl ?_
  refine zb_sub [1, 2, 0] rfl ?_
  exact hK7 (0 : Int32) a1 h
set_option maxRecDepth 20000 in
theorem tX11_tryAt_7 {G : zG} {Z : zC}  {ad ln : Nat → Nat} (X : zX G Z cX11_tryAt 4 RX11 wsX11_tryAt) (p1 : Int32) {K7 : Int32 → (Nat → Nat → Int32) → Prop} {K40 : (Nat → Nat → Int32) → Prop} {K44 : Int32 → Int32 → (Nat → Nat → Int32) → Prop} {post : Int32 → (Nat → Nat → Int32) → Prop} (hR : zRi G Z rmX11_tryAt 4 zTR ad ln cX11_tryAt .boolean post) (hK7 : ∀ x2 : Int32, ∀ al, K7 x2 al → zB G Z rmX11_tryAt 4 zTR ad ln 0 0 7 [(0, .ref (ad 0)), (1, .int p1), (2, .int x2)] [] al) (hK40 : ∀ al, K40  al → zB G Z rmX11_tryAt 4 zTR ad ln 0 0 40 [(0, .ref (ad 0)), (1, .int p1)] [] al) (hK44 : ∀ x2 x3 : Int32, ∀ al, K44 x2 x3 al → zB G Z rmX11_tryAt 4 zTR ad ln 0 0 44 [(0, .ref (ad 0)), (1, .int p1), (2, .int x2), (3, .int x3)] [] al) (x2 : Int32) (al : Nat → Nat → Int32) (h : vcX11_tryAt_7 G  ad ln p1 K7 K40 K44 post x2 al) : zB G Z rmX11_tryAt 4 zTR ad ln 0 0 7 [(0, .ref (ad 0)), (1, .int p1), (2, .int x2)] [] al := by
  unfold vcX11_tryAt_7 at h
  refine zb_iload_n X dX11_tryAt_7 rfl 2 rfl ?_
  refine zb_aload_n X dX11_tryAt_8 rfl 0 rfl ?_
  refine zb_getI X 0 (by decide) 11 [3, 4, 5, 6, 7, 8, 9, 10, 11, 0, 12, 0, 0, 0, 0, 0, 0, 0, 0, 0, 0, 0, 0, 13, 14, 15, 16, 17, 0, 18, 19, 20, 21, 0, 0, 0, 22, 23, 24, 25, 0, 0, 26, 27, 28, 29, 0, 0, 0, 30, 0] rfl (C := RX11) (Tt := TX11) (N := 51) rfl kX11_tryAt_1 9 (by decide) rfl kX11_tryAt_0 rfl dX11_tryAt_9 (al 0 9) rfl ?_
  refine zb_icmp_ge X 35 dX11_tryAt_12 (by decide) (fun c1 => ?_) (fun c1 => ?_)
  · have h := h.1 c1
    refine zb_aload_n X dX11_tryAt_35 rfl 0 rfl ?_
    refine zb_iconst X (0 : Int32) dX11_tryAt_36 (by decide) ?_
    refine zb_putI X 0 (by decide) 11 [3, 4, 5, 6, 7, 8, 9, 10, 11, 0, 12, 0, 0, 0, 0, 0, 0, 0, 0, 0, 0, 0, 0, 13, 14, 15, 16, 17, 0, 18, 19, 20, 21, 0, 0, 0, 22, 23, 24, 25, 0, 0, 26, 27, 28, 29, 0, 0, 0, 30, 0] rfl (C := RX11) (Tt := TX11) (N := 51) rfl kX11_tryAt_1 tyX11 tyX11_ok nmX11 34 (by decide) rfl kX11_tryAt_2 rfl rfl rfl rfl dX11_tryAt_37 ?_
    refine zb_sub [0, 1] rfl ?_
    exact hK40  (up2 al 0 34 (0 : Int32)) h
  · have h := h.2 c1
    refine zb_aload_n X dX11_tryAt_15 rfl 0 rfl ?_
    refine zb_getR X 0 (by decide) 11 [3, 4, 5, 6, 7, 8, 9, 10, 11, 0, 12, 0, 0, 0, 0, 0, 0, 0, 0, 0, 0, 0, 0, 13, 14, 15, 16, 17, 0, 18, 19, 20, 21, 0, 0, 0, 22, 23, 24, 25, 0, 0, 26, 27, 28, 29, 0, 0, 0, 30, 0] rfl (C := RX11) (Tt := TX11) (N := 51) rfl kX11_tryAt_1 30 (by decide) 17 rfl kX11_tryAt_3 rfl dX11_tryAt_16 ?_
    refine zb_iload_n X dX11_tryAt_19 rfl 2 rfl ?_
    refine zb_iconst X (-1 : Int32) dX11_tryAt_20 (by decide) ?_
    obtain ⟨hz, h⟩ := h
    refine zb_iast X 17 (by decide) 1 48 0 0 rfl (Or.inl rfl) x2.toNatClampNeg rfl hz dX11_tryAt_21 ?_
    refine zb_aload_n X dX11_tryAt_22 rfl 0 rfl ?_
    refine zb_getR X 0 (by decide) 11 [3, 4, 5, 6, 7, 8, 9, 10, 11, 0, 12, 0, 0, 0, 0, 0, 0, 0, 0, 0, 0, 0, 0, 13, 14, 15, 16, 17, 0, 18, 19, 20, 21, 0, 0, 0, 22, 23, 24, 25, 0, 0, 26, 27, 28, 29, 0, 0, 0, 30, 0] rfl (C := RX11) (Tt := TX11) (N := 51) rfl kX11_tryAt_1 31 (by decide) 18 rfl kX11_tryAt_4 rfl dX11_tryAt_23 ?_
    refine zb_iload_n X dX11_tryAt_26 rfl 2 rfl ?_
    refine zb_iconst X (-1 : Int32) dX11_tryAt_27 (by decide) ?_
    obtain ⟨hz, h⟩ := h
    refine zb_iast X 18 (by decide) 1 48 0 0 rfl (Or.inl rfl) x2.toNatClampNeg rfl hz dX11_tryAt_28 ?_
    refine zb_iinc X (lv' := [(2, .int (x2 + (1 : Int32))), (0, .ref (ad 0)), (1, .int p1)]) (x2 + (1 : Int32)) dX11_tryAt_29 2 rfl rfl (by decide) rfl ?_
    refine zb_goto X 7 dX11_tryAt_32 (by decide) ?_
    refine zb_sub [1, 2, 0] rfl ?_
    exact hK7 (x2 + (1 : Int32)) (up2 (up2 al 17 x2.toNatClampNeg (-1 : Int32)) 18 x2.toNatClampNeg (-1 : Int32)) h
set_option maxRecDepth 20000 in
theorem tX11_tryAt_40 {G : zG} {Z : zC}  {ad ln : Nat → Nat} (X : zX G Z cX11_tryAt 4 RX11 wsX11_tryAt) (p1 : Int32) {K7 : Int32 → (Nat → Nat → Int32) → Prop} {K40 : (Nat → Nat → Int32) → Prop} {K44 : Int32 → Int32 → (Nat → Nat → Int32) → Prop} {post : Int32 → (Nat → Nat → Int32) → Prop} (hR : zRi G Z rmX11_tryAt 4 zTR ad ln cX11_tryAt .boolean post) (hK7 : ∀ x2 : Int32, ∀ al, K7 x2 al → zB G Z rmX11_tryAt 4 zTR ad ln 0 0 7 [(0, .ref (ad 0)), (1, .int p1), (2, .int x2)] [] al) (hK40 : ∀ al, K40  al → zB G Z rmX11_tryAt 4 zTR ad ln 0 0 40 [(0, .ref (ad 0)), (1, .int p1)] [] al) (hK44 : ∀ x2 x3 : Int32, ∀ al, K44 x2 x3 al → zB G Z rmX11_tryAt 4 zTR ad ln 0 0 44 [(0, .ref (ad 0)), (1, .int p1), (2, .int x2), (3, .int x3)] [] al) (al : Nat → Nat → Int32) (h : vcX11_tryAt_40 G  ad ln p1 K7 K40 K44 post  al) : zB G Z rmX11_tryAt 4 zTR ad ln 0 0 40 [(0, .ref (ad 0)), (1, .int p1)] [] al := by
  unfold vcX11_tryAt_40 at h
  refine zb_iconst X (-1 : Int32) dX11_tryAt_40 (by decide) ?_
  refine zb_istore_n X (lv' := [(2, .int (-1 : Int32)), (0, .ref (ad 0)), (1, .int p1)]) dX11_tryAt_41 rfl (by decide) rfl ?_
  refine zb_iconst X (0 : Int32) dX11_tryAt_42 (by decide) ?_
  refine zb_istore_n X (lv' := [(3, .int (0 : Int32)), (2, .int (-1 : Int32)), (0, .ref (ad 0)), (1, .int p1)]) dX11_tryAt_43 rfl (by decide) rfl ?_
  refine zb_sub [2, 3, 1, 0] rfl ?_
  exact hK44 (-1 : Int32) (0 : Int32) al h
set_option maxRecDepth 20000 in
theorem tX11_tryAt_82 {G : zG} {Z : zC}  {ad ln : Nat → Nat} (X : zX G Z cX11_tryAt 4 RX11 wsX11_tryAt) (p1 : Int32) {K7 : Int32 → (Nat → Nat → Int32) → Prop} {K40 : (Nat → Nat → Int32) → Prop} {K44 : Int32 → Int32 → (Nat → Nat → Int32) → Prop} {post : Int32 → (Nat → Nat → Int32) → Prop} (hR : zRi G Z rmX11_tryAt 4 zTR ad ln cX11_tryAt .boolean post) (hK7 : ∀ x2 : Int32, ∀ al, K7 x2 al → zB G Z rmX11_tryAt 4 zTR ad ln 0 0 7 [(0, .ref (ad 0)), (1, .int p1), (2, .int x2)] [] al) (hK40 : ∀ al, K40  al → zB G Z rmX11_tryAt 4 zTR ad ln 0 0 40 [(0, .ref (ad 0)), (1, .int p1)] [] al) (hK44 : ∀ x2 x3 : Int32, ∀ al, K44 x2 x3 al → zB G Z rmX11_tryAt 4 zTR ad ln 0 0 44 [(0, .ref (ad 0)), (1, .int p1), (2, .int x2), (3, .int x3)] [] al) (x2 x3 : Int32) (al : Nat → Nat → Int32) (h : vcX11_tryAt_82 G  ad ln p1 K7 K40 K44 post x2 x3 al) : zB G Z rmX11_tryAt 4 zTR ad ln 0 0 82 [(0, .ref (ad 0)), (1, .int p1), (2, .int x2), (3, .int x3)] [] al := by
  unfold vcX11_tryAt_82 at h
  refine zb_iinc X (lv' := [(3, .int (x3 + (1 : Int32))), (0, .ref (ad 0)), (1, .int p1), (2, .int x2)]) (x3 + (1 : Int32)) dX11_tryAt_82 3 rfl rfl (by decide) rfl ?_
  refine zb_goto X 44 dX11_tryAt_85 (by decide) ?_
  refine zb_sub [1, 2, 3, 0] rfl ?_
  exact hK44 x2 (x3 + (1 : Int32)) al h
set_option maxRecDepth 20000 in
theorem tX11_tryAt_80 {G : zG} {Z : zC}  {ad ln : Nat → Nat} (X : zX G Z cX11_tryAt 4 RX11 wsX11_tryAt) (p1 : Int32) {K7 : Int32 → (Nat → Nat → Int32) → Prop} {K40 : (Nat → Nat → Int32) → Prop} {K44 : Int32 → Int32 → (Nat → Nat → Int32) → Prop} {post : Int32 → (Nat → Nat → Int32) → Prop} (hR : zRi G Z rmX11_tryAt 4 zTR ad ln cX11_tryAt .boolean post) (hK7 : ∀ x2 : Int32, ∀ al, K7 x2 al → zB G Z rmX11_tryAt 4 zTR ad ln 0 0 7 [(0, .ref (ad 0)), (1, .int p1), (2, .int x2)] [] al) (hK40 : ∀ al, K40  al → zB G Z rmX11_tryAt 4 zTR ad ln 0 0 40 [(0, .ref (ad 0)), (1, .int p1)] [] al) (hK44 : ∀ x2 x3 : Int32, ∀ al, K44 x2 x3 al → zB G Z rmX11_tryAt 4 zTR ad ln 0 0 44 [(0, .ref (ad 0)), (1, .int p1), (2, .int x2), (3, .int x3)] [] al) (x3 : Int32) (al : Nat → Nat → Int32) (h : vcX11_tryAt_80 G  ad ln p1 K7 K40 K44 post x3 al) : zB G Z rmX11_tryAt 4 zTR ad ln 0 0 80 [(0, .ref (ad 0)), (1, .int p1), (3, .int x3)] [] al := by
  unfold vcX11_tryAt_80 at h
  refine zb_iload_n X dX11_tryAt_80 rfl 2 rfl ?_
  refine zb_istore_n X (lv' := [(2, .int x3), (0, .ref (ad 0)), (1, .int p1), (3, .int x3)]) dX11_tryAt_81 rfl (by decide) rfl ?_
  refine zb_sub [1, 2, 0, 3] rfl ?_
  exact tX11_tryAt_82 X p1 hR hK7 hK40 hK44 x3 x3 al h
set_option maxRecDepth 20000 in
theorem tX11_tryAt_44 {G : zG} {Z : zC}  {ad ln : Nat → Nat} (X : zX G Z cX11_tryAt 4 RX11 wsX11_tryAt) (p1 : Int32) {K7 : Int32 → (Nat → Nat → Int32) → Prop} {K40 : (Nat → Nat → Int32) → Prop} {K44 : Int32 → Int32 → (Nat → Nat → Int32) → Prop} {post : Int32 → (Nat → Nat → Int32) → Prop} (hR : zRi G Z rmX11_tryAt 4 zTR ad ln cX11_tryAt .boolean post) (hK7 : ∀ x2 : Int32, ∀ al, K7 x2 al → zB G Z rmX11_tryAt 4 zTR ad ln 0 0 7 [(0, .ref (ad 0)), (1, .int p1), (2, .int x2)] [] al) (hK40 : ∀ al, K40  al → zB G Z rmX11_tryAt 4 zTR ad ln 0 0 40 [(0, .ref (ad 0)), (1, .int p1)] [] al) (hK44 : ∀ x2 x3 : Int32, ∀ al, K44 x2 x3 al → zB G Z rmX11_tryAt 4 zTR ad ln 0 0 44 [(0, .ref (ad 0)), (1, .int p1), (2, .int x2), (3, .int x3)] [] al) (x2 x3 : Int32) (al : Nat → Nat → Int32) (h : vcX11_tryAt_44 G  ad ln p1 K7 K40 K44 post x2 x3 al) : zB G Z rmX11_tryAt 4 zTR ad ln 0 0 44 [(0, .ref (ad 0)), (1, .int p1), (2, .int x2), (3, .int x3)] [] al := by
  unfold vcX11_tryAt_44 at h
  refine zb_iload_n X dX11_tryAt_44 rfl 3 rfl ?_
  refine zb_aload_n X dX11_tryAt_45 rfl 0 rfl ?_
  refine zb_getI X 0 (by decide) 11 [3, 4, 5, 6, 7, 8, 9, 10, 11, 0, 12, 0, 0, 0, 0, 0, 0, 0, 0, 0, 0, 0, 0, 13, 14, 15, 16, 17, 0, 18, 19, 20, 21, 0, 0, 0, 22, 23, 24, 25, 0, 0, 26, 27, 28, 29, 0, 0, 0, 30, 0] rfl (C := RX11) (Tt := TX11) (N := 51) rfl kX11_tryAt_1 9 (by decide) rfl kX11_tryAt_0 rfl dX11_tryAt_46 (al 0 9) rfl ?_
  refine zb_icmp_ge X 88 dX11_tryAt_49 (by decide) (fun c1 => ?_) (fun c1 => ?_)
  · have h := h.1 c1
    refine zb_iload_n X dX11_tryAt_88 rfl 2 rfl ?_
    refine zb_if_ge X 94 dX11_tryAt_89 (by decide) (fun c2 => ?_) (fun c2 => ?_)
    · have h := h.1 c2
      refine zb_aload_n X dX11_tryAt_94 rfl 0 rfl ?_
      refine zb_getI X 0 (by decide) 11 [3, 4, 5, 6, 7, 8, 9, 10, 11, 0, 12, 0, 0, 0, 0, 0, 0, 0, 0, 0, 0, 0, 0, 13, 14, 15, 16, 17, 0, 18, 19, 20, 21, 0, 0, 0, 22, 23, 24, 25, 0, 0, 26, 27, 28, 29, 0, 0, 0, 30, 0] rfl (C := RX11) (Tt := TX11) (N := 51) rfl kX11_tryAt_1 34 (by decide) rfl kX11_tryAt_2 rfl dX11_tryAt_95 (al 0 34) rfl ?_
      refine zb_bipush X (8 : Int32) dX11_tryAt_98 (by decide) ?_
      refine zb_aload_n X dX11_tryAt_100 rfl 0 rfl ?_
      refine zb_getI X 0 (by decide) 11 [3, 4, 5, 6, 7, 8, 9, 10, 11, 0, 12, 0, 0, 0, 0, 0, 0, 0, 0, 0, 0, 0, 0, 13, 14, 15, 16, 17, 0, 18, 19, 20, 21, 0, 0, 0, 22, 23, 24, 25, 0, 0, 26, 27, 28, 29, 0, 0, 0, 30, 0] rfl (C := RX11) (Tt := TX11) (N := 51) rfl kX11_tryAt_1 9 (by decide) rfl kX11_tryAt_0 rfl dX11_tryAt_101 (al 0 9) rfl ?_
      refine zb_imul X dX11_tryAt_104 ?_
      refine zb_icmp_ne X 110 dX11_tryAt_105 (by decide) (fun c3 => ?_) (fun c3 => ?_)
      · have h := h.1 c3
        refine zb_aload_n X dX11_tryAt_110 rfl 0 rfl ?_
        refine zb_dup X dX11_tryAt_111 rfl ?_
        refine zb_getI X 0 (by decide) 11 [3, 4, 5, 6, 7, 8, 9, 10, 11, 0, 12, 0, 0, 0, 0, 0, 0, 0, 0, 0, 0, 0, 0, 13, 14, 15, 16, 17, 0, 18, 19, 20, 21, 0, 0, 0, 22, 23, 24, 25, 0, 0, 26, 27, 28, 29, 0, 0, 0, 30, 0] rfl (C := RX11) (Tt := TX11) (N := 51) rfl kX11_tryAt_1 34 (by decide) rfl kX11_tryAt_2 rfl dX11_tryAt_112 (al 0 34) rfl ?_
        refine zb_iconst X (1 : Int32) dX11_tryAt_115 (by decide) ?_
        refine zb_iadd X dX11_tryAt_116 ?_
        refine zb_putI X 0 (by decide) 11 [3, 4, 5, 6, 7, 8, 9, 10, 11, 0, 12, 0, 0, 0, 0, 0, 0, 0, 0, 0, 0, 0, 0, 13, 14, 15, 16, 17, 0, 18, 19, 20, 21, 0, 0, 0, 22, 23, 24, 25, 0, 0, 26, 27, 28, 29, 0, 0, 0, 30, 0] rfl (C := RX11) (Tt := TX11) (N := 51) rfl kX11_tryAt_1 tyX11 tyX11_ok nmX11 34 (by decide) rfl kX11_tryAt_2 rfl rfl rfl rfl dX11_tryAt_117 ?_
        refine zb_aload_n X dX11_tryAt_120 rfl 0 rfl ?_
        refine zb_iload_n X dX11_tryAt_121 rfl 2 rfl ?_
        refine zb_iload_n X dX11_tryAt_122 rfl 1 rfl ?_
        refine zb_callVv (n := 2) X 0 (by decide) 11 [3, 4, 5, 6, 7, 8, 9, 10, 11, 0, 12, 0, 0, 0, 0, 0, 0, 0, 0, 0, 0, 0, 0, 13, 14, 15, 16, 17, 0, 18, 19, 20, 21, 0, 0, 0, 22, 23, 24, 25, 0, 0, 26, 27, 28, 29, 0, 0, 0, 30, 0] rfl (C := RX11) (Tt := TX11) (N := 51) rfl h gX11_tryAt_X11_put rfl (by decide +kernel) (by decide) rfl rfl (Nat.le_of_ble_eq_true rfl) dX11_tryAt_123 (kc' := 0) (ks' := 0) rfl rfl (fun a4 h => ?_)
        refine zb_goto X 40 dX11_tryAt_126 (by decide) ?_
        refine zb_sub [0, 1] rfl ?_
        exact hK40  a4 h
      · have h := h.2 c3
        refine zb_iconst X (0 : Int32) dX11_tryAt_108 (by decide) ?_
        exact hR 109 _ _ _ dX11_tryAt_109 rfl h
    · have h := h.2 c2
      refine zb_iconst X (1 : Int32) dX11_tryAt_92 (by decide) ?_
      exact hR 93 _ _ _ dX11_tryAt_93 rfl h
  · have h := h.2 c1
    refine zb_aload_n X dX11_tryAt_52 rfl 0 rfl ?_
    refine zb_getR X 0 (by decide) 11 [3, 4, 5, 6, 7, 8, 9, 10, 11, 0, 12, 0, 0, 0, 0, 0, 0, 0, 0, 0, 0, 0, 0, 13, 14, 15, 16, 17, 0, 18, 19, 20, 21, 0, 0, 0, 22, 23, 24, 25, 0, 0, 26, 27, 28, 29, 0, 0, 0, 30, 0] rfl (C := RX11) (Tt := TX11) (N := 51) rfl kX11_tryAt_1 30 (by decide) 17 rfl kX11_tryAt_3 rfl dX11_tryAt_53 ?_
    refine zb_iload_n X dX11_tryAt_56 rfl 3 rfl ?_
    obtain ⟨hz, h⟩ := h
    refine zb_iald X 17 (by decide) 1 48 0 0 rfl (Or.inl rfl) x3.toNatClampNeg rfl hz dX11_tryAt_57 (al 17 x3.toNatClampNeg) rfl ?_
    refine zb_if_ge X 82 dX11_tryAt_58 (by decide) (fun c2 => ?_) (fun c2 => ?_)
    · have h := h.1 c2
      refine zb_sub [0, 1, 2, 3] rfl ?_
      exact tX11_tryAt_82 X p1 hR hK7 hK40 hK44 x2 x3 al h
    · have h := h.2 c2
      refine zb_iload_n X dX11_tryAt_61 rfl 2 rfl ?_
      refine zb_if_lt X 80 dX11_tryAt_62 (by decide) (fun c3 => ?_) (fun c3 => ?_)
      · have h := h.1 c3
        refine zb_sub [0, 1, 3] rfl ?_
        exact tX11_tryAt_80 X p1 hR hK7 hK40 hK44 x3 al h
      · have h := h.2 c3
        refine zb_aload_n X dX11_tryAt_65 rfl 0 rfl ?_
        refine zb_getR X 0 (by decide) 11 [3, 4, 5, 6, 7, 8, 9, 10, 11, 0, 12, 0, 0, 0, 0, 0, 0, 0, 0, 0, 0, 0, 0, 13, 14, 15, 16, 17, 0, 18, 19, 20, 21, 0, 0, 0, 22, 23, 24, 25, 0, 0, 26, 27, 28, 29, 0, 0, 0, 30, 0] rfl (C := RX11) (Tt := TX11) (N := 51) rfl kX11_tryAt_1 32 (by decide) 19 rfl kX11_tryAt_5 rfl dX11_tryAt_66 ?_
        refine zb_iload_n X dX11_tryAt_69 rfl 3 rfl ?_
        obtain ⟨hz, h⟩ := h
        refine zb_iald X 19 (by decide) 1 48 0 0 rfl (Or.inl rfl) x3.toNatClampNeg rfl hz dX11_tryAt_70 (al 19 x3.toNatClampNeg) rfl ?_
        refine zb_aload_n X dX11_tryAt_71 rfl 0 rfl ?_
        refine zb_getR X 0 (by decide) 11 [3, 4, 5, 6, 7, 8, 9, 10, 11, 0, 12, 0, 0, 0, 0, 0, 0, 0, 0, 0, 0, 0, 0, 13, 14, 15, 16, 17, 0, 18, 19, 20, 21, 0, 0, 0, 22, 23, 24, 25, 0, 0, 26, 27, 28, 29, 0, 0, 0, 30, 0] rfl (C := RX11) (Tt := TX11) (N := 51) rfl kX11_tryAt_1 32 (by decide) 19 rfl kX11_tryAt_5 rfl dX11_tryAt_72 ?_
        refine zb_iload_n X dX11_tryAt_75 rfl 2 rfl ?_
        obtain ⟨hz, h⟩ := h
        refine zb_iald X 19 (by decide) 1 48 0 0 rfl (Or.inl rfl) x2.toNatClampNeg rfl hz dX11_tryAt_76 (al 19 x2.toNatClampNeg) rfl ?_
        refine zb_icmp_le X 82 dX11_tryAt_77 (by decide) (fun c4 => ?_) (fun c4 => ?_)
        · have h := h.1 c4
          refine zb_sub [0, 1, 2, 3] rfl ?_
          exact tX11_tryAt_82 X p1 hR hK7 hK40 hK44 x2 x3 al h
        · have h := h.2 c4
          refine zb_sub [0, 1, 3] rfl ?_
          exact tX11_tryAt_80 X p1 hR hK7 hK40 hK44 x3 al h
theorem uX11_tryAt_0 {G : zG} {Z : zC}  {ad ln : Nat → Nat} (X : zX G Z cX11_tryAt 4 RX11 wsX11_tryAt) (p1 : Int32) {post : Int32 → (Nat → Nat → Int32) → Prop} (hR : zRi G Z rmX11_tryAt 4 zTR ad ln cX11_tryAt .boolean post) (al : Nat → Nat → Int32) (h : vcX11_tryAt_0 G  ad ln p1 (BX11_tryAt_7 G Z  ad ln p1) (BX11_tryAt_40 G Z  ad ln p1) (BX11_tryAt_44 G Z  ad ln p1) post  al) : zB G Z rmX11_tryAt 4 zTR ad ln 0 0 0 [(0, .ref (ad 0)), (1, .int p1)] [] al := tX11_tryAt_0 X p1 hR (fun _ _ h => h) (fun _ h => h) (fun _ _ _ h => h)  al h
theorem uX11_tryAt_7 {G : zG} {Z : zC}  {ad ln : Nat → Nat} (X : zX G Z cX11_tryAt 4 RX11 wsX11_tryAt) (p1 : Int32) {post : Int32 → (Nat → Nat → Int32) → Prop} (hR : zRi G Z rmX11_tryAt 4 zTR ad ln cX11_tryAt .boolean post) (x2 : Int32) (al : Nat → Nat → Int32) (h : vcX11_tryAt_7 G  ad ln p1 (BX11_tryAt_7 G Z  ad ln p1) (BX11_tryAt_40 G Z  ad ln p1) (BX11_tryAt_44 G Z  ad ln p1) post x2 al) : zB G Z rmX11_tryAt 4 zTR ad ln 0 0 7 [(0, .ref (ad 0)), (1, .int p1), (2, .int x2)] [] al := tX11_tryAt_7 X p1 hR (fun _ _ h => h) (fun _ h => h) (fun _ _ _ h => h) x2 al h
theorem uX11_tryAt_40 {G : zG} {Z : zC}  {ad ln : Nat → Nat} (X : zX G Z cX11_tryAt 4 RX11 wsX11_tryAt) (p1 : Int32) {post : Int32 → (Nat → Nat → Int32) → Prop} (hR : zRi G Z rmX11_tryAt 4 zTR ad ln cX11_tryAt .boolean post) (al : Nat → Nat → Int32) (h : vcX11_tryAt_40 G  ad ln p1 (BX11_tryAt_7 G Z  ad ln p1) (BX11_tryAt_40 G Z  ad ln p1) (BX11_tryAt_44 G Z  ad ln p1) post  al) : zB G Z rmX11_tryAt 4 zTR ad ln 0 0 40 [(0, .ref (ad 0)), (1, .int p1)] [] al := tX11_tryAt_40 X p1 hR (fun _ _ h => h) (fun _ h => h) (fun _ _ _ h => h)  al h
theorem uX11_tryAt_82 {G : zG} {Z : zC}  {ad ln : Nat → Nat} (X : zX G Z cX11_tryAt 4 RX11 wsX11_tryAt) (p1 : Int32) {post : Int32 → (Nat → Nat → Int32) → Prop} (hR : zRi G Z rmX11_tryAt 4 zTR ad ln cX11_tryAt .boolean post) (x2 x3 : Int32) (al : Nat → Nat → Int32) (h : vcX11_tryAt_82 G  ad ln p1 (BX11_tryAt_7 G Z  ad ln p1) (BX11_tryAt_40 G Z  ad ln p1) (BX11_tryAt_44 G Z  ad ln p1) post x2 x3 al) : zB G Z rmX11_tryAt 4 zTR ad ln 0 0 82 [(0, .ref (ad 0)), (1, .int p1), (2, .int x2), (3, .int x3)] [] al := tX11_tryAt_82 X p1 hR (fun _ _ h => h) (fun _ h => h) (fun _ _ _ h => h) x2 x3 al h
theorem uX11_tryAt_80 {G : zG} {Z : zC}  {ad ln : Nat → Nat} (X : zX G Z cX11_tryAt 4 RX11 wsX11_tryAt) (p1 : Int32) {post : Int32 → (Nat → Nat → Int32) → Prop} (hR : zRi G Z rmX11_tryAt 4 zTR ad ln cX11_tryAt .boolean post) (x3 : Int32) (al : Nat → Nat → Int32) (h : vcX11_tryAt_80 G  ad ln p1 (BX11_tryAt_7 G Z  ad ln p1) (BX11_tryAt_40 G Z  ad ln p1) (BX11_tryAt_44 G Z  ad ln p1) post x3 al) : zB G Z rmX11_tryAt 4 zTR ad ln 0 0 80 [(0, .ref (ad 0)), (1, .int p1), (3, .int x3)] [] al := tX11_tryAt_80 X p1 hR (fun _ _ h => h) (fun _ h => h) (fun _ _ _ h => h) x3 al h
theorem uX11_tryAt_44 {G : zG} {Z : zC}  {ad ln : Nat → Nat} (X : zX G Z cX11_tryAt 4 RX11 wsX11_tryAt) (p1 : Int32) {post : Int32 → (Nat → Nat → Int32) → Prop} (hR : zRi G Z rmX11_tryAt 4 zTR ad ln cX11_tryAt .boolean post) (x2 x3 : Int32) (al : Nat → Nat → Int32) (h : vcX11_tryAt_44 G  ad ln p1 (BX11_tryAt_7 G Z  ad ln p1) (BX11_tryAt_40 G Z  ad ln p1) (BX11_tryAt_44 G Z  ad ln p1) post x2 x3 al) : zB G Z rmX11_tryAt 4 zTR ad ln 0 0 44 [(0, .ref (ad 0)), (1, .int p1), (2, .int x2), (3, .int x3)] [] al := tX11_tryAt_44 X p1 hR (fun _ _ h => h) (fun _ h => h) (fun _ _ _ h => h) x2 x3 al h
