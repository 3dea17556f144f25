abbrev rmX4_fillCells : Room := { frames := 0, cells := 0, slots := 0, locals := 0 }
theorem kX4_fillCells_0 : Cond.fieldLink RX4 9 RX4 "cells" "[I" ∈ wsX4_fillCells := by decide +kernel
theorem kX4_fillCells_1 : zIn RX4 TX4 10 wsX4_fillCells := by decide +kernel
abbrev BX4_fillCells_2 (G : zG) (Z : zC)  (ad ln : Nat → Nat) (x1 : Int32) (al : Nat → Nat → Int32) : Prop := zB G Z rmX4_fillCells 2 (zTC true) ad ln 0 0 2 [(0, .ref (ad 173)), (1, .int x1)] [] al
def vcX4_fillCells_0 (G : zG)  (ad ln : Nat → Nat) (K2 : Int32 → (Nat → Nat → Int32) → Prop) (post : (Nat → Nat → Int32) → Prop) (al : Nat → Nat → Int32) : Prop :=
  K2 (0 : Int32) al
def vcX4_fillCells_2 (G : zG)  (ad ln : Nat → Nat) (K2 : Int32 → (Nat → Nat → Int32) → Prop) (post : (Nat → Nat → Int32) → Prop) (x1 : Int32) (al : Nat → Nat → Int32) : Prop :=
  ((1024 : Int32) ≤ x1 → post al) ∧ (¬ (1024 : Int32) ≤ x1 → (vp_in x1 4096 ∧ vp_in ((1024 : Int32) + x1) 4096 ∧ vp_in ((2048 : Int32) + x1) 4096 ∧ vp_in ((3072 : Int32) + x1) 4096 ∧ K2 (x1 + (1 : Int32)) (up2 (up2 (up2 (up2 al 174 x1.toNatClampNeg ((x1 * (7 : Int32)) ^^^ (21 : Int32))) 174 (((1024 : Int32) + x1).toNatClampNeg) ((x1 * x1) + (3 : Int32))) 174 (((2048 : Int32) + x1).toNatClampNeg) ((5 : Int32) - x1)) 174 (((3072 : Int32) + x1).toNatClampNeg) (0 : Int32))))
set_option maxRecDepth 20000 in
theorem tX4_fillCells_0 {G : zG} {Z : zC}  {ad ln : Nat → Nat} (X : zX G Z cX4_fillCells 2 RX4 wsX4_fillCells) {K2 : Int32 → (Nat → Nat → Int32) → Prop} {post : (Nat → Nat → Int32) → Prop} (hR : zRv G Z rmX4_fillCells 2 (zTC true) ad ln cX4_fillCells post) (hK2 : ∀ x1 : Int32, ∀ al, K2 x1 al → zB G Z rmX4_fillCells 2 (zTC true) ad ln 0 0 2 [(0, .ref (ad 173)), (1, .int x1)] [] al) (al : Nat → Nat → Int32) (h : vcX4_fillCells_0 G  ad ln K2 post  al) : zB G Z rmX4_fillCells 2 (zTC true) ad ln 0 0 0 [(0, .ref (ad 173))] [] al := by
  unfold vcX4_fillCells_0 at h
  refine zb_iconst X (0 : Int32) dX4_fillCells_0 (by decide) ?_
  refine zb_istore_n X (lv' := [(1, .int (0 : Int32)), (0, .ref (ad 173))]) dX4_fillCells_1 rfl (by decide) rfl ?_
  refine zb_sub [1, 0] rfl ?_
  exact hK2 (0 : Int32) al h
set_option maxRecDepth 20000 in
theorem tX4_fillCells_2 {G : zG} {Z : zC}  {ad ln : Nat → Nat} (X : zX G Z cX4_fillCells 2 RX4 wsX4_fillCells) {K2 : Int32 → (Nat → Nat → Int32) → Prop} {post : (Nat → Nat → Int32) → Prop} (hR : zRv G Z rmX4_fillCells 2 (zTC true) ad ln cX4_fillCells post) (hK2 : ∀ x1 : Int32, ∀ al, K2 x1 al → zB G Z rmX4_fillCells 2 (zTC true) ad ln 0 0 2 [(0, .ref (ad 173)), (1, .int x1)] [] al) (x1 : Int32) (al : Nat → Nat → Int32) (h : vcX4_fillCells_2 G  ad ln K2 post x1 al) : zB G Z rmX4_fillCells 2 (zTC true) ad ln 0 0 2 [(0, .ref (ad 173)), (1, .int x1)] [] al := by
  unfold vcX4_fillCells_2 at h
  refine zb_iload_n X dX4_fillCells_2 rfl 1 rfl ?_
  refine zb_sipush X (1024 : Int32) dX4_fillCells_3 (by decide) ?_
  refine zb_icmp_ge X 67 dX4_fillCells_6 (by decide) (fun c1 => ?_) (fun c1 => ?_)
  · have h := h.1 c1
    exact hR 67 _ _ dX4_fillCells_67 h
  · have h := h.2 c1
    refine zb_aload_n X dX4_fillCells_9 rfl 0 rfl ?_
    refine zb_getR X 173 (zTC_ltR (by decide)) 4 [6, 20, 24, 4, 5, 176, 177, 178, 179, 0] rfl (C := RX4) (Tt := TX4) (N := 10) rfl kX4_fillCells_1 5 (by decide) 174 rfl kX4_fillCells_0 rfl dX4_fillCells_10 ?_
    refine zb_iload_n X dX4_fillCells_13 rfl 1 rfl ?_
    refine zb_iload_n X dX4_fillCells_14 rfl 1 rfl ?_
    refine zb_bipush X (7 : Int32) dX4_fillCells_15 (by decide) ?_
    refine zb_imul X dX4_fillCells_17 ?_
    refine zb_bipush X (21 : Int32) dX4_fillCells_18 (by decide) ?_
    refine zb_ixor X dX4_fillCells_20 ?_
    obtain ⟨hz, h⟩ := h
    refine zb_iast X 174 (zTC_ltR (by decide)) 1 4096 0 0 rfl (Or.inl rfl) x1.toNatClampNeg rfl hz dX4_fillCells_21 ?_
    refine zb_aload_n X dX4_fillCells_22 rfl 0 rfl ?_
    refine zb_getR X 173 (zTC_ltR (by decide)) 4 [6, 20, 24, 4, 5, 176, 177, 178, 179, 0] rfl (C := RX4) (Tt := TX4) (N := 10) rfl kX4_fillCells_1 5 (by decide) 174 rfl kX4_fillCells_0 rfl dX4_fillCells_23 ?_
    refine zb_sipush X (1024 : Int32) dX4_fillCells_26 (by decide) ?_
    refine zb_iload_n X dX4_fillCells_29 rfl 1 rfl ?_
    refine zb_iadd X dX4_fillCells_30 ?_
    refine zb_iload_n X dX4_fillCells_31 rfl 1 rfl ?_
    refine zb_iload_n X dX4_fillCells_32 rfl 1 rfl ?_
    refine zb_imul X dX4_fillCells_33 ?_
    refine zb_iconst X (3 : Int32) dX4_fillCells_34 (by decide) ?_
    refine zb_iadd X dX4_fillCells_35 ?_
    obtain ⟨hz, h⟩ := h
    refine zb_iast X 174 (zTC_ltR (by decide)) 1 4096 0 0 rfl (Or.inl rfl) (((1024 : Int32) + x1).toNatClampNeg) rfl hz dX4_fillCells_36 ?_
    refine zb_aload_n X dX4_fillCells_37 rfl 0 rfl ?_
    refine zb_getR X 173 (zTC_ltR (by decide)) 4 [6, 20, 24, 4, 5, 176, 177, 178, 179, 0] rfl (C := RX4) (Tt := TX4) (N := 10) rfl kX4_fillCells_1 5 (by decide) 174 rfl kX4_fillCells_0 rfl dX4_fillCells_38 ?_
    refine zb_sipush X (2048 : Int32) dX4_fillCells_41 (by decide) ?_
    refine zb_iload_n X dX4_fillCells_44 rfl 1 rfl ?_
    refine zb_iadd X dX4_fillCells_45 ?_
    refine zb_iconst X (5 : Int32) dX4_fillCells_46 (by decide) ?_
    refine zb_iload_n X dX4_fillCells_47 rfl 1 rfl ?_
    refine zb_isub X dX4_fillCells_48 ?_
    obtain ⟨hz, h⟩ := h
    refine zb_iast X 174 (zTC_ltR (by decide)) 1 4096 0 0 rfl (Or.inl rfl) (((2048 : Int32) + x1).toNatClampNeg) rfl hz dX4_fillCells_49 ?_
    refine zb_aload_n X dX4_fillCells_50 rfl 0 rfl ?_
    refine zb_getR X 173 (zTC_ltR (by decide)) 4 [6, 20, 24, 4, 5, 176, 177, 178, 179, 0] rfl (C := RX4) (Tt := TX4) (N := 10) rfl kX4_fillCells_1 5 (by decide) 174 rfl kX4_fillCells_0 rfl dX4_fillCells_51 ?_
    refine zb_sipush X (3072 : Int32) dX4_fillCells_54 (by decide) ?_
    refine zb_iload_n X dX4_fillCells_57 rfl 1 rfl ?_
    refine zb_iadd X dX4_fillCells_58 ?_
    refine zb_iconst X (0 : Int32) dX4_fillCells_59 (by decide) ?_
    obtain ⟨hz, h⟩ := h
    refine zb_iast X 174 (zTC_ltR (by decide)) 1 4096 0 0 rfl (Or.inl rfl) (((3072 : Int32) + x1).toNatClampNeg) rfl hz dX4_fillCells_60 ?_
    refine zb_iinc X (lv' := [(1, .int (x1 + (1 : Int32))), (0, .ref (ad 173))]) (x1 + (1 : Int32)) dX4_fillCells_61 1 rfl rfl (by decide) rfl ?_
    refine zb_goto X 2 dX4_fillCells_64 (by decide) ?_
    refine zb_sub [1, 0] rfl ?_
    exact hK2 (x1 + (1 : Int32)) (up2 (up2 (up2 (up2 al 174 x1.toNatClampNeg ((x1 * (7 : Int32)) ^^^ (21 : Int32))) 174 (((1024 : Int32) + x1).toNatClampNeg) ((x1 * x1) + (3 : Int32))) 174 (((2048 : Int32) + x1).toNatClampNeg) ((5 : Int32) - x1)) 174 (((3072 : Int32) + x1).toNatClampNeg) (0 : Int32)) h
theorem uX4_fillCells_0 {G : zG} {Z : zC}  {ad ln : Nat → Nat} (X : zX G Z cX4_fillCells 2 RX4 wsX4_fillCells) {post : (Nat → Nat → Int32) → Prop} (hR : zRv G Z rmX4_fillCells 2 (zTC true) ad ln cX4_fillCells post) (al : Nat → Nat → Int32) (h : vcX4_fillCells_0 G  ad ln (BX4_fillCells_2 G Z  ad ln) post  al) : zB G Z rmX4_fillCells 2 (zTC true) ad ln 0 0 0 [(0, .ref (ad 173))] [] al := tX4_fillCells_0 X hR (fun _ _ h => h)  al h
theorem uX4_fillCells_2 {G : zG} {Z : zC}  {ad ln : Nat → Nat} (X : zX G Z cX4_fillCells 2 RX4 wsX4_fillCells) {post : (Nat → Nat → Int32) → Prop} (hR : zRv G Z rmX4_fillCells 2 (zTC true) ad ln cX4_fillCells post) (x1 : Int32) (al : Nat → Nat → Int32) (h : vcX4_fillCells_2 G  ad ln (BX4_fillCells_2 G Z  ad ln) post x1 al) : zB G Z rmX4_fillCells 2 (zTC true) ad ln 0 0 2 [(0, .ref (ad 173)), (1, .int x1)] [] al := tX4_fillCells_2 X hR (fun _ _ h => h) x1 al h

abbrev rmX4_cellOf : Room := { frames := 1, cells := 0, slots := 0, locals := 21 }
theorem kX4_cellOf_0 : Cond.fieldLink RX4 85 RX3 "array" "I" ∈ wsX4_cellOf := by decide +kernel
theorem kX4_cellOf_1 : zIn RX3 TX3 9 wsX4_cellOf := by decide +kernel
def vcX4_cellOf_0 (G : zG)  (ad ln : Nat → Nat) (w1 : Nat) (hw1 : w1 < 48) (p2 : Int32)  (post : Int32 → (Nat → Nat → Int32) → Prop) (al : Nat → Nat → Int32) : Prop :=
  zMi G yX3_spot wsX3_spot rmX3_spot (zTC true) ad ln [.ref (ad (29 + 3 * w1)), .int p2] al (fun q1 a1 => post ((((al (29 + 3 * w1) 4) * (1024 : Int32)) + (512 : Int32)) + q1) a1)
set_option maxRecDepth 20000 in
theorem tX4_cellOf_0 {G : zG} {Z : zC}  {ad ln : Nat → Nat} (X : zX G Z cX4_cellOf 3 RX4 wsX4_cellOf) (w1 : Nat) (hw1 : w1 < 48) (p2 : Int32)  {post : Int32 → (Nat → Nat → Int32) → Prop} (hR : zRi G Z rmX4_cellOf 3 (zTC true) ad ln cX4_cellOf .int post)  (al : Nat → Nat → Int32) (h : vcX4_cellOf_0 G  ad ln w1 hw1 p2  post  al) : zB G Z rmX4_cellOf 3 (zTC true) ad ln 0 0 0 [(0, .ref (ad 173)), (1, .ref (ad (29 + 3 * w1))), (2, .int p2)] [] al := by
  unfold vcX4_cellOf_0 at h
  refine zb_aload_n X dX4_cellOf_0 rfl 1 rfl ?_
  refine zb_getI X (29 + 3 * w1) (zTC_lt (zrow_lt hw1)) 3 [0, 0, 0, 0, 0, 0, 0, (30 + 3 * w1) + 2, (31 + 3 * w1) + 2] (zTC_row true hw1) (C := RX3) (Tt := TX3) (N := 9) rfl kX4_cellOf_1 4 (by decide) rfl kX4_cellOf_0 rfl dX4_cellOf_1 (al (29 + 3 * w1) 4) rfl ?_
  refine zb_sipush X (1024 : Int32) dX4_cellOf_4 (by decide) ?_
  refine zb_imul X dX4_cellOf_7 ?_
  refine zb_sipush X (512 : Int32) dX4_cellOf_8 (by decide) ?_
  refine zb_iadd X dX4_cellOf_11 ?_
  refine zb_aload_n X dX4_cellOf_12 rfl 1 rfl ?_
  refine zb_iload_n X dX4_cellOf_13 rfl 2 rfl ?_
  refine zb_callVi (n := 1) X (29 + 3 * w1) (zTC_lt (zrow_lt hw1)) 3 [0, 0, 0, 0, 0, 0, 0, (30 + 3 * w1) + 2, (31 + 3 * w1) + 2] (zTC_row true hw1) (C := RX3) (Tt := TX3) (N := 9) rfl h gX4_cellOf_X3_spot rfl (by decide +kernel) (by decide) rfl rfl (Nat.le_of_ble_eq_true rfl) dX4_cellOf_14 (kc' := 0) (ks' := 0) rfl rfl (fun q1 a1 h => ?_)
  refine zb_iadd X dX4_cellOf_17 ?_
  exact hR 18 _ _ _ dX4_cellOf_18 rfl h

abbrev rmX4_writtenValue : Room := { frames := 0, cells := 0, slots := 0, locals := 0 }
theorem kX4_writtenValue_0 : Cond.fieldLink RX4 119 RX1 "sort" "I" ∈ wsX4_writtenValue := by decide +kernel
theorem kX4_writtenValue_1 : zIn RX1 TX1 2 wsX4_writtenValue := by decide +kernel
theorem kX4_writtenValue_2 : Cond.fieldLink RX4 124 RX1 "value" "I" ∈ wsX4_writtenValue := by decide +kernel
theorem kX4_writtenValue_3 : Cond.fieldLink RX4 15 RX4 "registers" "[I" ∈ wsX4_writtenValue := by decide +kernel
theorem kX4_writtenValue_4 : zIn RX4 TX4 10 wsX4_writtenValue := by decide +kernel
def vcX4_writtenValue_36 (G : zG)  (ad ln : Nat → Nat) (o1 : Nat) (ho1 : zOp true o1) (p2 : Int32)  (post : Int32 → (Nat → Nat → Int32) → Prop) (s0 : Int32) (al : Nat → Nat → Int32) : Prop :=
  post s0 al
def vcX4_writtenValue_0 (G : zG)  (ad ln : Nat → Nat) (o1 : Nat) (ho1 : zOp true o1) (p2 : Int32)  (post : Int32 → (Nat → Nat → Int32) → Prop) (al : Nat → Nat → Int32) : Prop :=
  (¬ (al o1 0) = (114 : Int32) → (¬ (al o1 0) = (105 : Int32) → vcX4_writtenValue_36 G  ad ln o1 ho1 p2  post (al o1 1) al) ∧ ((al o1 0) = (105 : Int32) → vcX4_writtenValue_36 G  ad ln o1 ho1 p2  post p2 al)) ∧ ((al o1 0) = (114 : Int32) → (vp_in (al o1 1) 32 ∧ post (al 175 ((al o1 1).toNatClampNeg)) al))
set_option maxRecDepth 20000 in
theorem tX4_writtenValue_36 {G : zG} {Z : zC}  {ad ln : Nat → Nat} (X : zX G Z cX4_writtenValue 3 RX4 wsX4_writtenValue) (o1 : Nat) (ho1 : zOp true o1) (p2 : Int32)  {post : Int32 → (Nat → Nat → Int32) → Prop} (hR : zRi G Z rmX4_writtenValue 3 (zTC true) ad ln cX4_writtenValue .int post)  (s0 : Int32) (al : Nat → Nat → Int32) (h : vcX4_writtenValue_36 G  ad ln o1 ho1 p2  post s0 al) : zB G Z rmX4_writtenValue 3 (zTC true) ad ln 0 0 36 [] [.int s0] al := by
  unfold vcX4_writtenValue_36 at h
  exact hR 36 _ _ _ dX4_writtenValue_36 rfl h
set_option maxRecDepth 20000 in
theorem tX4_writtenValue_0 {G : zG} {Z : zC}  {ad ln : Nat → Nat} (X : zX G Z cX4_writtenValue 3 RX4 wsX4_writtenValue) (o1 : Nat) (ho1 : zOp true o1) (p2 : Int32)  {post : Int32 → (Nat → Nat → Int32) → Prop} (hR : zRi G Z rmX4_writtenValue 3 (zTC true) ad ln cX4_writtenValue .int post)  (al : Nat → Nat → Int32) (h : vcX4_writtenValue_0 G  ad ln o1 ho1 p2  post  al) : zB G Z rmX4_writtenValue 3 (zTC true) ad ln 0 0 0 [(0, .ref (ad 173)), (1, .ref (ad o1)), (2, .int p2)] [] al := by
  unfold vcX4_writtenValue_0 at h
  refine zb_aload_n X dX4_writtenValue_0 rfl 1 rfl ?_
  refine zb_getI X o1 ho1.1 1 [0, 0] ho1.2 (C := RX1) (Tt := TX1) (N := 2) rfl kX4_writtenValue_1 0 (by decide) rfl kX4_writtenValue_0 rfl dX4_writtenValue_1 (al o1 0) rfl ?_
  refine zb_bipush X (114 : Int32) dX4_writtenValue_4 (by decide) ?_
  refine zb_icmp_ne X 19 dX4_writtenValue_6 (by decide) (fun c1 => ?_) (fun c1 => ?_)
  · have h := h.1 c1
    refine zb_aload_n X dX4_writtenValue_19 rfl 1 rfl ?_
    refine zb_getI X o1 ho1.1 1 [0, 0] ho1.2 (C := RX1) (Tt := TX1) (N := 2) rfl kX4_writtenValue_1 0 (by decide) rfl kX4_writtenValue_0 rfl dX4_writtenValue_20 (al o1 0) rfl ?_
    refine zb_bipush X (105 : Int32) dX4_writtenValue_23 (by decide) ?_
    refine zb_icmp_ne X 32 dX4_writtenValue_25 (by decide) (fun c2 => ?_) (fun c2 => ?_)
    · have h := h.1 c2
      refine zb_aload_n X dX4_writtenValue_32 rfl 1 rfl ?_
      refine zb_getI X o1 ho1.1 1 [0, 0] ho1.2 (C := RX1) (Tt := TX1) (N := 2) rfl kX4_writtenValue_1 1 (by decide) rfl kX4_writtenValue_2 rfl dX4_writtenValue_33 (al o1 1) rfl ?_
      refine zb_sub [] rfl ?_
      exact tX4_writtenValue_36 X o1 ho1 p2 hR  (al o1 1) al h
    · have h := h.2 c2
      refine zb_iload_n X dX4_writtenValue_28 rfl 2 rfl ?_
      refine zb_goto X 36 dX4_writtenValue_29 (by decide) ?_
      refine zb_sub [] rfl ?_
      exact tX4_writtenValue_36 X o1 ho1 p2 hR  p2 al h
  · have h := h.2 c1
    refine zb_aload_n X dX4_writtenValue_9 rfl 0 rfl ?_
    refine zb_getR X 173 (zTC_ltR (by decide)) 4 [6, 20, 24, 4, 5, 176, 177, 178, 179, 0] rfl (C := RX4) (Tt := TX4) (N := 10) rfl kX4_writtenValue_4 6 (by decide) 175 rfl kX4_writtenValue_3 rfl dX4_writtenValue_10 ?_
    refine zb_aload_n X dX4_writtenValue_13 rfl 1 rfl ?_
    refine zb_getI X o1 ho1.1 1 [0, 0] ho1.2 (C := RX1) (Tt := TX1) (N := 2) rfl kX4_writtenValue_1 1 (by decide) rfl kX4_writtenValue_2 rfl dX4_writtenValue_14 (al o1 1) rfl ?_
    obtain ⟨hz, h⟩ := h
    refine zb_iald X 175 (zTC_ltR (by decide)) 1 32 0 0 rfl (Or.inl rfl) ((al o1 1).toNatClampNeg) rfl hz dX4_writtenValue_17 (al 175 ((al o1 1).toNatClampNeg)) rfl ?_
    exact hR 18 _ _ _ dX4_writtenValue_18 rfl h

abbrev rmX4_doWritten : Room := { frames := 2, cells := 0, slots := 0, locals := 43 }
theorem kX4_doWritten_0 : Cond.fieldLink RX4 94 RX3 "kind" "I" ∈ wsX4_doWritten := by decide +kernel
theorem kX4_doWritten_1 : zIn RX3 TX3 9 wsX4_doWritten := by decide +kernel
theorem kX4_doWritten_2 : Cond.fieldLink RX4 101 RX3 "left" "LLoopForge$Operand;" ∈ wsX4_doWritten := by decide +kernel
theorem kX4_doWritten_3 : Cond.fieldLink RX4 15 RX4 "registers" "[I" ∈ wsX4_doWritten := by decide +kernel
theorem kX4_doWritten_4 : zIn RX4 TX4 10 wsX4_doWritten := by decide +kernel
theorem kX4_doWritten_5 : Cond.fieldLink RX4 109 RX3 "target" "I" ∈ wsX4_doWritten := by decide +kernel
theorem kX4_doWritten_6 : Cond.fieldLink RX4 112 RX3 "right" "LLoopForge$Operand;" ∈ wsX4_doWritten := by decide +kernel
theorem kX4_doWritten_7 : Cond.fieldLink RX4 9 RX4 "cells" "[I" ∈ wsX4_doWritten := by decide +kernel
def vcX4_doWritten_95 (G : zG)  (ad ln : Nat → Nat) (w1 : Nat) (hw1 : w1 < 48) (p2 : Int32)  (post : (Nat → Nat → Int32) → Prop) (al : Nat → Nat → Int32) : Prop :=
  post al
def vcX4_doWritten_0 (G : zG)  (ad ln : Nat → Nat) (w1 : Nat) (hw1 : w1 < 48) (p2 : Int32)  (post : (Nat → Nat → Int32) → Prop) (al : Nat → Nat → Int32) : Prop :=
  (¬ (al (29 + 3 * w1) 0) = (3 : Int32) → (¬ (al (29 + 3 * w1) 0) = (2 : Int32) → zMi G yX4_writtenValue wsX4_writtenValue rmX4_writtenValue (zTC true) ad ln [.ref (ad 173), .ref (ad (30 + 3 * w1)), .int p2] al (fun q3 a3 => zMi G yX4_writtenValue wsX4_writtenValue rmX4_writtenValue (zTC true) ad ln [.ref (ad 173), .ref (ad (31 + 3 * w1)), .int p2] a3 (fun q4 a4 => zMi G yX3_reckon wsX3_reckon rmX3_reckon (zTC true) ad ln [.ref (ad (29 + 3 * w1)), .int q3, .int q4] a4 (fun q5 a5 => (vp_in (a3 (29 + 3 * w1) 2) 32 ∧ vcX4_doWritten_95 G  ad ln w1 hw1 p2  post  (up2 a5 175 ((a3 (29 + 3 * w1) 2).toNatClampNeg) q5)))))) ∧ ((al (29 + 3 * w1) 0) = (2 : Int32) → zMi G yX4_cellOf wsX4_cellOf rmX4_cellOf (zTC true) ad ln [.ref (ad 173), .ref (ad (29 + 3 * w1)), .int p2] al (fun q3 a3 => (vp_in q3 4096 ∧ vp_in (al (29 + 3 * w1) 2) 32 ∧ vcX4_doWritten_95 G  ad ln w1 hw1 p2  post  (up2 a3 175 ((al (29 + 3 * w1) 2).toNatClampNeg) (a3 174 q3.toNatClampNeg)))))) ∧ ((al (29 + 3 * w1) 0) = (3 : Int32) → zMi G yX4_cellOf wsX4_cellOf rmX4_cellOf (zTC true) ad ln [.ref (ad 173), .ref (ad (29 + 3 * w1)), .int p2] al (fun q2 a2 => zMi G yX4_writtenValue wsX4_writtenValue rmX4_writtenValue (zTC true) ad ln [.ref (ad 173), .ref (ad (30 + 3 * w1)), .int p2] a2 (fun q3 a3 => (vp_in q2 4096 ∧ vcX4_doWritten_95 G  ad ln w1 hw1 p2  post  (up2 a3 174 q2.toNatClampNeg q3)))))
set_option maxRecDepth 20000 in
theorem tX4_doWritten_95 {G : zG} {Z : zC}  {ad ln : Nat → Nat} (X : zX G Z cX4_doWritten 4 RX4 wsX4_doWritten) (w1 : Nat) (hw1 : w1 < 48) (p2 : Int32)  {post : (Nat → Nat → Int32) → Prop} (hR : zRv G Z rmX4_doWritten 4 (zTC true) ad ln cX4_doWritten post)  (al : Nat → Nat → Int32) (h : vcX4_doWritten_95 G  ad ln w1 hw1 p2  post  al) : zB G Z rmX4_doWritten 4 (zTC true) ad ln 0 0 95 [] [] al := by
  unfold vcX4_doWritten_95 at h
  exact hR 95 _ _ dX4_doWritten_95 h
set_option maxRecDepth 20000 in
theorem tX4_doWritten_0 {G : zG} {Z : zC}  {ad ln : Nat → Nat} (X : zX G Z cX4_doWritten 4 RX4 wsX4_doWritten) (w1 : Nat) (hw1 : w1 < 48) (p2 : Int32)  {post : (Nat → Nat → Int32) → Prop} (hR : zRv G Z rmX4_doWritten 4 (zTC true) ad ln cX4_doWritten post)  (al : Nat → Nat → Int32) (h : vcX4_doWritten_0 G  ad ln w1 hw1 p2  post  al) : zB G Z rmX4_doWritten 4 (zTC true) ad ln 0 0 0 [(0, .ref (ad 173)), (1, .ref (ad (29 + 3 * w1))), (2, .int p2)] [] al := by
  unfold vcX4_doWritten_0 at h
  refine zb_aload_n X dX4_doWritten_0 rfl 1 rfl ?_
  refine zb_getI X (29 + 3 * w1) (zTC_lt (zrow_lt hw1)) 3 [0, 0, 0, 0, 0, 0, 0, (30 + 3 * w1) + 2, (31 + 3 * w1) + 2] (zTC_row true hw1) (C := RX3) (Tt := TX3) (N := 9) rfl kX4_doWritten_1 0 (by decide) rfl kX4_doWritten_0 rfl dX4_doWritten_1 (al (29 + 3 * w1) 0) rfl ?_
  refine zb_iconst X (3 : Int32) dX4_doWritten_4 (by decide) ?_
  refine zb_icmp_ne X 31 dX4_doWritten_5 (by decide) (fun c1 => ?_) (fun c1 => ?_)
  · have h := h.1 c1
    refine zb_aload_n X dX4_doWritten_31 rfl 1 rfl ?_
    refine zb_getI X (29 + 3 * w1) (zTC_lt (zrow_lt hw1)) 3 [0, 0, 0, 0, 0, 0, 0, (30 + 3 * w1) + 2, (31 + 3 * w1) + 2] (zTC_row true hw1) (C := RX3) (Tt := TX3) (N := 9) rfl kX4_doWritten_1 0 (by decide) rfl kX4_doWritten_0 rfl dX4_doWritten_32 (al (29 + 3 * w1) 0) rfl ?_
    refine zb_iconst X (2 : Int32) dX4_doWritten_35 (by decide) ?_
    refine zb_icmp_ne X 62 dX4_doWritten_36 (by decide) (fun c2 => ?_) (fun c2 => ?_)
    · have h := h.1 c2
      refine zb_aload_n X dX4_doWritten_62 rfl 0 rfl ?_
      refine zb_aload_n X dX4_doWritten_63 rfl 1 rfl ?_
      refine zb_getR X (29 + 3 * w1) (zTC_lt (zrow_lt hw1)) 3 [0, 0, 0, 0, 0, 0, 0, (30 + 3 * w1) + 2, (31 + 3 * w1) + 2] (zTC_row true hw1) (C := RX3) (Tt := TX3) (N := 9) rfl kX4_doWritten_1 7 (by decide) (30 + 3 * w1) rfl kX4_doWritten_2 rfl dX4_doWritten_64 ?_
      refine zb_iload_n X dX4_doWritten_67 rfl 2 rfl ?_
      refine zb_callVi (n := 2) X 173 (zTC_ltR (by decide)) 4 [6, 20, 24, 4, 5, 176, 177, 178, 179, 0] rfl (C := RX4) (Tt := TX4) (N := 10) rfl h gX4_doWritten_X4_writtenValue rfl (by decide +kernel) (by decide) rfl rfl (Nat.le_of_ble_eq_true rfl) dX4_doWritten_68 (kc' := 0) (ks' := 0) rfl rfl (fun q3 a3 h => ?_)
      refine zb_istore_n X (lv' := [(3, .int q3), (0, .ref (ad 173)), (1, .ref (ad (29 + 3 * w1))), (2, .int p2)]) dX4_doWritten_71 rfl (by decide) rfl ?_
      refine zb_aload_n X dX4_doWritten_72 rfl 1 rfl ?_
      refine zb_getR X 173 (zTC_ltR (by decide)) 4 [6, 20, 24, 4, 5, 176, 177, 178, 179, 0] rfl (C := RX4) (Tt := TX4) (N := 10) rfl kX4_doWritten_4 6 (by decide) 175 rfl kX4_doWritten_3 rfl dX4_doWritten_73 ?_
      refine zb_aload_n X dX4_doWritten_76 rfl 2 rfl ?_
      refine zb_getI X (29 + 3 * w1) (zTC_lt (zrow_lt hw1)) 3 [0, 0, 0, 0, 0, 0, 0, (30 + 3 * w1) + 2, (31 + 3 * w1) + 2] (zTC_row true hw1) (C := RX3) (Tt := TX3) (N := 9) rfl kX4_doWritten_1 2 (by decide) rfl kX4_doWritten_5 rfl dX4_doWritten_77 (a3 (29 + 3 * w1) 2) rfl ?_
      refine zb_aload_n X dX4_doWritten_80 rfl 2 rfl ?_
      refine zb_iload_n X dX4_doWritten_81 rfl 0 rfl ?_
      refine zb_aload_n X dX4_doWritten_82 rfl 1 rfl ?_
      refine zb_aload_n X dX4_doWritten_83 rfl 2 rfl ?_
      refine zb_getR X (29 + 3 * w1) (zTC_lt (zrow_lt hw1)) 3 [0, 0, 0, 0, 0, 0, 0, (30 + 3 * w1) + 2, (31 + 3 * w1) + 2] (zTC_row true hw1) (C := RX3) (Tt := TX3) (N := 9) rfl kX4_doWritten_1 8 (by decide) (31 + 3 * w1) rfl kX4_doWritten_6 rfl dX4_doWritten_84 ?_
      refine zb_iload_n X dX4_doWritten_87 rfl 3 rfl ?_
      refine zb_callVi (n := 2) X 173 (zTC_ltR (by decide)) 4 [6, 20, 24, 4, 5, 176, 177, 178, 179, 0] rfl (C := RX4) (Tt := TX4) (N := 10) rfl h gX4_doWritten_X4_writtenValue rfl (by decide +kernel) (by decide) rfl rfl (Nat.le_of_ble_eq_true rfl) dX4_doWritten_88 (kc' := 0) (ks' := 0) rfl rfl (fun q4 a4 h => ?_)
      refine zb_callVi (n := 2) X (29 + 3 * w1) (zTC_lt (zrow_lt hw1)) 3 [0, 0, 0, 0, 0, 0, 0, (30 + 3 * w1) + 2, (31 + 3 * w1) + 2] (zTC_row true hw1) (C := RX3) (Tt := TX3) (N := 9) rfl h gX4_doWritten_X3_reckon rfl (by decide +kernel) (by decide) rfl rfl (Nat.le_of_ble_eq_true rfl) dX4_doWritten_91 (kc' := 0) (ks' := 0) rfl rfl (fun q5 a5 h => ?_)
      obtain ⟨hz, h⟩ := h
      refine zb_iast X 175 (zTC_ltR (by decide)) 1 32 0 0 rfl (Or.inl rfl) ((a3 (29 + 3 * w1) 2).toNatClampNeg) rfl hz dX4_doWritten_94 ?_
      refine zb_sub [] rfl ?_
      exact tX4_doWritten_95 X w1 hw1 p2 hR   (up2 a5 175 ((a3 (29 + 3 * w1) 2).toNatClampNeg) q5) h
    · have h := h.2 c2
      refine zb_aload_n X dX4_doWritten_39 rfl 0 rfl ?_
      refine zb_getR X 173 (zTC_ltR (by decide)) 4 [6, 20, 24, 4, 5, 176, 177, 178, 179, 0] rfl (C := RX4) (Tt := TX4) (N := 10) rfl kX4_doWritten_4 6 (by decide) 175 rfl kX4_doWritten_3 rfl dX4_doWritten_40 ?_
      refine zb_aload_n X dX4_doWritten_43 rfl 1 rfl ?_
      refine zb_getI X (29 + 3 * w1) (zTC_lt (zrow_lt hw1)) 3 [0, 0, 0, 0, 0, 0, 0, (30 + 3 * w1) + 2, (31 + 3 * w1) + 2] (zTC_row true hw1) (C := RX3) (Tt := TX3) (N := 9) rfl kX4_doWritten_1 2 (by decide) rfl kX4_doWritten_5 rfl dX4_doWritten_44 (al (29 + 3 * w1) 2) rfl ?_
      refine zb_aload_n X dX4_doWritten_47 rfl 0 rfl ?_
      refine zb_getR X 173 (zTC_ltR (by decide)) 4 [6, 20, 24, 4, 5, 176, 177, 178, 179, 0] rfl (C := RX4) (Tt := TX4) (N := 10) rfl kX4_doWritten_4 5 (by decide) 174 rfl kX4_doWritten_7 rfl dX4_doWritten_48 ?_
      refine zb_aload_n X dX4_doWritten_51 rfl 0 rfl ?_
      refine zb_aload_n X dX4_doWritten_52 rfl 1 rfl ?_
      refine zb_iload_n X dX4_doWritten_53 rfl 2 rfl ?_
      refine zb_callVi (n := 2) X 173 (zTC_ltR (by decide)) 4 [6, 20, 24, 4, 5, 176, 177, 178, 179, 0] rfl (C := RX4) (Tt := TX4) (N := 10) rfl h gX4_doWritten_X4_cellOf rfl (by decide +kernel) (by decide) rfl rfl (Nat.le_of_ble_eq_true rfl) dX4_doWritten_54 (kc' := 0) (ks' := 0) rfl rfl (fun q3 a3 h => ?_)
      obtain ⟨hz, h⟩ := h
      refine zb_iald X 174 (zTC_ltR (by decide)) 1 4096 0 0 rfl (Or.inl rfl) q3.toNatClampNeg rfl hz dX4_doWritten_57 (a3 174 q3.toNatClampNeg) rfl ?_
      obtain ⟨hz, h⟩ := h
      refine zb_iast X 175 (zTC_ltR (by decide)) 1 32 0 0 rfl (Or.inl rfl) ((al (29 + 3 * w1) 2).toNatClampNeg) rfl hz dX4_doWritten_58 ?_
      refine zb_goto X 95 dX4_doWritten_59 (by decide) ?_
      refine zb_sub [] rfl ?_
      exact tX4_doWritten_95 X w1 hw1 p2 hR   (up2 a3 175 ((al (29 + 3 * w1) 2).toNatClampNeg) (a3 174 q3.toNatClampNeg)) h
  · have h := h.2 c1
    refine zb_aload_n X dX4_doWritten_8 rfl 0 rfl ?_
    refine zb_getR X 173 (zTC_ltR (by decide)) 4 [6, 20, 24, 4, 5, 176, 177, 178, 179, 0] rfl (C := RX4) (Tt := TX4) (N := 10) rfl kX4_doWritten_4 5 (by decide) 174 rfl kX4_doWritten_7 rfl dX4_doWritten_9 ?_
    refine zb_aload_n X dX4_doWritten_12 rfl 0 rfl ?_
    refine zb_aload_n X dX4_doWritten_13 rfl 1 rfl ?_
    refine zb_iload_n X dX4_doWritten_14 rfl 2 rfl ?_
    refine zb_callVi (n := 2) X 173 (zTC_ltR (by decide)) 4 [6, 20, 24, 4, 5, 176, 177, 178, 179, 0] rfl (C := RX4) (Tt := TX4) (N := 10) rfl h gX4_doWritten_X4_cellOf rfl (by decide +kernel) (by decide) rfl rfl (Nat.le_of_ble_eq_true rfl) dX4_doWritten_15 (kc' := 0) (ks' := 0) rfl rfl (fun q2 a2 h => ?_)
    refine zb_aload_n X dX4_doWritten_18 rfl 0 rfl ?_
    refine zb_aload_n X dX4_doWritten_19 rfl 1 rfl ?_
    refine zb_getR X (29 + 3 * w1) (zTC_lt (zrow_lt hw1)) 3 [0, 0, 0, 0, 0, 0, 0, (30 + 3 * w1) + 2, (31 + 3 * w1) + 2] (zTC_row true hw1) (C := RX3) (Tt := TX3) (N := 9) rfl kX4_doWritten_1 7 (by decide) (30 + 3 * w1) rfl kX4_doWritten_2 rfl dX4_doWritten_20 ?_
    refine zb_iload_n X dX4_doWritten_23 rfl 2 rfl ?_
    refine zb_callVi (n := 2) X 173 (zTC_ltR (by decide)) 4 [6, 20, 24, 4, 5, 176, 177, 178, 179, 0] rfl (C := RX4) (Tt := TX4) (N := 10) rfl h gX4_doWritten_X4_writtenValue rfl (by decide +kernel) (by decide) rfl rfl (Nat.le_of_ble_eq_true rfl) dX4_doWritten_24 (kc' := 0) (ks' := 0) rfl rfl (fun q3 a3 h => ?_)
    obtain ⟨hz, h⟩ := h
    refine zb_iast X 174 (zTC_ltR (by decide)) 1 4096 0 0 rfl (Or.inl rfl) q2.toNatClampNeg rfl hz dX4_doWritten_27 ?_
    refine zb_goto X 95 dX4_doWritten_28 (by decide) ?_
    refine zb_sub [] rfl ?_
    exact tX4_doWritten_95 X w1 hw1 p2 hR   (up2 a3 174 q2.toNatClampNeg q3) h

abbrev rmX4_lastCycle : Room := { frames := 1, cells := 0, slots := 0, locals := 21 }
theorem kX4_lastCycle_0 : Cond.fieldLink RX4 24 RX4 "loop" "LLoopForge$Loop;" ∈ wsX4_lastCycle := by decide +kernel
theorem kX4_lastCycle_1 : zIn RX4 TX4 10 wsX4_lastCycle := by decide +kernel
theorem kX4_lastCycle_2 : Cond.fieldLink RX4 51 RX0 "size" "I" ∈ wsX4_lastCycle := by decide +kernel
theorem kX4_lastCycle_3 : zIn RX0 TX0 3 wsX4_lastCycle := by decide +kernel
theorem kX4_lastCycle_4 : Cond.fieldLink RX4 36 RX4 "settings" "[I" ∈ wsX4_lastCycle := by decide +kernel
theorem kX4_lastCycle_5 : Cond.fieldLink RX4 65 RX4 "distance" "I" ∈ wsX4_lastCycle := by decide +kernel
theorem kX4_lastCycle_6 : Cond.fieldLink RX4 28 RX4 "table" "LLoopForge$Table;" ∈ wsX4_lastCycle := by decide +kernel
theorem kX4_lastCycle_7 : Cond.fieldLink RX4 127 RX7 "cycle" "[I" ∈ wsX4_lastCycle := by decide +kernel
theorem kX4_lastCycle_8 : zIn RX7 TX7 9 wsX4_lastCycle := by decide +kernel
theorem kX4_lastCycle_9 : Cond.fieldLink RX4 57 RX0 "rows" "[LLoopForge$Row;" ∈ wsX4_lastCycle := by decide +kernel
theorem kX4_lastCycle_10 : Cond.fieldLink RX4 94 RX3 "kind" "I" ∈ wsX4_lastCycle := by decide +kernel
theorem kX4_lastCycle_11 : zIn RX3 TX3 9 wsX4_lastCycle := by decide +kernel
theorem kX4_lastCycle_12 : Cond.methodLink RX4 132 Lib.Math.max.name ∈ wsX4_lastCycle := by decide +kernel
theorem kX4_lastCycle_13 : Cond.static Lib.Math.max.name ∈ wsX4_lastCycle := by decide +kernel
theorem kX4_lastCycle_14 : Cond.initialized "java/lang/Math" ∈ wsX4_lastCycle := by decide +kernel
theorem kX4_lastCycle_15 : Cond.code Lib.Math.max.name Lib.Math.max.code 2 (some .int) ∈ wsX4_lastCycle := by decide +kernel
abbrev BX4_lastCycle_4 (G : zG) (Z : zC)  (ad ln : Nat → Nat) (x1 x2 : Int32) (al : Nat → Nat → Int32) : Prop := zB G Z rmX4_lastCycle 3 (zTC true) ad ln 0 0 4 [(0, .ref (ad 173)), (1, .int x1), (2, .int x2)] [] al
def vcX4_lastCycle_0 (G : zG)  (ad ln : Nat → Nat) (K4 : Int32 → Int32 → (Nat → Nat → Int32) → Prop) (post : Int32 → (Nat → Nat → Int32) → Prop) (al : Nat → Nat → Int32) : Prop :=
  K4 (0 : Int32) (0 : Int32) al
def vcX4_lastCycle_4 (G : zG)  (ad ln : Nat → Nat) (K4 : Int32 → Int32 → (Nat → Nat → Int32) → Prop) (post : Int32 → (Nat → Nat → Int32) → Prop) (x1 x2 : Int32) (al : Nat → Nat → Int32) : Prop :=
  ((al 4 1) ≤ x2 → (vp_in (8 : Int32) 9 ∧ post (x1 + (((al 2 8) - (1 : Int32)) * (al 173 9))) al)) ∧ (¬ (al 4 1) ≤ x2 → (vp_in x2 48 ∧ vp_in x2 48 ∧ vp_in (al (29 + 3 * x2.toNatClampNeg) 0) 9 ∧ K4 (if x1 < ((al 19 x2.toNatClampNeg) + (al 2 ((al (29 + 3 * x2.toNatClampNeg) 0).toNatClampNeg))) then ((al 19 x2.toNatClampNeg) + (al 2 ((al (29 + 3 * x2.toNatClampNeg) 0).toNatClampNeg))) else x1) (x2 + (1 : Int32)) al))
set_option maxRecDepth 20000 in
theorem tX4_lastCycle_0 {G : zG} {Z : zC}  {ad ln : Nat → Nat} (X : zX G Z cX4_lastCycle 3 RX4 wsX4_lastCycle) {K4 : Int32 → Int32 → (Nat → Nat → Int32) → Prop} {post : Int32 → (Nat → Nat → Int32) → Prop} (hR : zRi G Z rmX4_lastCycle 3 (zTC true) ad ln cX4_lastCycle .int post) (hK4 : ∀ x1 x2 : Int32, ∀ al, K4 x1 x2 al → zB G Z rmX4_lastCycle 3 (zTC true) ad ln 0 0 4 [(0, .ref (ad 173)), (1, .int x1), (2, .int x2)] [] al) (al : Nat → Nat → Int32) (h : vcX4_lastCycle_0 G  ad ln K4 post  al) : zB G Z rmX4_lastCycle 3 (zTC true) ad ln 0 0 0 [(0, .ref (ad 173))] [] al := by
  unfold vcX4_lastCycle_0 at h
  refine zb_iconst X (0 : Int32) dX4_lastCycle_0 (by decide) ?_
  refine zb_istore_n X (lv' := [(1, .int (0 : Int32)), (0, .ref (ad 173))]) dX4_lastCycle_1 rfl (by decide) rfl ?_
  refine zb_iconst X (0 : Int32) dX4_lastCycle_2 (by decide) ?_
  refine zb_istore_n X (lv' := [(2, .int (0 : Int32)), (1, .int (0 : Int32)), (0, .ref (ad 173))]) dX4_lastCycle_3 rfl (by decide) rfl ?_
  refine zb_sub [2, 1, 0] rfl ?_
  exact hK4 (0 : Int32) (0 : Int32) al h
set_option maxRecDepth 20000 in
theorem tX4_lastCycle_4 {G : zG} {Z : zC}  {ad ln : Nat → Nat} (X : zX G Z cX4_lastCycle 3 RX4 wsX4_lastCycle) {K4 : Int32 → Int32 → (Nat → Nat → Int32) → Prop} {post : Int32 → (Nat → Nat → Int32) → Prop} (hR : zRi G Z rmX4_lastCycle 3 (zTC true) ad ln cX4_lastCycle .int post) (hK4 : ∀ x1 x2 : Int32, ∀ al, K4 x1 x2 al → zB G Z rmX4_lastCycle 3 (zTC true) ad ln 0 0 4 [(0, .ref (ad 173)), (1, .int x1), (2, .int x2)] [] al) (x1 x2 : Int32) (al : Nat → Nat → Int32) (h : vcX4_lastCycle_4 G  ad ln K4 post x1 x2 al) : zB G Z rmX4_lastCycle 3 (zTC true) ad ln 0 0 4 [(0, .ref (ad 173)), (1, .int x1), (2, .int x2)] [] al := by
  unfold vcX4_lastCycle_4 at h
  refine zb_iload_n X dX4_lastCycle_4 rfl 2 rfl ?_
  refine zb_aload_n X dX4_lastCycle_5 rfl 0 rfl ?_
  refine zb_getR X 173 (zTC_ltR (by decide)) 4 [6, 20, 24, 4, 5, 176, 177, 178, 179, 0] rfl (C := RX4) (Tt := TX4) (N := 10) rfl kX4_lastCycle_1 0 (by decide) 4 rfl kX4_lastCycle_0 rfl dX4_lastCycle_6 ?_
  refine zb_getI X 4 (zTC_lt (by decide)) 0 [7, 0, 8] rfl (C := RX0) (Tt := TX0) (N := 3) rfl kX4_lastCycle_3 1 (by decide) rfl kX4_lastCycle_2 rfl dX4_lastCycle_9 (al 4 1) rfl ?_
  refine zb_icmp_ge X 53 dX4_lastCycle_12 (by decide) (fun c1 => ?_) (fun c1 => ?_)
  · have h := h.1 c1
    refine zb_iload_n X dX4_lastCycle_53 rfl 1 rfl ?_
    refine zb_aload_n X dX4_lastCycle_54 rfl 0 rfl ?_
    refine zb_getR X 173 (zTC_ltR (by decide)) 4 [6, 20, 24, 4, 5, 176, 177, 178, 179, 0] rfl (C := RX4) (Tt := TX4) (N := 10) rfl kX4_lastCycle_1 3 (by decide) 2 rfl kX4_lastCycle_4 rfl dX4_lastCycle_55 ?_
    refine zb_bipush X (8 : Int32) dX4_lastCycle_58 (by decide) ?_
    obtain ⟨hz, h⟩ := h
    refine zb_iald X 2 (zTC_lt (by decide)) 1 9 0 0 rfl (Or.inl rfl) 8 rfl hz dX4_lastCycle_60 (al 2 8) rfl ?_
    refine zb_iconst X (1 : Int32) dX4_lastCycle_61 (by decide) ?_
    refine zb_isub X dX4_lastCycle_62 ?_
    refine zb_aload_n X dX4_lastCycle_63 rfl 0 rfl ?_
    refine zb_getI X 173 (zTC_ltR (by decide)) 4 [6, 20, 24, 4, 5, 176, 177, 178, 179, 0] rfl (C := RX4) (Tt := TX4) (N := 10) rfl kX4_lastCycle_1 9 (by decide) rfl kX4_lastCycle_5 rfl dX4_lastCycle_64 (al 173 9) rfl ?_
    refine zb_imul X dX4_lastCycle_67 ?_
    refine zb_iadd X dX4_lastCycle_68 ?_
    exact hR 69 _ _ _ dX4_lastCycle_69 rfl h
  · have h := h.2 c1
    refine zb_iload_n X dX4_lastCycle_15 rfl 1 rfl ?_
    refine zb_aload_n X dX4_lastCycle_16 rfl 0 rfl ?_
    refine zb_getR X 173 (zTC_ltR (by decide)) 4 [6, 20, 24, 4, 5, 176, 177, 178, 179, 0] rfl (C := RX4) (Tt := TX4) (N := 10) rfl kX4_lastCycle_1 1 (by decide) 18 rfl kX4_lastCycle_6 rfl dX4_lastCycle_17 ?_
    refine zb_getR X 18 (zTC_lt (by decide)) 7 [6, 14, 4, 21, 22, 23, 0, 0, 0] rfl (C := RX7) (Tt := TX7) (N := 9) rfl kX4_lastCycle_8 3 (by decide) 19 rfl kX4_lastCycle_7 rfl dX4_lastCycle_20 ?_
    refine zb_iload_n X dX4_lastCycle_23 rfl 2 rfl ?_
    obtain ⟨hz, h⟩ := h
    refine zb_iald X 19 (zTC_lt (by decide)) 1 48 0 0 rfl (Or.inl rfl) x2.toNatClampNeg rfl hz dX4_lastCycle_24 (al 19 x2.toNatClampNeg) rfl ?_
    refine zb_aload_n X dX4_lastCycle_25 rfl 0 rfl ?_
    refine zb_getR X 173 (zTC_ltR (by decide)) 4 [6, 20, 24, 4, 5, 176, 177, 178, 179, 0] rfl (C := RX4) (Tt := TX4) (N := 10) rfl kX4_lastCycle_1 3 (by decide) 2 rfl kX4_lastCycle_4 rfl dX4_lastCycle_26 ?_
    refine zb_aload_n X dX4_lastCycle_29 rfl 0 rfl ?_
    refine zb_getR X 173 (zTC_ltR (by decide)) 4 [6, 20, 24, 4, 5, 176, 177, 178, 179, 0] rfl (C := RX4) (Tt := TX4) (N := 10) rfl kX4_lastCycle_1 0 (by decide) 4 rfl kX4_lastCycle_0 rfl dX4_lastCycle_30 ?_
    refine zb_getR X 4 (zTC_lt (by decide)) 0 [7, 0, 8] rfl (C := RX0) (Tt := TX0) (N := 3) rfl kX4_lastCycle_3 0 (by decide) 5 rfl kX4_lastCycle_9 rfl dX4_lastCycle_33 ?_
    refine zb_iload_n X dX4_lastCycle_36 rfl 2 rfl ?_
    obtain ⟨hq2, h⟩ := h
    refine zb_rald X 5 (zTC_lt (by decide)) 48 29 3 rfl hq2 dX4_lastCycle_37 ?_
    refine zb_getI X (29 + 3 * x2.toNatClampNeg) (zTC_lt (zrow_lt (zvp_lt hq2))) 3 [0, 0, 0, 0, 0, 0, 0, (30 + 3 * x2.toNatClampNeg) + 2, (31 + 3 * x2.toNatClampNeg) + 2] (zTC_row true (zvp_lt hq2)) (C := RX3) (Tt := TX3) (N := 9) rfl kX4_lastCycle_11 0 (by decide) rfl kX4_lastCycle_10 rfl dX4_lastCycle_38 (al (29 + 3 * x2.toNatClampNeg) 0) rfl ?_
    obtain ⟨hz, h⟩ := h
    refine zb_iald X 2 (zTC_lt (by decide)) 1 9 0 0 rfl (Or.inl rfl) ((al (29 + 3 * x2.toNatClampNeg) 0).toNatClampNeg) rfl hz dX4_lastCycle_41 (al 2 ((al (29 + 3 * x2.toNatClampNeg) 0).toNatClampNeg)) rfl ?_
    refine zb_iadd X dX4_lastCycle_42 ?_
    refine zb_mmax X kX4_lastCycle_12 kX4_lastCycle_13 kX4_lastCycle_14 kX4_lastCycle_15 ⟨⟨Nat.le_of_ble_eq_true rfl, Nat.le_of_ble_eq_true rfl⟩, Nat.le_of_ble_eq_true rfl, Nat.le_of_ble_eq_true rfl⟩ dX4_lastCycle_43 ?_
    refine zb_istore_n X (lv' := [(1, .int (if x1 < ((al 19 x2.toNatClampNeg) + (al 2 ((al (29 + 3 * x2.toNatClampNeg) 0).toNatClampNeg))) then ((al 19 x2.toNatClampNeg) + (al 2 ((al (29 + 3 * x2.toNatClampNeg) 0).toNatClampNeg))) else x1)), (0, .ref (ad 173)), (2, .int x2)]) dX4_lastCycle_46 rfl (by decide) rfl ?_
    refine zb_iinc X (lv' := [(2, .int (x2 + (1 : Int32))), (1, .int (if x1 < ((al 19 x2.toNatClampNeg) + (al 2 ((al (29 + 3 * x2.toNatClampNeg) 0).toNatClampNeg))) then ((al 19 x2.toNatClampNeg) + (al 2 ((al (29 + 3 * x2.toNatClampNeg) 0).toNatClampNeg))) else x1)), (0, .ref (ad 173))]) (x2 + (1 : Int32)) dX4_lastCycle_47 2 rfl rfl (by decide) rfl ?_
    refine zb_goto X 4 dX4_lastCycle_50 (by decide) ?_
    refine zb_sub [2, 1, 0] rfl ?_
    exact hK4 (if x1 < ((al 19 x2.toNatClampNeg) + (al 2 ((al (29 + 3 * x2.toNatClampNeg) 0).toNatClampNeg))) then ((al 19 x2.toNatClampNeg) + (al 2 ((al (29 + 3 * x2.toNatClampNeg) 0).toNatClampNeg))) else x1) (x2 + (1 : Int32)) al h
theorem uX4_lastCycle_0 {G : zG} {Z : zC}  {ad ln : Nat → Nat} (X : zX G Z cX4_lastCycle 3 RX4 wsX4_lastCycle) {post : Int32 → (Nat → Nat → Int32) → Prop} (hR : zRi G Z rmX4_lastCycle 3 (zTC true) ad ln cX4_lastCycle .int post) (al : Nat → Nat → Int32) (h : vcX4_lastCycle_0 G  ad ln (BX4_lastCycle_4 G Z  ad ln) post  al) : zB G Z rmX4_lastCycle 3 (zTC true) ad ln 0 0 0 [(0, .ref (ad 173))] [] al := tX4_lastCycle_0 X hR (fun _ _ _ h => h)  al h
theorem uX4_lastCycle_4 {G : zG} {Z : zC}  {ad ln : Nat → Nat} (X : zX G Z cX4_lastCycle 3 RX4 wsX4_lastCycle) {post : Int32 → (Nat → Nat → Int32) → Prop} (hR : zRi G Z rmX4_lastCycle 3 (zTC true) ad ln cX4_lastCycle .int post) (x1 x2 : Int32) (al : Nat → Nat → Int32) (h : vcX4_lastCycle_4 G  ad ln (BX4_lastCycle_4 G Z  ad ln) post x1 x2 al) : zB G Z rmX4_lastCycle 3 (zTC true) ad ln 0 0 4 [(0, .ref (ad 173)), (1, .int x1), (2, .int x2)] [] al := tX4_lastCycle_4 X hR (fun _ _ _ h => h) x1 x2 al h

abbrev rmX4_roundAt : Room := { frames := 2, cells := 0, slots := 0, locals := 43 }
theorem kX4_roundAt_0 : Cond.fieldLink RX4 65 RX4 "distance" "I" ∈ wsX4_roundAt := by decide +kernel
theorem kX4_roundAt_1 : zIn RX4 TX4 10 wsX4_roundAt := by decide +kernel
theorem kX4_roundAt_2 : Cond.initialized RX9 ∈ wsX4_roundAt := by decide +kernel
theorem kX4_roundAt_3 : Cond.static yX9_quotient ∈ wsX4_roundAt := by decide +kernel
theorem kX4_roundAt_4 : Cond.fieldLink RX4 36 RX4 "settings" "[I" ∈ wsX4_roundAt := by decide +kernel
def vcX4_roundAt_51 (G : zG)  (ad ln : Nat → Nat) (p1 : Int32) (p2 : Int32)  (post : Int32 → (Nat → Nat → Int32) → Prop) (s0 : Int32) (al : Nat → Nat → Int32) : Prop :=
  post s0 al
def vcX4_roundAt_50 (G : zG)  (ad ln : Nat → Nat) (p1 : Int32) (p2 : Int32)  (post : Int32 → (Nat → Nat → Int32) → Prop) (al : Nat → Nat → Int32) : Prop :=
  vcX4_roundAt_51 G  ad ln p1 p2  post (-1 : Int32) al
def vcX4_roundAt_20 (G : zG)  (ad ln : Nat → Nat) (p1 : Int32) (p2 : Int32)  (post : Int32 → (Nat → Nat → Int32) → Prop) (x3 s0 : Int32) (al : Nat → Nat → Int32) : Prop :=
  (vp_in (8 : Int32) 9 ∧ ((al 2 8) ≤ s0 → vcX4_roundAt_50 G  ad ln p1 p2  post  al) ∧ (¬ (al 2 8) ≤ s0 → (¬ (s0 * (al 173 9)) = x3 → vcX4_roundAt_50 G  ad ln p1 p2  post  al) ∧ ((s0 * (al 173 9)) = x3 → vcX4_roundAt_51 G  ad ln p1 p2  post s0 al)))
def vcX4_roundAt_0 (G : zG)  (ad ln : Nat → Nat) (p1 : Int32) (p2 : Int32)  (post : Int32 → (Nat → Nat → Int32) → Prop) (al : Nat → Nat → Int32) : Prop :=
  (0 ≤ (p1 - p2) → zMi G yX9_quotient wsX9_quotient rmX9_quotient (zTC true) ad ln [.int (p1 - p2), .int (al 173 9)] al (fun q2 a2 => vcX4_roundAt_20 G  ad ln p1 p2  post (p1 - p2) q2 a2)) ∧ (¬ 0 ≤ (p1 - p2) → vcX4_roundAt_20 G  ad ln p1 p2  post (p1 - p2) (-1 : Int32) al)
set_option maxRecDepth 20000 in
theorem tX4_roundAt_51 {G : zG} {Z : zC}  {ad ln : Nat → Nat} (X : zX G Z cX4_roundAt 5 RX4 wsX4_roundAt) (p1 : Int32) (p2 : Int32)  {post : Int32 → (Nat → Nat → Int32) → Prop} (hR : zRi G Z rmX4_roundAt 5 (zTC true) ad ln cX4_roundAt .int post)  (s0 : Int32) (al : Nat → Nat → Int32) (h : vcX4_roundAt_51 G  ad ln p1 p2  post s0 al) : zB G Z rmX4_roundAt 5 (zTC true) ad ln 0 0 51 [] [.int s0] al := by
  unfold vcX4_roundAt_51 at h
  exact hR 51 _ _ _ dX4_roundAt_51 rfl h
set_option maxRecDepth 20000 in
theorem tX4_roundAt_50 {G : zG} {Z : zC}  {ad ln : Nat → Nat} (X : zX G Z cX4_roundAt 5 RX4 wsX4_roundAt) (p1 : Int32) (p2 : Int32)  {post : Int32 → (Nat → Nat → Int32) → Prop} (hR : zRi G Z rmX4_roundAt 5 (zTC true) ad ln cX4_roundAt .int post)  (al : Nat → Nat → Int32) (h : vcX4_roundAt_50 G  ad ln p1 p2  post  al) : zB G Z rmX4_roundAt 5 (zTC true) ad ln 0 0 50 [] [] al := by
  unfold vcX4_roundAt_50 at h
  refine zb_iconst X (-1 : Int32) dX4_roundAt_50 (by decide) ?_
  refine zb_sub [] rfl ?_
  exact tX4_roundAt_51 X p1 p2 hR  (-1 : Int32) al h
set_option maxRecDepth 20000 in
theorem tX4_roundAt_20 {G : zG} {Z : zC}  {ad ln : Nat → Nat} (X : zX G Z cX4_roundAt 5 RX4 wsX4_roundAt) (p1 : Int32) (p2 : Int32)  {post : Int32 → (Nat → Nat → Int32) → Prop} (hR : zRi G Z rmX4_roundAt 5 (zTC true) ad ln cX4_roundAt .int post)  (x3 s0 : Int32) (al : Nat → Nat → Int32) (h : vcX4_roundAt_20 G  ad ln p1 p2  post x3 s0 al) : zB G Z rmX4_roundAt 5 (zTC true) ad ln 0 0 20 [(0, .ref (ad 173)), (3, .int x3)] [.int s0] al := by
  unfold vcX4_roundAt_20 at h
  refine zb_istore X (lv' := [(4, .int s0), (0, .ref (ad 173)), (3, .int x3)]) dX4_roundAt_20 (by decide) rfl ?_
  refine zb_iload X dX4_roundAt_22 0 rfl ?_
  refine zb_aload_n X dX4_roundAt_24 rfl 1 rfl ?_
  refine zb_getR X 173 (zTC_ltR (by decide)) 4 [6, 20, 24, 4, 5, 176, 177, 178, 179, 0] rfl (C := RX4) (Tt := TX4) (N := 10) rfl kX4_roundAt_1 3 (by decide) 2 rfl kX4_roundAt_4 rfl dX4_roundAt_25 ?_
  refine zb_bipush X (8 : Int32) dX4_roundAt_28 (by decide) ?_
  obtain ⟨hz, h⟩ := h
  refine zb_iald X 2 (zTC_lt (by decide)) 1 9 0 0 rfl (Or.inl rfl) 8 rfl hz dX4_roundAt_30 (al 2 8) rfl ?_
  refine zb_icmp_ge X 50 dX4_roundAt_31 (by decide) (fun c1 => ?_) (fun c1 => ?_)
  · have h := h.1 c1
    refine zb_sub [] rfl ?_
    exact tX4_roundAt_50 X p1 p2 hR   al h
  · have h := h.2 c1
    refine zb_iload X dX4_roundAt_34 0 rfl ?_
    refine zb_aload_n X dX4_roundAt_36 rfl 1 rfl ?_
    refine zb_getI X 173 (zTC_ltR (by decide)) 4 [6, 20, 24, 4, 5, 176, 177, 178, 179, 0] rfl (C := RX4) (Tt := TX4) (N := 10) rfl kX4_roundAt_1 9 (by decide) rfl kX4_roundAt_0 rfl dX4_roundAt_37 (al 173 9) rfl ?_
    refine zb_imul X dX4_roundAt_40 ?_
    refine zb_iload_n X dX4_roundAt_41 rfl 2 rfl ?_
    refine zb_icmp_ne X 50 dX4_roundAt_42 (by decide) (fun c2 => ?_) (fun c2 => ?_)
    · have h := h.1 c2
      refine zb_sub [] rfl ?_
      exact tX4_roundAt_50 X p1 p2 hR   al h
    · have h := h.2 c2
      refine zb_iload X dX4_roundAt_45 0 rfl ?_
      refine zb_goto X 51 dX4_roundAt_47 (by decide) ?_
      refine zb_sub [] rfl ?_
      exact tX4_roundAt_51 X p1 p2 hR  s0 al h
set_option maxRecDepth 20000 in
theorem tX4_roundAt_0 {G : zG} {Z : zC}  {ad ln : Nat → Nat} (X : zX G Z cX4_roundAt 5 RX4 wsX4_roundAt) (p1 : Int32) (p2 : Int32)  {post : Int32 → (Nat → Nat → Int32) → Prop} (hR : zRi G Z rmX4_roundAt 5 (zTC true) ad ln cX4_roundAt .int post)  (al : Nat → Nat → Int32) (h : vcX4_roundAt_0 G  ad ln p1 p2  post  al) : zB G Z rmX4_roundAt 5 (zTC true) ad ln 0 0 0 [(0, .ref (ad 173)), (1, .int p1), (2, .int p2)] [] al := by
  unfold vcX4_roundAt_0 at h
  refine zb_iload_n X dX4_roundAt_0 rfl 1 rfl ?_
  refine zb_iload_n X dX4_roundAt_1 rfl 2 rfl ?_
  refine zb_isub X dX4_roundAt_2 ?_
  refine zb_istore_n X (lv' := [(3, .int (p1 - p2)), (0, .ref (ad 173)), (1, .int p1), (2, .int p2)]) dX4_roundAt_3 rfl (by decide) rfl ?_
  refine zb_iload_n X dX4_roundAt_4 rfl 0 rfl ?_
  refine zb_if_ge X 12 dX4_roundAt_5 (by decide) (fun c1 => ?_) (fun c1 => ?_)
  · have h := h.1 c1
    refine zb_iload_n X dX4_roundAt_12 rfl 0 rfl ?_
    refine zb_aload_n X dX4_roundAt_13 rfl 1 rfl ?_
    refine zb_getI X 173 (zTC_ltR (by decide)) 4 [6, 20, 24, 4, 5, 176, 177, 178, 179, 0] rfl (C := RX4) (Tt := TX4) (N := 10) rfl kX4_roundAt_1 9 (by decide) rfl kX4_roundAt_0 rfl dX4_roundAt_14 (al 173 9) rfl ?_
    refine zb_callNi (n := 2) X h gX4_roundAt_X9_quotient_n137 (by decide +kernel) kX4_roundAt_2 kX4_roundAt_3 rfl (by decide +kernel) (by decide) rfl rfl (Nat.le_of_ble_eq_true rfl) dX4_roundAt_17 (kc' := 0) (ks' := 0) rfl rfl (fun q2 a2 h => ?_)
    refine zb_sub [1, 0] rfl ?_
    exact tX4_roundAt_20 X p1 p2 hR  (p1 - p2) q2 a2 h
  · have h := h.2 c1
    refine zb_iconst X (-1 : Int32) dX4_roundAt_8 (by decide) ?_
    refine zb_goto X 20 dX4_roundAt_9 (by decide) ?_
    refine zb_sub [1, 0] rfl ?_
    exact tX4_roundAt_20 X p1 p2 hR  (p1 - p2) (-1 : Int32) al h

abbrev rmX4_bringValues : Room := { frames := 3, cells := 0, slots := 0, locals := 67 }
theorem kX4_bringValues_0 : Cond.fieldLink RX4 24 RX4 "loop" "LLoopForge$Loop;" ∈ wsX4_bringValues := by decide +kernel
theorem kX4_bringValues_1 : zIn RX4 TX4 10 wsX4_bringValues := by decide +kernel
theorem kX4_bringValues_2 : Cond.fieldLink RX4 51 RX0 "size" "I" ∈ wsX4_bringValues := by decide +kernel
theorem kX4_bringValues_3 : zIn RX0 TX0 3 wsX4_bringValues := by decide +kernel
theorem kX4_bringValues_4 : Cond.fieldLink RX4 32 RX4 "spans" "LLoopForge$Spans;" ∈ wsX4_bringValues := by decide +kernel
theorem kX4_bringValues_5 : Cond.fieldLink RX4 140 RX6 "begin" "[I" ∈ wsX4_bringValues := by decide +kernel
theorem kX4_bringValues_6 : zIn RX6 TX6 13 wsX4_bringValues := by decide +kernel
theorem kX4_bringValues_7 : Cond.fieldLink RX4 21 RX4 "places" "[I" ∈ wsX4_bringValues := by decide +kernel
theorem kX4_bringValues_8 : Cond.fieldLink RX4 148 RX6 "offset" "[I" ∈ wsX4_bringValues := by decide +kernel
theorem kX4_bringValues_9 : Cond.fieldLink RX4 151 RX6 "size" "I" ∈ wsX4_bringValues := by decide +kernel
theorem kX4_bringValues_10 : Cond.initialized RX9 ∈ wsX4_bringValues := by decide +kernel
theorem kX4_bringValues_11 : Cond.static yX9_rest ∈ wsX4_bringValues := by decide +kernel
theorem kX4_bringValues_12 : Cond.fieldLink RX4 18 RX4 "given" "[I" ∈ wsX4_bringValues := by decide +kernel
abbrev BX4_bringValues_2 (G : zG) (Z : zC)  (ad ln : Nat → Nat) (p1 : Int32) (x2 : Int32) (al : Nat → Nat → Int32) : Prop := zB G Z rmX4_bringValues 4 (zTC true) ad ln 0 0 2 [(0, .ref (ad 173)), (1, .int p1), (2, .int x2)] [] al
def vcX4_bringValues_0 (G : zG)  (ad ln : Nat → Nat) (p1 : Int32) (K2 : Int32 → (Nat → Nat → Int32) → Prop) (post : (Nat → Nat → Int32) → Prop) (al : Nat → Nat → Int32) : Prop :=
  K2 (0 : Int32) al
def vcX4_bringValues_81 (G : zG)  (ad ln : Nat → Nat) (p1 : Int32) (K2 : Int32 → (Nat → Nat → Int32) → Prop) (post : (Nat → Nat → Int32) → Prop) (x2 : Int32) (al : Nat → Nat → Int32) : Prop :=
  K2 (x2 + (1 : Int32)) al
def vcX4_bringValues_2 (G : zG)  (ad ln : Nat → Nat) (p1 : Int32) (K2 : Int32 → (Nat → Nat → Int32) → Prop) (post : (Nat → Nat → Int32) → Prop) (x2 : Int32) (al : Nat → Nat → Int32) : Prop :=
  ((al 4 1) ≤ x2 → post al) ∧ (¬ (al 4 1) ≤ x2 → (vp_in x2 48 ∧ ((al 23 x2.toNatClampNeg) < 0 → vcX4_bringValues_81 G  ad ln p1 K2 post x2 al) ∧ (¬ (al 23 x2.toNatClampNeg) < 0 → (vp_in x2 48 ∧ zMi G yX4_roundAt wsX4_roundAt rmX4_roundAt (zTC true) ad ln [.ref (ad 173), .int p1, .int (al 23 x2.toNatClampNeg)] al (fun q3 a3 => (q3 < 0 → vcX4_bringValues_81 G  ad ln p1 K2 post x2 a3) ∧ (¬ q3 < 0 → (vp_in x2 48 ∧ zMi G yX9_rest wsX9_rest rmX9_rest (zTC true) ad ln [.int ((a3 25 x2.toNatClampNeg) - q3), .int (a3 22 12)] a3 (fun q5 a5 => (vp_in ((x2 * (64 : Int32)) + q3) 3072 ∧ vp_in q5 128 ∧ vcX4_bringValues_81 G  ad ln p1 K2 post x2 (up2 a5 177 q5.toNatClampNeg (a5 176 (((x2 * (64 : Int32)) + q3).toNatClampNeg))))))))))))
set_option maxRecDepth 20000 in
theorem tX4_bringValues_0 {G : zG} {Z : zC}  {ad ln : Nat → Nat} (X : zX G Z cX4_bringValues 4 RX4 wsX4_bringValues) (p1 : Int32) {K2 : Int32 → (Nat → Nat → Int32) → Prop} {post : (Nat → Nat → Int32) → Prop} (hR : zRv G Z rmX4_bringValues 4 (zTC true) ad ln cX4_bringValues post) (hK2 : ∀ x2 : Int32, ∀ al, K2 x2 al → zB G Z rmX4_bringValues 4 (zTC true) ad ln 0 0 2 [(0, .ref (ad 173)), (1, .int p1), (2, .int x2)] [] al) (al : Nat → Nat → Int32) (h : vcX4_bringValues_0 G  ad ln p1 K2 post  al) : zB G Z rmX4_bringValues 4 (zTC true) ad ln 0 0 0 [(0, .ref (ad 173)), (1, .int p1)] [] al := by
  unfold vcX4_bringValues_0 at h
  refine zb_iconst X (0 : Int32) dX4_bringValues_0 (by decide) ?_
  refine zb_istore_n X (lv' := [(2, .int (0 : Int32)), (0, .ref (ad 173)), (1, .int p1)]) dX4_bringValues_1 rfl (by decide) rfl ?_
  refine zb_sub [1, 2, 0] rfl ?_
  exact hK2 (0 : Int32) al h
set_option maxRecDepth 20000 in
theorem tX4_bringValues_81 {G : zG} {Z : zC}  {ad ln : Nat → Nat} (X : zX G Z cX4_bringValues 4 RX4 wsX4_bringValues) (p1 : Int32) {K2 : Int32 → (Nat → Nat → Int32) → Prop} {post : (Nat → Nat → Int32) → Prop} (hR : zRv G Z rmX4_bringValues 4 (zTC true) ad ln cX4_bringValues post) (hK2 : ∀ x2 : Int32, ∀ al, K2 x2 al → zB G Z rmX4_bringValues 4 (zTC true) ad ln 0 0 2 [(0, .ref (ad 173)), (1, .int p1), (2, .int x2)] [] al) (x2 : Int32) (al : Nat → Nat → Int32) (h : vcX4_bringValues_81 G  ad ln p1 K2 post x2 al) : zB G Z rmX4_bringValues 4 (zTC true) ad ln 0 0 81 [(0, .ref (ad 173)), (1, .int p1), (2, .int x2)] [] al := by
  unfold vcX4_bringValues_81 at h
  refine zb_iinc X (lv' := [(2, .int (x2 + (1 : Int32))), (0, .ref (ad 173)), (1, .int p1)]) (x2 + (1 : Int32)) dX4_bringValues_81 2 rfl rfl (by decide) rfl ?_
  refine zb_goto X 2 dX4_bringValues_84 (by decide) ?_
  refine zb_sub [1, 2, 0] rfl ?_
  exact hK2 (x2 + (1 : Int32)) al h
set_option maxRecDepth 20000 in
theorem tX4_bringValues_2 {G : zG} {Z : zC}  {ad ln : Nat → Nat} (X : zX G Z cX4_bringValues 4 RX4 wsX4_bringValues) (p1 : Int32) {K2 : Int32 → (Nat → Nat → Int32) → Prop} {post : (Nat → Nat → Int32) → Prop} (hR : zRv G Z rmX4_bringValues 4 (zTC true) ad ln cX4_bringValues post) (hK2 : ∀ x2 : Int32, ∀ al, K2 x2 al → zB G Z rmX4_bringValues 4 (zTC true) ad ln 0 0 2 [(0, .ref (ad 173)), (1, .int p1), (2, .int x2)] [] al) (x2 : Int32) (al : Nat → Nat → Int32) (h : vcX4_bringValues_2 G  ad ln p1 K2 post x2 al) : zB G Z rmX4_bringValues 4 (zTC true) ad ln 0 0 2 [(0, .ref (ad 173)), (1, .int p1), (2, .int x2)] [] al := by
  unfold vcX4_bringValues_2 at h
  refine zb_iload_n X dX4_bringValues_2 rfl 2 rfl ?_
  refine zb_aload_n X dX4_bringValues_3 rfl 0 rfl ?_
  refine zb_getR X 173 (zTC_ltR (by decide)) 4 [6, 20, 24, 4, 5, 176, 177, 178, 179, 0] rfl (C := RX4) (Tt := TX4) (N := 10) rfl kX4_bringValues_1 0 (by decide) 4 rfl kX4_bringValues_0 rfl dX4_bringValues_4 ?_
  refine zb_getI X 4 (zTC_lt (by decide)) 0 [7, 0, 8] rfl (C := RX0) (Tt := TX0) (N := 3) rfl kX4_bringValues_3 1 (by decide) rfl kX4_bringValues_2 rfl dX4_bringValues_7 (al 4 1) rfl ?_
  refine zb_icmp_ge X 87 dX4_bringValues_10 (by decide) (fun c1 => ?_) (fun c1 => ?_)
  · have h := h.1 c1
    exact hR 87 _ _ dX4_bringValues_87 h
  · have h := h.2 c1
    refine zb_aload_n X dX4_bringValues_13 rfl 0 rfl ?_
    refine zb_getR X 173 (zTC_ltR (by decide)) 4 [6, 20, 24, 4, 5, 176, 177, 178, 179, 0] rfl (C := RX4) (Tt := TX4) (N := 10) rfl kX4_bringValues_1 2 (by decide) 22 rfl kX4_bringValues_4 rfl dX4_bringValues_14 ?_
    refine zb_getR X 22 (zTC_lt (by decide)) 6 [6, 20, 4, 25, 26, 27, 28, 29, 30, 0, 0, 0, 0] rfl (C := RX6) (Tt := TX6) (N := 13) rfl kX4_bringValues_6 3 (by decide) 23 rfl kX4_bringValues_5 rfl dX4_bringValues_17 ?_
    refine zb_iload_n X dX4_bringValues_20 rfl 2 rfl ?_
    obtain ⟨hz, h⟩ := h
    refine zb_iald X 23 (zTC_lt (by decide)) 1 48 0 0 rfl (Or.inl rfl) x2.toNatClampNeg rfl hz dX4_bringValues_21 (al 23 x2.toNatClampNeg) rfl ?_
    refine zb_if_lt X 81 dX4_bringValues_22 (by decide) (fun c2 => ?_) (fun c2 => ?_)
    · have h := h.1 c2
      refine zb_sub [0, 1, 2] rfl ?_
      exact tX4_bringValues_81 X p1 hR hK2 x2 al h
    · have h := h.2 c2
      refine zb_aload_n X dX4_bringValues_25 rfl 0 rfl ?_
      refine zb_iload_n X dX4_bringValues_26 rfl 1 rfl ?_
      refine zb_aload_n X dX4_bringValues_27 rfl 0 rfl ?_
      refine zb_getR X 173 (zTC_ltR (by decide)) 4 [6, 20, 24, 4, 5, 176, 177, 178, 179, 0] rfl (C := RX4) (Tt := TX4) (N := 10) rfl kX4_bringValues_1 2 (by decide) 22 rfl kX4_bringValues_4 rfl dX4_bringValues_28 ?_
      refine zb_getR X 22 (zTC_lt (by decide)) 6 [6, 20, 4, 25, 26, 27, 28, 29, 30, 0, 0, 0, 0] rfl (C := RX6) (Tt := TX6) (N := 13) rfl kX4_bringValues_6 3 (by decide) 23 rfl kX4_bringValues_5 rfl dX4_bringValues_31 ?_
      refine zb_iload_n X dX4_bringValues_34 rfl 2 rfl ?_
      obtain ⟨hz, h⟩ := h
      refine zb_iald X 23 (zTC_lt (by decide)) 1 48 0 0 rfl (Or.inl rfl) x2.toNatClampNeg rfl hz dX4_bringValues_35 (al 23 x2.toNatClampNeg) rfl ?_
      refine zb_callVi (n := 2) X 173 (zTC_ltR (by decide)) 4 [6, 20, 24, 4, 5, 176, 177, 178, 179, 0] rfl (C := RX4) (Tt := TX4) (N := 10) rfl h gX4_bringValues_X4_roundAt rfl (by decide +kernel) (by decide) rfl rfl (Nat.le_of_ble_eq_true rfl) dX4_bringValues_36 (kc' := 0) (ks' := 0) rfl rfl (fun q3 a3 h => ?_)
      refine zb_istore_n X (lv' := [(3, .int q3), (0, .ref (ad 173)), (1, .int p1), (2, .int x2)]) dX4_bringValues_39 rfl (by decide) rfl ?_
      refine zb_iload_n X dX4_bringValues_40 rfl 0 rfl ?_
      refine zb_if_lt X 81 dX4_bringValues_41 (by decide) (fun c4 => ?_) (fun c4 => ?_)
      · have h := h.1 c4
        refine zb_sub [1, 2, 3] rfl ?_
        exact tX4_bringValues_81 X p1 hR hK2 x2 a3 h
      · have h := h.2 c4
        refine zb_aload_n X dX4_bringValues_44 rfl 1 rfl ?_
        refine zb_getR X 173 (zTC_ltR (by decide)) 4 [6, 20, 24, 4, 5, 176, 177, 178, 179, 0] rfl (C := RX4) (Tt := TX4) (N := 10) rfl kX4_bringValues_1 8 (by decide) 177 rfl kX4_bringValues_7 rfl dX4_bringValues_45 ?_
        refine zb_aload_n X dX4_bringValues_48 rfl 1 rfl ?_
        refine zb_getR X 173 (zTC_ltR (by decide)) 4 [6, 20, 24, 4, 5, 176, 177, 178, 179, 0] rfl (C := RX4) (Tt := TX4) (N := 10) rfl kX4_bringValues_1 2 (by decide) 22 rfl kX4_bringValues_4 rfl dX4_bringValues_49 ?_
        refine zb_getR X 22 (zTC_lt (by decide)) 6 [6, 20, 4, 25, 26, 27, 28, 29, 30, 0, 0, 0, 0] rfl (C := RX6) (Tt := TX6) (N := 13) rfl kX4_bringValues_6 5 (by decide) 25 rfl kX4_bringValues_8 rfl dX4_bringValues_52 ?_
        refine zb_iload_n X dX4_bringValues_55 rfl 3 rfl ?_
        obtain ⟨hz, h⟩ := h
        refine zb_iald X 25 (zTC_lt (by decide)) 1 48 0 0 rfl (Or.inl rfl) x2.toNatClampNeg rfl hz dX4_bringValues_56 (a3 25 x2.toNatClampNeg) rfl ?_
        refine zb_iload_n X dX4_bringValues_57 rfl 0 rfl ?_
        refine zb_isub X dX4_bringValues_58 ?_
        refine zb_aload_n X dX4_bringValues_59 rfl 1 rfl ?_
        refine zb_getR X 173 (zTC_ltR (by decide)) 4 [6, 20, 24, 4, 5, 176, 177, 178, 179, 0] rfl (C := RX4) (Tt := TX4) (N := 10) rfl kX4_bringValues_1 2 (by decide) 22 rfl kX4_bringValues_4 rfl dX4_bringValues_60 ?_
        refine zb_getI X 22 (zTC_lt (by decide)) 6 [6, 20, 4, 25, 26, 27, 28, 29, 30, 0, 0, 0, 0] rfl (C := RX6) (Tt := TX6) (N := 13) rfl kX4_bringValues_6 12 (by decide) rfl kX4_bringValues_9 rfl dX4_bringValues_63 (a3 22 12) rfl ?_
        refine zb_callNi (n := 2) X h gX4_bringValues_X9_rest_n152 (by decide +kernel) kX4_bringValues_10 kX4_bringValues_11 rfl (by decide +kernel) (by decide) rfl rfl (Nat.le_of_ble_eq_true rfl) dX4_bringValues_66 (kc' := 0) (ks' := 0) rfl rfl (fun q5 a5 h => ?_)
        refine zb_aload_n X dX4_bringValues_69 rfl 1 rfl ?_
        refine zb_getR X 173 (zTC_ltR (by decide)) 4 [6, 20, 24, 4, 5, 176, 177, 178, 179, 0] rfl (C := RX4) (Tt := TX4) (N := 10) rfl kX4_bringValues_1 7 (by decide) 176 rfl kX4_bringValues_12 rfl dX4_bringValues_70 ?_
        refine zb_iload_n X dX4_bringValues_73 rfl 3 rfl ?_
        refine zb_bipush X (64 : Int32) dX4_bringValues_74 (by decide) ?_
        refine zb_imul X dX4_bringValues_76 ?_
        refine zb_iload_n X dX4_bringValues_77 rfl 0 rfl ?_
        refine zb_iadd X dX4_bringValues_78 ?_
        obtain ⟨hz, h⟩ := h
        refine zb_iald X 176 (zTC_ltR (by decide)) 1 3072 0 0 rfl (Or.inl rfl) (((x2 * (64 : Int32)) + q3).toNatClampNeg) rfl hz dX4_bringValues_79 (a5 176 (((x2 * (64 : Int32)) + q3).toNatClampNeg)) rfl ?_
        obtain ⟨hz, h⟩ := h
        refine zb_iast X 177 (zTC_ltR (by decide)) 1 128 0 0 rfl (Or.inl rfl) q5.toNatClampNeg rfl hz dX4_bringValues_80 ?_
        refine zb_sub [1, 2, 3] rfl ?_
        exact tX4_bringValues_81 X p1 hR hK2 x2 (up2 a5 177 q5.toNatClampNeg (a5 176 (((x2 * (64 : Int32)) + q3).toNatClampNeg))) h
theorem uX4_bringValues_0 {G : zG} {Z : zC}  {ad ln : Nat → Nat} (X : zX G Z cX4_bringValues 4 RX4 wsX4_bringValues) (p1 : Int32) {post : (Nat → Nat → Int32) → Prop} (hR : zRv G Z rmX4_bringValues 4 (zTC true) ad ln cX4_bringValues post) (al : Nat → Nat → Int32) (h : vcX4_bringValues_0 G  ad ln p1 (BX4_bringValues_2 G Z  ad ln p1) post  al) : zB G Z rmX4_bringValues 4 (zTC true) ad ln 0 0 0 [(0, .ref (ad 173)), (1, .int p1)] [] al := tX4_bringValues_0 X p1 hR (fun _ _ h => h)  al h
theorem uX4_bringValues_81 {G : zG} {Z : zC}  {ad ln : Nat → Nat} (X : zX G Z cX4_bringValues 4 RX4 wsX4_bringValues) (p1 : Int32) {post : (Nat → Nat → Int32) → Prop} (hR : zRv G Z rmX4_bringValues 4 (zTC true) ad ln cX4_bringValues post) (x2 : Int32) (al : Nat → Nat → Int32) (h : vcX4_bringValues_81 G  ad ln p1 (BX4_bringValues_2 G Z  ad ln p1) post x2 al) : zB G Z rmX4_bringValues 4 (zTC true) ad ln 0 0 81 [(0, .ref (ad 173)), (1, .int p1), (2, .int x2)] [] al := tX4_bringValues_81 X p1 hR (fun _ _ h => h) x2 al h
theorem uX4_bringValues_2 {G : zG} {Z : zC}  {ad ln : Nat → Nat} (X : zX G Z cX4_bringValues 4 RX4 wsX4_bringValues) (p1 : Int32) {post : (Nat → Nat → Int32) → Prop} (hR : zRv G Z rmX4_bringValues 4 (zTC true) ad ln cX4_bringValues post) (x2 : Int32) (al : Nat → Nat → Int32) (h : vcX4_bringValues_2 G  ad ln p1 (BX4_bringValues_2 G Z  ad ln p1) post x2 al) : zB G Z rmX4_bringValues 4 (zTC true) ad ln 0 0 2 [(0, .ref (ad 173)), (1, .int p1), (2, .int x2)] [] al := tX4_bringValues_2 X p1 hR (fun _ _ h => h) x2 al h

abbrev rmX4_laidValue : Room := { frames := 2, cells := 0, slots := 0, locals := 43 }
theorem kX4_laidValue_0 : Cond.fieldLink RX4 119 RX1 "sort" "I" ∈ wsX4_laidValue := by decide +kernel
theorem kX4_laidValue_1 : zIn RX1 TX1 2 wsX4_laidValue := by decide +kernel
theorem kX4_laidValue_2 : Cond.fieldLink RX4 24 RX4 "loop" "LLoopForge$Loop;" ∈ wsX4_laidValue := by decide +kernel
theorem kX4_laidValue_3 : zIn RX4 TX4 10 wsX4_laidValue := by decide +kernel
theorem kX4_laidValue_4 : Cond.initialized RX9 ∈ wsX4_laidValue := by decide +kernel
theorem kX4_laidValue_5 : Cond.static yX9_roundsOfUse ∈ wsX4_laidValue := by decide +kernel
theorem kX4_laidValue_6 : Cond.fieldLink RX4 21 RX4 "places" "[I" ∈ wsX4_laidValue := by decide +kernel
theorem kX4_laidValue_7 : Cond.fieldLink RX4 32 RX4 "spans" "LLoopForge$Spans;" ∈ wsX4_laidValue := by decide +kernel
theorem kX4_laidValue_8 : Cond.fieldLink RX4 148 RX6 "offset" "[I" ∈ wsX4_laidValue := by decide +kernel
theorem kX4_laidValue_9 : zIn RX6 TX6 13 wsX4_laidValue := by decide +kernel
theorem kX4_laidValue_10 : Cond.fieldLink RX4 151 RX6 "size" "I" ∈ wsX4_laidValue := by decide +kernel
theorem kX4_laidValue_11 : Cond.static yX9_rest ∈ wsX4_laidValue := by decide +kernel
theorem kX4_laidValue_12 : Cond.fieldLink RX4 124 RX1 "value" "I" ∈ wsX4_laidValue := by decide +kernel
theorem kX4_laidValue_13 : Cond.fieldLink RX4 39 RX4 "begins" "[I" ∈ wsX4_laidValue := by decide +kernel
def vcX4_laidValue_57 (G : zG)  (ad ln : Nat → Nat) (o1 : Nat) (ho1 : zOp true o1) (p2 : Int32) (p3 : Int32)  (post : Int32 → (Nat → Nat → Int32) → Prop) (al : Nat → Nat → Int32) : Prop :=
  (vp_in (al o1 1) 32 ∧ post (al 3 ((al o1 1).toNatClampNeg)) al)
def vcX4_laidValue_26 (G : zG)  (ad ln : Nat → Nat) (o1 : Nat) (ho1 : zOp true o1) (p2 : Int32) (p3 : Int32)  (post : Int32 → (Nat → Nat → Int32) → Prop) (s0 : Int32) (al : Nat → Nat → Int32) : Prop :=
  post s0 al
def vcX4_laidValue_0 (G : zG)  (ad ln : Nat → Nat) (o1 : Nat) (ho1 : zOp true o1) (p2 : Int32) (p3 : Int32)  (post : Int32 → (Nat → Nat → Int32) → Prop) (al : Nat → Nat → Int32) : Prop :=
  ((al o1 0) = (114 : Int32) → zMi G yX0_source wsX0_source rmX0_source (zTC true) ad ln [.ref (ad 4), .ref (ad o1)] al (fun q2 a2 => zMi G yX9_roundsOfUse wsX9_roundsOfUse rmX9_roundsOfUse (zTC true) ad ln [.int q2, .int p2] a2 (fun q3 a3 => (q2 < 0 → vcX4_laidValue_57 G  ad ln o1 ho1 p2 p3  post  a3) ∧ (¬ q2 < 0 → (0 ≤ (p3 - q3) → (vp_in q2 48 ∧ zMi G yX9_rest wsX9_rest rmX9_rest (zTC true) ad ln [.int ((a3 25 q2.toNatClampNeg) - (p3 - q3)), .int (a3 22 12)] a3 (fun q6 a6 => (vp_in q6 128 ∧ post (a6 177 q6.toNatClampNeg) a6)))) ∧ (¬ 0 ≤ (p3 - q3) → vcX4_laidValue_57 G  ad ln o1 ho1 p2 p3  post  a3))))) ∧ (¬ (al o1 0) = (114 : Int32) → (¬ (al o1 0) = (105 : Int32) → vcX4_laidValue_26 G  ad ln o1 ho1 p2 p3  post (al o1 1) al) ∧ ((al o1 0) = (105 : Int32) → vcX4_laidValue_26 G  ad ln o1 ho1 p2 p3  post p3 al))
set_option maxRecDepth 20000 in
theorem tX4_laidValue_57 {G : zG} {Z : zC}  {ad ln : Nat → Nat} (X : zX G Z cX4_laidValue 6 RX4 wsX4_laidValue) (o1 : Nat) (ho1 : zOp true o1) (p2 : Int32) (p3 : Int32)  {post : Int32 → (Nat → Nat → Int32) → Prop} (hR : zRi G Z rmX4_laidValue 6 (zTC true) ad ln cX4_laidValue .int post)  (al : Nat → Nat → Int32) (h : vcX4_laidValue_57 G  ad ln o1 ho1 p2 p3  post  al) : zB G Z rmX4_laidValue 6 (zTC true) ad ln 0 0 57 [(0, .ref (ad 173)), (1, .ref (ad o1))] [] al := by
  unfold vcX4_laidValue_57 at h
  refine zb_aload_n X dX4_laidValue_57 rfl 0 rfl ?_
  refine zb_getR X 173 (zTC_ltR (by decide)) 4 [6, 20, 24, 4, 5, 176, 177, 178, 179, 0] rfl (C := RX4) (Tt := TX4) (N := 10) rfl kX4_laidValue_3 4 (by decide) 3 rfl kX4_laidValue_13 rfl dX4_laidValue_58 ?_
  refine zb_aload_n X dX4_laidValue_61 rfl 1 rfl ?_
  refine zb_getI X o1 ho1.1 1 [0, 0] ho1.2 (C := RX1) (Tt := TX1) (N := 2) rfl kX4_laidValue_1 1 (by decide) rfl kX4_laidValue_12 rfl dX4_laidValue_62 (al o1 1) rfl ?_
  obtain ⟨hz, h⟩ := h
  refine zb_iald X 3 (zTC_lt (by decide)) 1 32 0 0 rfl (Or.inl rfl) ((al o1 1).toNatClampNeg) rfl hz dX4_laidValue_65 (al 3 ((al o1 1).toNatClampNeg)) rfl ?_
  exact hR 66 _ _ _ dX4_laidValue_66 rfl h
set_option maxRecDepth 20000 in
theorem tX4_laidValue_26 {G : zG} {Z : zC}  {ad ln : Nat → Nat} (X : zX G Z cX4_laidValue 6 RX4 wsX4_laidValue) (o1 : Nat) (ho1 : zOp true o1) (p2 : Int32) (p3 : Int32)  {post : Int32 → (Nat → Nat → Int32) → Prop} (hR : zRi G Z rmX4_laidValue 6 (zTC true) ad ln cX4_laidValue .int post)  (s0 : Int32) (al : Nat → Nat → Int32) (h : vcX4_laidValue_26 G  ad ln o1 ho1 p2 p3  post s0 al) : zB G Z rmX4_laidValue 6 (zTC true) ad ln 0 0 26 [] [.int s0] al := by
  unfold vcX4_laidValue_26 at h
  exact hR 26 _ _ _ dX4_laidValue_26 rfl h
set_option maxRecDepth 20000 in
theorem tX4_laidValue_0 {G : zG} {Z : zC}  {ad ln : Nat → Nat} (X : zX G Z cX4_laidValue 6 RX4 wsX4_laidValue) (o1 : Nat) (ho1 : zOp true o1) (p2 : Int32) (p3 : Int32)  {post : Int32 → (Nat → Nat → Int32) → Prop} (hR : zRi G Z rmX4_laidValue 6 (zTC true) ad ln cX4_laidValue .int post)  (al : Nat → Nat → Int32) (h : vcX4_laidValue_0 G  ad ln o1 ho1 p2 p3  post  al) : zB G Z rmX4_laidValue 6 (zTC true) ad ln 0 0 0 [(0, .ref (ad 173)), (1, .ref (ad o1)), (2, .int p2), (3, .int p3)] [] al := by
  unfold vcX4_laidValue_0 at h
  refine zb_aload_n X dX4_laidValue_0 rfl 1 rfl ?_
  refine zb_getI X o1 ho1.1 1 [0, 0] ho1.2 (C := RX1) (Tt := TX1) (N := 2) rfl kX4_laidValue_1 0 (by decide) rfl kX4_laidValue_0 rfl dX4_laidValue_1 (al o1 0) rfl ?_
  refine zb_bipush X (114 : Int32) dX4_laidValue_4 (by decide) ?_
  refine zb_icmp_eq X 27 dX4_laidValue_6 (by decide) (fun c1 => ?_) (fun c1 => ?_)
  · have h := h.1 c1
    refine zb_aload_n X dX4_laidValue_27 rfl 0 rfl ?_
    refine zb_getR X 173 (zTC_ltR (by decide)) 4 [6, 20, 24, 4, 5, 176, 177, 178, 179, 0] rfl (C := RX4) (Tt := TX4) (N := 10) rfl kX4_laidValue_3 0 (by decide) 4 rfl kX4_laidValue_2 rfl dX4_laidValue_28 ?_
    refine zb_aload_n X dX4_laidValue_31 rfl 1 rfl ?_
    refine zb_callVi (n := 1) X 4 (zTC_lt (by decide)) 0 [7, 0, 8] rfl (C := RX0) (Tt := TX0) (N := 3) rfl h gX4_laidValue_X0_source rfl (by decide +kernel) (by decide) rfl rfl (Nat.le_of_ble_eq_true rfl) dX4_laidValue_32 (kc' := 0) (ks' := 0) rfl rfl (fun q2 a2 h => ?_)
    refine zb_istore X (lv' := [(4, .int q2), (0, .ref (ad 173)), (1, .ref (ad o1)), (2, .int p2), (3, .int p3)]) dX4_laidValue_35 (by decide) rfl ?_
    refine zb_iload_n X dX4_laidValue_37 rfl 4 rfl ?_
    refine zb_iload X dX4_laidValue_38 0 rfl ?_
    refine zb_iload_n X dX4_laidValue_40 rfl 3 rfl ?_
    refine zb_callNi (n := 2) X h gX4_laidValue_X9_roundsOfUse_n166 (by decide +kernel) kX4_laidValue_4 kX4_laidValue_5 rfl (by decide +kernel) (by decide) rfl rfl (Nat.le_of_ble_eq_true rfl) dX4_laidValue_41 (kc' := 0) (ks' := 0) rfl rfl (fun q3 a3 h => ?_)
    refine zb_isub X dX4_laidValue_44 ?_
    refine zb_istore X (lv' := [(5, .int (p3 - q3)), (4, .int q2), (0, .ref (ad 173)), (1, .ref (ad o1)), (2, .int p2), (3, .int p3)]) dX4_laidValue_45 (by decide) rfl ?_
    refine zb_iload X dX4_laidValue_47 1 rfl ?_
    refine zb_if_lt X 57 dX4_laidValue_49 (by decide) (fun c4 => ?_) (fun c4 => ?_)
    · have h := h.1 c4
      refine zb_sub [2, 3] rfl ?_
      exact tX4_laidValue_57 X o1 ho1 p2 p3 hR   a3 h
    · have h := h.2 c4
      refine zb_iload X dX4_laidValue_52 0 rfl ?_
      refine zb_if_ge X 67 dX4_laidValue_54 (by decide) (fun c5 => ?_) (fun c5 => ?_)
      · have h := h.1 c5
        refine zb_aload_n X dX4_laidValue_67 rfl 2 rfl ?_
        refine zb_getR X 173 (zTC_ltR (by decide)) 4 [6, 20, 24, 4, 5, 176, 177, 178, 179, 0] rfl (C := RX4) (Tt := TX4) (N := 10) rfl kX4_laidValue_3 8 (by decide) 177 rfl kX4_laidValue_6 rfl dX4_laidValue_68 ?_
        refine zb_aload_n X dX4_laidValue_71 rfl 2 rfl ?_
        refine zb_getR X 173 (zTC_ltR (by decide)) 4 [6, 20, 24, 4, 5, 176, 177, 178, 179, 0] rfl (C := RX4) (Tt := TX4) (N := 10) rfl kX4_laidValue_3 2 (by decide) 22 rfl kX4_laidValue_7 rfl dX4_laidValue_72 ?_
        refine zb_getR X 22 (zTC_lt (by decide)) 6 [6, 20, 4, 25, 26, 27, 28, 29, 30, 0, 0, 0, 0] rfl (C := RX6) (Tt := TX6) (N := 13) rfl kX4_laidValue_9 5 (by decide) 25 rfl kX4_laidValue_8 rfl dX4_laidValue_75 ?_
        refine zb_iload X dX4_laidValue_78 1 rfl ?_
        obtain ⟨hz, h⟩ := h
        refine zb_iald X 25 (zTC_lt (by decide)) 1 48 0 0 rfl (Or.inl rfl) q2.toNatClampNeg rfl hz dX4_laidValue_80 (a3 25 q2.toNatClampNeg) rfl ?_
        refine zb_iload X dX4_laidValue_81 0 rfl ?_
        refine zb_isub X dX4_laidValue_83 ?_
        refine zb_aload_n X dX4_laidValue_84 rfl 2 rfl ?_
        refine zb_getR X 173 (zTC_ltR (by decide)) 4 [6, 20, 24, 4, 5, 176, 177, 178, 179, 0] rfl (C := RX4) (Tt := TX4) (N := 10) rfl kX4_laidValue_3 2 (by decide) 22 rfl kX4_laidValue_7 rfl dX4_laidValue_85 ?_
        refine zb_getI X 22 (zTC_lt (by decide)) 6 [6, 20, 4, 25, 26, 27, 28, 29, 30, 0, 0, 0, 0] rfl (C := RX6) (Tt := TX6) (N := 13) rfl kX4_laidValue_9 12 (by decide) rfl kX4_laidValue_10 rfl dX4_laidValue_88 (a3 22 12) rfl ?_
        refine zb_callNi (n := 2) X h gX4_laidValue_X9_rest_n152 (by decide +kernel) kX4_laidValue_4 kX4_laidValue_11 rfl (by decide +kernel) (by decide) rfl rfl (Nat.le_of_ble_eq_true rfl) dX4_laidValue_91 (kc' := 0) (ks' := 0) rfl rfl (fun q6 a6 h => ?_)
        obtain ⟨hz, h⟩ := h
        refine zb_iald X 177 (zTC_ltR (by decide)) 1 128 0 0 rfl (Or.inl rfl) q6.toNatClampNeg rfl hz dX4_laidValue_94 (a6 177 q6.toNatClampNeg) rfl ?_
        exact hR 95 _ _ _ dX4_laidValue_95 rfl h
      · have h := h.2 c5
        refine zb_sub [2, 3] rfl ?_
        exact tX4_laidValue_57 X o1 ho1 p2 p3 hR   a3 h
  · have h := h.2 c1
    refine zb_aload_n X dX4_laidValue_9 rfl 1 rfl ?_
    refine zb_getI X o1 ho1.1 1 [0, 0] ho1.2 (C := RX1) (Tt := TX1) (N := 2) rfl kX4_laidValue_1 0 (by decide) rfl kX4_laidValue_0 rfl dX4_laidValue_10 (al o1 0) rfl ?_
    refine zb_bipush X (105 : Int32) dX4_laidValue_13 (by decide) ?_
    refine zb_icmp_ne X 22 dX4_laidValue_15 (by decide) (fun c2 => ?_) (fun c2 => ?_)
    · have h := h.1 c2
      refine zb_aload_n X dX4_laidValue_22 rfl 1 rfl ?_
      refine zb_getI X o1 ho1.1 1 [0, 0] ho1.2 (C := RX1) (Tt := TX1) (N := 2) rfl kX4_laidValue_1 1 (by decide) rfl kX4_laidValue_12 rfl dX4_laidValue_23 (al o1 1) rfl ?_
      refine zb_sub [] rfl ?_
      exact tX4_laidValue_26 X o1 ho1 p2 p3 hR  (al o1 1) al h
    · have h := h.2 c2
      refine zb_iload_n X dX4_laidValue_18 rfl 3 rfl ?_
      refine zb_goto X 26 dX4_laidValue_19 (by decide) ?_
      refine zb_sub [] rfl ?_
      exact tX4_laidValue_26 X o1 ho1 p2 p3 hR  p3 al h

abbrev rmX4_giveLaid : Room := { frames := 3, cells := 0, slots := 0, locals := 68 }
theorem kX4_giveLaid_0 : Cond.fieldLink RX4 24 RX4 "loop" "LLoopForge$Loop;" ∈ wsX4_giveLaid := by decide +kernel
theorem kX4_giveLaid_1 : zIn RX4 TX4 10 wsX4_giveLaid := by decide +kernel
theorem kX4_giveLaid_2 : Cond.fieldLink RX4 57 RX0 "rows" "[LLoopForge$Row;" ∈ wsX4_giveLaid := by decide +kernel
theorem kX4_giveLaid_3 : zIn RX0 TX0 3 wsX4_giveLaid := by decide +kernel
theorem kX4_giveLaid_4 : Cond.fieldLink RX4 94 RX3 "kind" "I" ∈ wsX4_giveLaid := by decide +kernel
theorem kX4_giveLaid_5 : zIn RX3 TX3 9 wsX4_giveLaid := by decide +kernel
theorem kX4_giveLaid_6 : Cond.fieldLink RX4 101 RX3 "left" "LLoopForge$Operand;" ∈ wsX4_giveLaid := by decide +kernel
theorem kX4_giveLaid_7 : Cond.fieldLink RX4 112 RX3 "right" "LLoopForge$Operand;" ∈ wsX4_giveLaid := by decide +kernel
theorem kX4_giveLaid_8 : Cond.fieldLink RX4 9 RX4 "cells" "[I" ∈ wsX4_giveLaid := by decide +kernel
def vcX4_giveLaid_71 (G : zG)  (ad ln : Nat → Nat) (p1 : Int32) (p2 : Int32)  (post : Int32 → (Nat → Nat → Int32) → Prop) (s0 : Int32) (al : Nat → Nat → Int32) : Prop :=
  post s0 al
def vcX4_giveLaid_0 (G : zG)  (ad ln : Nat → Nat) (p1 : Int32) (p2 : Int32)  (post : Int32 → (Nat → Nat → Int32) → Prop) (al : Nat → Nat → Int32) : Prop :=
  (vp_in p1 48 ∧ (¬ (al (29 + 3 * p1.toNatClampNeg) 0) = (2 : Int32) → zMi G yX4_laidValue wsX4_laidValue rmX4_laidValue (zTC true) ad ln [.ref (ad 173), .ref (ad (30 + 3 * p1.toNatClampNeg)), .int p1, .int p2] al (fun q3 a3 => (¬ (a3 (29 + 3 * p1.toNatClampNeg) 0) = (3 : Int32) → zMi G yX4_laidValue wsX4_laidValue rmX4_laidValue (zTC true) ad ln [.ref (ad 173), .ref (ad (31 + 3 * p1.toNatClampNeg)), .int p1, .int p2] a3 (fun q5 a5 => zMi G yX3_reckon wsX3_reckon rmX3_reckon (zTC true) ad ln [.ref (ad (29 + 3 * p1.toNatClampNeg)), .int q3, .int q5] a5 (fun q6 a6 => vcX4_giveLaid_71 G  ad ln p1 p2  post q6 a6))) ∧ ((a3 (29 + 3 * p1.toNatClampNeg) 0) = (3 : Int32) → vcX4_giveLaid_71 G  ad ln p1 p2  post q3 a3))) ∧ ((al (29 + 3 * p1.toNatClampNeg) 0) = (2 : Int32) → zMi G yX4_cellOf wsX4_cellOf rmX4_cellOf (zTC true) ad ln [.ref (ad 173), .ref (ad (29 + 3 * p1.toNatClampNeg)), .int p2] al (fun q3 a3 => (vp_in q3 4096 ∧ post (a3 174 q3.toNatClampNeg) a3))))
set_option maxRecDepth 20000 in
theorem tX4_giveLaid_71 {G : zG} {Z : zC}  {ad ln : Nat → Nat} (X : zX G Z cX4_giveLaid 5 RX4 wsX4_giveLaid) (p1 : Int32) (p2 : Int32)  {post : Int32 → (Nat → Nat → Int32) → Prop} (hR : zRi G Z rmX4_giveLaid 5 (zTC true) ad ln cX4_giveLaid .int post)  (s0 : Int32) (al : Nat → Nat → Int32) (h : vcX4_giveLaid_71 G  ad ln p1 p2  post s0 al) : zB G Z rmX4_giveLaid 5 (zTC true) ad ln 0 0 71 [] [.int s0] al := by
  unfold vcX4_giveLaid_71 at h
  exact hR 71 _ _ _ dX4_giveLaid_71 rfl h
set_option maxRecDepth 20000 in
theorem tX4_giveLaid_0 {G : zG} {Z : zC}  {ad ln : Nat → Nat} (X : zX G Z cX4_giveLaid 5 RX4 wsX4_giveLaid) (p1 : Int32) (p2 : Int32)  {post : Int32 → (Nat → Nat → Int32) → Prop} (hR : zRi G Z rmX4_giveLaid 5 (zTC true) ad ln cX4_giveLaid .int post)  (al : Nat → Nat → Int32) (h : vcX4_giveLaid_0 G  ad ln p1 p2  post  al) : zB G Z rmX4_giveLaid 5 (zTC true) ad ln 0 0 0 [(0, .ref (ad 173)), (1, .int p1), (2, .int p2)] [] al := by
  unfold vcX4_giveLaid_0 at h
  refine zb_aload_n X dX4_giveLaid_0 rfl 0 rfl ?_
  refine zb_getR X 173 (zTC_ltR (by decide)) 4 [6, 20, 24, 4, 5, 176, 177, 178, 179, 0] rfl (C := RX4) (Tt := TX4) (N := 10) rfl kX4_giveLaid_1 0 (by decide) 4 rfl kX4_giveLaid_0 rfl dX4_giveLaid_1 ?_
  refine zb_getR X 4 (zTC_lt (by decide)) 0 [7, 0, 8] rfl (C := RX0) (Tt := TX0) (N := 3) rfl kX4_giveLaid_3 0 (by decide) 5 rfl kX4_giveLaid_2 rfl dX4_giveLaid_4 ?_
  refine zb_iload_n X dX4_giveLaid_7 rfl 1 rfl ?_
  obtain ⟨hq1, h⟩ := h
  refine zb_rald X 5 (zTC_lt (by decide)) 48 29 3 rfl hq1 dX4_giveLaid_8 ?_
  refine zb_astore_n X (lv' := [(3, .ref (ad (29 + 3 * p1.toNatClampNeg))), (0, .ref (ad 173)), (1, .int p1), (2, .int p2)]) dX4_giveLaid_9 rfl (by decide) rfl ?_
  refine zb_aload_n X dX4_giveLaid_10 rfl 0 rfl ?_
  refine zb_getI X (29 + 3 * p1.toNatClampNeg) (zTC_lt (zrow_lt (zvp_lt hq1))) 3 [0, 0, 0, 0, 0, 0, 0, (30 + 3 * p1.toNatClampNeg) + 2, (31 + 3 * p1.toNatClampNeg) + 2] (zTC_row true (zvp_lt hq1)) (C := RX3) (Tt := TX3) (N := 9) rfl kX4_giveLaid_5 0 (by decide) rfl kX4_giveLaid_4 rfl dX4_giveLaid_11 (al (29 + 3 * p1.toNatClampNeg) 0) rfl ?_
  refine zb_iconst X (2 : Int32) dX4_giveLaid_14 (by decide) ?_
  refine zb_icmp_ne X 30 dX4_giveLaid_15 (by decide) (fun c2 => ?_) (fun c2 => ?_)
  · have h := h.1 c2
    refine zb_aload_n X dX4_giveLaid_30 rfl 1 rfl ?_
    refine zb_aload_n X dX4_giveLaid_31 rfl 0 rfl ?_
    refine zb_getR X (29 + 3 * p1.toNatClampNeg) (zTC_lt (zrow_lt (zvp_lt hq1))) 3 [0, 0, 0, 0, 0, 0, 0, (30 + 3 * p1.toNatClampNeg) + 2, (31 + 3 * p1.toNatClampNeg) + 2] (zTC_row true (zvp_lt hq1)) (C := RX3) (Tt := TX3) (N := 9) rfl kX4_giveLaid_5 7 (by decide) (30 + 3 * p1.toNatClampNeg) rfl kX4_giveLaid_6 rfl dX4_giveLaid_32 ?_
    refine zb_iload_n X dX4_giveLaid_35 rfl 2 rfl ?_
    refine zb_iload_n X dX4_giveLaid_36 rfl 3 rfl ?_
    refine zb_callVi (n := 3) X 173 (zTC_ltR (by decide)) 4 [6, 20, 24, 4, 5, 176, 177, 178, 179, 0] rfl (C := RX4) (Tt := TX4) (N := 10) rfl h gX4_giveLaid_X4_laidValue rfl (by decide +kernel) (by decide) rfl rfl (Nat.le_of_ble_eq_true rfl) dX4_giveLaid_37 (kc' := 0) (ks' := 0) rfl rfl (fun q3 a3 h => ?_)
    refine zb_istore X (lv' := [(4, .int q3), (3, .ref (ad (29 + 3 * p1.toNatClampNeg))), (0, .ref (ad 173)), (1, .int p1), (2, .int p2)]) dX4_giveLaid_40 (by decide) rfl ?_
    refine zb_aload_n X dX4_giveLaid_42 rfl 1 rfl ?_
    refine zb_getI X (29 + 3 * p1.toNatClampNeg) (zTC_lt (zrow_lt (zvp_lt hq1))) 3 [0, 0, 0, 0, 0, 0, 0, (30 + 3 * p1.toNatClampNeg) + 2, (31 + 3 * p1.toNatClampNeg) + 2] (zTC_row true (zvp_lt hq1)) (C := RX3) (Tt := TX3) (N := 9) rfl kX4_giveLaid_5 0 (by decide) rfl kX4_giveLaid_4 rfl dX4_giveLaid_43 (a3 (29 + 3 * p1.toNatClampNeg) 0) rfl ?_
    refine zb_iconst X (3 : Int32) dX4_giveLaid_46 (by decide) ?_
    refine zb_icmp_ne X 55 dX4_giveLaid_47 (by decide) (fun c4 => ?_) (fun c4 => ?_)
    · have h := h.1 c4
      refine zb_aload_n X dX4_giveLaid_55 rfl 1 rfl ?_
      refine zb_iload X dX4_giveLaid_56 0 rfl ?_
      refine zb_aload_n X dX4_giveLaid_58 rfl 2 rfl ?_
      refine zb_aload_n X dX4_giveLaid_59 rfl 1 rfl ?_
      refine zb_getR X (29 + 3 * p1.toNatClampNeg) (zTC_lt (zrow_lt (zvp_lt hq1))) 3 [0, 0, 0, 0, 0, 0, 0, (30 + 3 * p1.toNatClampNeg) + 2, (31 + 3 * p1.toNatClampNeg) + 2] (zTC_row true (zvp_lt hq1)) (C := RX3) (Tt := TX3) (N := 9) rfl kX4_giveLaid_5 8 (by decide) (31 + 3 * p1.toNatClampNeg) rfl kX4_giveLaid_7 rfl dX4_giveLaid_60 ?_
      refine zb_iload_n X dX4_giveLaid_63 rfl 3 rfl ?_
      refine zb_iload_n X dX4_giveLaid_64 rfl 4 rfl ?_
      refine zb_callVi (n := 3) X 173 (zTC_ltR (by decide)) 4 [6, 20, 24, 4, 5, 176, 177, 178, 179, 0] rfl (C := RX4) (Tt := TX4) (N := 10) rfl h gX4_giveLaid_X4_laidValue rfl (by decide +kernel) (by decide) rfl rfl (Nat.le_of_ble_eq_true rfl) dX4_giveLaid_65 (kc' := 0) (ks' := 0) rfl rfl (fun q5 a5 h => ?_)
      refine zb_callVi (n := 2) X (29 + 3 * p1.toNatClampNeg) (zTC_lt (zrow_lt (zvp_lt hq1))) 3 [0, 0, 0, 0, 0, 0, 0, (30 + 3 * p1.toNatClampNeg) + 2, (31 + 3 * p1.toNatClampNeg) + 2] (zTC_row true (zvp_lt hq1)) (C := RX3) (Tt := TX3) (N := 9) rfl h gX4_giveLaid_X3_reckon rfl (by decide +kernel) (by decide) rfl rfl (Nat.le_of_ble_eq_true rfl) dX4_giveLaid_68 (kc' := 0) (ks' := 0) rfl rfl (fun q6 a6 h => ?_)
      refine zb_sub [] rfl ?_
      exact tX4_giveLaid_71 X p1 p2 hR  q6 a6 h
    · have h := h.2 c4
      refine zb_iload X dX4_giveLaid_50 0 rfl ?_
      refine zb_goto X 71 dX4_giveLaid_52 (by decide) ?_
      refine zb_sub [] rfl ?_
      exact tX4_giveLaid_71 X p1 p2 hR  q3 a3 h
  · have h := h.2 c2
    refine zb_aload_n X dX4_giveLaid_18 rfl 1 rfl ?_
    refine zb_getR X 173 (zTC_ltR (by decide)) 4 [6, 20, 24, 4, 5, 176, 177, 178, 179, 0] rfl (C := RX4) (Tt := TX4) (N := 10) rfl kX4_giveLaid_1 5 (by decide) 174 rfl kX4_giveLaid_8 rfl dX4_giveLaid_19 ?_
    refine zb_aload_n X dX4_giveLaid_22 rfl 1 rfl ?_
    refine zb_aload_n X dX4_giveLaid_23 rfl 0 rfl ?_
    refine zb_iload_n X dX4_giveLaid_24 rfl 3 rfl ?_
    refine zb_callVi (n := 2) X 173 (zTC_ltR (by decide)) 4 [6, 20, 24, 4, 5, 176, 177, 178, 179, 0] rfl (C := RX4) (Tt := TX4) (N := 10) rfl h gX4_giveLaid_X4_cellOf rfl (by decide +kernel) (by decide) rfl rfl (Nat.le_of_ble_eq_true rfl) dX4_giveLaid_25 (kc' := 0) (ks' := 0) rfl rfl (fun q3 a3 h => ?_)
    obtain ⟨hz, h⟩ := h
    refine zb_iald X 174 (zTC_ltR (by decide)) 1 4096 0 0 rfl (Or.inl rfl) q3.toNatClampNeg rfl hz dX4_giveLaid_28 (a3 174 q3.toNatClampNeg) rfl ?_
    exact hR 29 _ _ _ dX4_giveLaid_29 rfl h

abbrev rmX4_beginRows : Room := { frames := 4, cells := 0, slots := 0, locals := 92 }
theorem kX4_beginRows_0 : Cond.fieldLink RX4 24 RX4 "loop" "LLoopForge$Loop;" ∈ wsX4_beginRows := by decide +kernel
theorem kX4_beginRows_1 : zIn RX4 TX4 10 wsX4_beginRows := by decide +kernel
theorem kX4_beginRows_2 : Cond.fieldLink RX4 51 RX0 "size" "I" ∈ wsX4_beginRows := by decide +kernel
theorem kX4_beginRows_3 : zIn RX0 TX0 3 wsX4_beginRows := by decide +kernel
theorem kX4_beginRows_4 : Cond.fieldLink RX4 28 RX4 "table" "LLoopForge$Table;" ∈ wsX4_beginRows := by decide +kernel
theorem kX4_beginRows_5 : Cond.fieldLink RX4 127 RX7 "cycle" "[I" ∈ wsX4_beginRows := by decide +kernel
theorem kX4_beginRows_6 : zIn RX7 TX7 9 wsX4_beginRows := by decide +kernel
theorem kX4_beginRows_7 : Cond.fieldLink RX4 18 RX4 "given" "[I" ∈ wsX4_beginRows := by decide +kernel
abbrev BX4_beginRows_2 (G : zG) (Z : zC)  (ad ln : Nat → Nat) (p1 : Int32) (x2 : Int32) (al : Nat → Nat → Int32) : Prop := zB G Z rmX4_beginRows 4 (zTC true) ad ln 0 0 2 [(0, .ref (ad 173)), (1, .int p1), (2, .int x2)] [] al
def vcX4_beginRows_0 (G : zG)  (ad ln : Nat → Nat) (p1 : Int32) (K2 : Int32 → (Nat → Nat → Int32) → Prop) (post : (Nat → Nat → Int32) → Prop) (al : Nat → Nat → Int32) : Prop :=
  K2 (0 : Int32) al
def vcX4_beginRows_49 (G : zG)  (ad ln : Nat → Nat) (p1 : Int32) (K2 : Int32 → (Nat → Nat → Int32) → Prop) (post : (Nat → Nat → Int32) → Prop) (x2 : Int32) (al : Nat → Nat → Int32) : Prop :=
  K2 (x2 + (1 : Int32)) al
def vcX4_beginRows_2 (G : zG)  (ad ln : Nat → Nat) (p1 : Int32) (K2 : Int32 → (Nat → Nat → Int32) → Prop) (post : (Nat → Nat → Int32) → Prop) (x2 : Int32) (al : Nat → Nat → Int32) : Prop :=
  ((al 4 1) ≤ x2 → post al) ∧ (¬ (al 4 1) ≤ x2 → (vp_in x2 48 ∧ zMi G yX4_roundAt wsX4_roundAt rmX4_roundAt (zTC true) ad ln [.ref (ad 173), .int p1, .int (al 19 x2.toNatClampNeg)] al (fun q2 a2 => (q2 < 0 → vcX4_beginRows_49 G  ad ln p1 K2 post x2 a2) ∧ (¬ q2 < 0 → zMi G yX4_giveLaid wsX4_giveLaid rmX4_giveLaid (zTC true) ad ln [.ref (ad 173), .int x2, .int q2] a2 (fun q4 a4 => (vp_in ((x2 * (64 : Int32)) + q2) 3072 ∧ vcX4_beginRows_49 G  ad ln p1 K2 post x2 (up2 a4 176 (((x2 * (64 : Int32)) + q2).toNatClampNeg) q4)))))))
set_option maxRecDepth 20000 in
theorem tX4_beginRows_0 {G : zG} {Z : zC}  {ad ln : Nat → Nat} (X : zX G Z cX4_beginRows 4 RX4 wsX4_beginRows) (p1 : Int32) {K2 : Int32 → (Nat → Nat → Int32) → Prop} {post : (Nat → Nat → Int32) → Prop} (hR : zRv G Z rmX4_beginRows 4 (zTC true) ad ln cX4_beginRows post) (hK2 : ∀ x2 : Int32, ∀ al, K2 x2 al → zB G Z rmX4_beginRows 4 (zTC true) ad ln 0 0 2 [(0, .ref (ad 173)), (1, .int p1), (2, .int x2)] [] al) (al : Nat → Nat → Int32) (h : vcX4_beginRows_0 G  ad ln p1 K2 post  al) : zB G Z rmX4_beginRows 4 (zTC true) ad ln 0 0 0 [(0, .ref (ad 173)), (1, .int p1)] [] al := by
  unfold vcX4_beginRows_0 at h
  refine zb_iconst X (0 : Int32) dX4_beginRows_0 (by decide) ?_
  refine zb_istore_n X (lv' := [(2, .int (0 : Int32)), (0, .ref (ad 173)), (1, .int p1)]) dX4_beginRows_1 rfl (by decide) rfl ?_
  refine zb_sub [1, 2, 0] rfl ?_
  exact hK2 (0 : Int32) al h
set_option maxRecDepth 20000 in
theorem tX4_beginRows_49 {G : zG} {Z : zC}  {ad ln : Nat → Nat} (X : zX G Z cX4_beginRows 4 RX4 wsX4_beginRows) (p1 : Int32) {K2 : Int32 → (Nat → Nat → Int32) → Prop} {post : (Nat → Nat → Int32) → Prop} (hR : zRv G Z rmX4_beginRows 4 (zTC true) ad ln cX4_beginRows post) (hK2 : ∀ x2 : Int32, ∀ al, K2 x2 al → zB G Z rmX4_beginRows 4 (zTC true) ad ln 0 0 2 [(0, .ref (ad 173)), (1, .int p1), (2, .int x2)] [] al) (x2 : Int32) (al : Nat → Nat → Int32) (h : vcX4_beginRows_49 G  ad ln p1 K2 post x2 al) : zB G Z rmX4_beginRows 4 (zTC true) ad ln 0 0 49 [(0, .ref (ad 173)), (1, .int p1), (2, .int x2)] [] al := by
  unfold vcX4_beginRows_49 at h
  refine zb_iinc X (lv' := [(2, .int (x2 + (1 : Int32))), (0, .ref (ad 173)), (1, .int p1)]) (x2 + (1 : Int32)) dX4_beginRows_49 2 rfl rfl (by decide) rfl ?_
  refine zb_goto X 2 dX4_beginRows_52 (by decide) ?_
  refine zb_sub [1, 2, 0] rfl ?_
  exact hK2 (x2 + (1 : Int32)) al h
set_option maxRecDepth 20000 in
theorem tX4_beginRows_2 {G : zG} {Z : zC}  {ad ln : Nat → Nat} (X : zX G Z cX4_beginRows 4 RX4 wsX4_beginRows) (p1 : Int32) {K2 : Int32 → (Nat → Nat → Int32) → Prop} {post : (Nat → Nat → Int32) → Prop} (hR : zRv G Z rmX4_beginRows 4 (zTC true) ad ln cX4_beginRows post) (hK2 : ∀ x2 : Int32, ∀ al, K2 x2 al → zB G Z rmX4_beginRows 4 (zTC true) ad ln 0 0 2 [(0, .ref (ad 173)), (1, .int p1), (2, .int x2)] [] al) (x2 : Int32) (al : Nat → Nat → Int32) (h : vcX4_beginRows_2 G  ad ln p1 K2 post x2 al) : zB G Z rmX4_beginRows 4 (zTC true) ad ln 0 0 2 [(0, .ref (ad 173)), (1, .int p1), (2, .int x2)] [] al := by
  unfold vcX4_beginRows_2 at h
  refine zb_iload_n X dX4_beginRows_2 rfl 2 rfl ?_
  refine zb_aload_n X dX4_beginRows_3 rfl 0 rfl ?_
  refine zb_getR X 173 (zTC_ltR (by decide)) 4 [6, 20, 24, 4, 5, 176, 177, 178, 179, 0] rfl (C := RX4) (Tt := TX4) (N := 10) rfl kX4_beginRows_1 0 (by decide) 4 rfl kX4_beginRows_0 rfl dX4_beginRows_4 ?_
  refine zb_getI X 4 (zTC_lt (by decide)) 0 [7, 0, 8] rfl (C := RX0) (Tt := TX0) (N := 3) rfl kX4_beginRows_3 1 (by decide) rfl kX4_beginRows_2 rfl dX4_beginRows_7 (al 4 1) rfl ?_
  refine zb_icmp_ge X 55 dX4_beginRows_10 (by decide) (fun c1 => ?_) (fun c1 => ?_)
  · have h := h.1 c1
    exact hR 55 _ _ dX4_beginRows_55 h
  · have h := h.2 c1
    refine zb_aload_n X dX4_beginRows_13 rfl 0 rfl ?_
    refine zb_iload_n X dX4_beginRows_14 rfl 1 rfl ?_
    refine zb_aload_n X dX4_beginRows_15 rfl 0 rfl ?_
    refine zb_getR X 173 (zTC_ltR (by decide)) 4 [6, 20, 24, 4, 5, 176, 177, 178, 179, 0] rfl (C := RX4) (Tt := TX4) (N := 10) rfl kX4_beginRows_1 1 (by decide) 18 rfl kX4_beginRows_4 rfl dX4_beginRows_16 ?_
    refine zb_getR X 18 (zTC_lt (by decide)) 7 [6, 14, 4, 21, 22, 23, 0, 0, 0] rfl (C := RX7) (Tt := TX7) (N := 9) rfl kX4_beginRows_6 3 (by decide) 19 rfl kX4_beginRows_5 rfl dX4_beginRows_19 ?_
    refine zb_iload_n X dX4_beginRows_22 rfl 2 rfl ?_
    obtain ⟨hz, h⟩ := h
    refine zb_iald X 19 (zTC_lt (by decide)) 1 48 0 0 rfl (Or.inl rfl) x2.toNatClampNeg rfl hz dX4_beginRows_23 (al 19 x2.toNatClampNeg) rfl ?_
    refine zb_callVi (n := 2) X 173 (zTC_ltR (by decide)) 4 [6, 20, 24, 4, 5, 176, 177, 178, 179, 0] rfl (C := RX4) (Tt := TX4) (N := 10) rfl h gX4_beginRows_X4_roundAt rfl (by decide +kernel) (by decide) rfl rfl (Nat.le_of_ble_eq_true rfl) dX4_beginRows_24 (kc' := 0) (ks' := 0) rfl rfl (fun q2 a2 h => ?_)
    refine zb_istore_n X (lv' := [(3, .int q2), (0, .ref (ad 173)), (1, .int p1), (2, .int x2)]) dX4_beginRows_27 rfl (by decide) rfl ?_
    refine zb_iload_n X dX4_beginRows_28 rfl 0 rfl ?_
    refine zb_if_lt X 49 dX4_beginRows_29 (by decide) (fun c3 => ?_) (fun c3 => ?_)
    · have h := h.1 c3
      refine zb_sub [1, 2, 3] rfl ?_
      exact tX4_beginRows_49 X p1 hR hK2 x2 a2 h
    · have h := h.2 c3
      refine zb_aload_n X dX4_beginRows_32 rfl 1 rfl ?_
      refine zb_getR X 173 (zTC_ltR (by decide)) 4 [6, 20, 24, 4, 5, 176, 177, 178, 179, 0] rfl (C := RX4) (Tt := TX4) (N := 10) rfl kX4_beginRows_1 7 (by decide) 176 rfl kX4_beginRows_7 rfl dX4_beginRows_33 ?_
      refine zb_iload_n X dX4_beginRows_36 rfl 3 rfl ?_
      refine zb_bipush X (64 : Int32) dX4_beginRows_37 (by decide) ?_
      refine zb_imul X dX4_beginRows_39 ?_
      refine zb_iload_n X dX4_beginRows_40 rfl 0 rfl ?_
      refine zb_iadd X dX4_beginRows_41 ?_
      refine zb_aload_n X dX4_beginRows_42 rfl 1 rfl ?_
      refine zb_iload_n X dX4_beginRows_43 rfl 3 rfl ?_
      refine zb_iload_n X dX4_beginRows_44 rfl 0 rfl ?_
      refine zb_callVi (n := 2) X 173 (zTC_ltR (by decide)) 4 [6, 20, 24, 4, 5, 176, 177, 178, 179, 0] rfl (C := RX4) (Tt := TX4) (N := 10) rfl h gX4_beginRows_X4_giveLaid rfl (by decide +kernel) (by decide) rfl rfl (Nat.le_of_ble_eq_true rfl) dX4_beginRows_45 (kc' := 0) (ks' := 0) rfl rfl (fun q4 a4 h => ?_)
      obtain ⟨hz, h⟩ := h
      refine zb_iast X 176 (zTC_ltR (by decide)) 1 3072 0 0 rfl (Or.inl rfl) (((x2 * (64 : Int32)) + q2).toNatClampNeg) rfl hz dX4_beginRows_48 ?_
      refine zb_sub [1, 2, 3] rfl ?_
      exact tX4_beginRows_49 X p1 hR hK2 x2 (up2 a4 176 (((x2 * (64 : Int32)) + q2).toNatClampNeg) q4) h
theorem uX4_beginRows_0 {G : zG} {Z : zC}  {ad ln : Nat → Nat} (X : zX G Z cX4_beginRows 4 RX4 wsX4_beginRows) (p1 : Int32) {post : (Nat → Nat → Int32) → Prop} (hR : zRv G Z rmX4_beginRows 4 (zTC true) ad ln cX4_beginRows post) (al : Nat → Nat → Int32) (h : vcX4_beginRows_0 G  ad ln p1 (BX4_beginRows_2 G Z  ad ln p1) post  al) : zB G Z rmX4_beginRows 4 (zTC true) ad ln 0 0 0 [(0, .ref (ad 173)), (1, .int p1)] [] al := tX4_beginRows_0 X p1 hR (fun _ _ h => h)  al h
theorem uX4_beginRows_49 {G : zG} {Z : zC}  {ad ln : Nat → Nat} (X : zX G Z cX4_beginRows 4 RX4 wsX4_beginRows) (p1 : Int32) {post : (Nat → Nat → Int32) → Prop} (hR : zRv G Z rmX4_beginRows 4 (zTC true) ad ln cX4_beginRows post) (x2 : Int32) (al : Nat → Nat → Int32) (h : vcX4_beginRows_49 G  ad ln p1 (BX4_beginRows_2 G Z  ad ln p1) post x2 al) : zB G Z rmX4_beginRows 4 (zTC true) ad ln 0 0 49 [(0, .ref (ad 173)), (1, .int p1), (2, .int x2)] [] al := tX4_beginRows_49 X p1 hR (fun _ _ h => h) x2 al h
theorem uX4_beginRows_2 {G : zG} {Z : zC}  {ad ln : Nat → Nat} (X : zX G Z cX4_beginRows 4 RX4 wsX4_beginRows) (p1 : Int32) {post : (Nat → Nat → Int32) → Prop} (hR : zRv G Z rmX4_beginRows 4 (zTC true) ad ln cX4_beginRows post) (x2 : Int32) (al : Nat → Nat → Int32) (h : vcX4_beginRows_2 G  ad ln p1 (BX4_beginRows_2 G Z  ad ln p1) post x2 al) : zB G Z rmX4_beginRows 4 (zTC true) ad ln 0 0 2 [(0, .ref (ad 173)), (1, .int p1), (2, .int x2)] [] al := tX4_beginRows_2 X p1 hR (fun _ _ h => h) x2 al h

abbrev rmX4_bringSets : Room := { frames := 3, cells := 0, slots := 0, locals := 67 }
theorem kX4_bringSets_0 : Cond.fieldLink RX4 24 RX4 "loop" "LLoopForge$Loop;" ∈ wsX4_bringSets := by decide +kernel
theorem kX4_bringSets_1 : zIn RX4 TX4 10 wsX4_bringSets := by decide +kernel
theorem kX4_bringSets_2 : Cond.fieldLink RX4 51 RX0 "size" "I" ∈ wsX4_bringSets := by decide +kernel
theorem kX4_bringSets_3 : zIn RX0 TX0 3 wsX4_bringSets := by decide +kernel
theorem kX4_bringSets_4 : Cond.fieldLink RX4 57 RX0 "rows" "[LLoopForge$Row;" ∈ wsX4_bringSets := by decide +kernel
theorem kX4_bringSets_5 : Cond.fieldLink RX4 94 RX3 "kind" "I" ∈ wsX4_bringSets := by decide +kernel
theorem kX4_bringSets_6 : zIn RX3 TX3 9 wsX4_bringSets := by decide +kernel
theorem kX4_bringSets_7 : Cond.fieldLink RX4 28 RX4 "table" "LLoopForge$Table;" ∈ wsX4_bringSets := by decide +kernel
theorem kX4_bringSets_8 : Cond.fieldLink RX4 127 RX7 "cycle" "[I" ∈ wsX4_bringSets := by decide +kernel
theorem kX4_bringSets_9 : zIn RX7 TX7 9 wsX4_bringSets := by decide +kernel
theorem kX4_bringSets_10 : Cond.fieldLink RX4 36 RX4 "settings" "[I" ∈ wsX4_bringSets := by decide +kernel
theorem kX4_bringSets_11 : Cond.fieldLink RX4 9 RX4 "cells" "[I" ∈ wsX4_bringSets := by decide +kernel
theorem kX4_bringSets_12 : Cond.fieldLink RX4 18 RX4 "given" "[I" ∈ wsX4_bringSets := by decide +kernel
abbrev BX4_bringSets_2 (G : zG) (Z : zC)  (ad ln : Nat → Nat) (p1 : Int32) (x2 : Int32) (al : Nat → Nat → Int32) : Prop := zB G Z rmX4_bringSets 5 (zTC true) ad ln 0 0 2 [(0, .ref (ad 173)), (1, .int p1), (2, .int x2)] [] al
def vcX4_bringSets_0 (G : zG)  (ad ln : Nat → Nat) (p1 : Int32) (K2 : Int32 → (Nat → Nat → Int32) → Prop) (post : (Nat → Nat → Int32) → Prop) (al : Nat → Nat → Int32) : Prop :=
  K2 (0 : Int32) al
def vcX4_bringSets_85 (G : zG)  (ad ln : Nat → Nat) (p1 : Int32) (K2 : Int32 → (Nat → Nat → Int32) → Prop) (post : (Nat → Nat → Int32) → Prop) (x2 : Int32) (al : Nat → Nat → Int32) : Prop :=
  K2 (x2 + (1 : Int32)) al
def vcX4_bringSets_2 (G : zG)  (ad ln : Nat → Nat) (p1 : Int32) (K2 : Int32 → (Nat → Nat → Int32) → Prop) (post : (Nat → Nat → Int32) → Prop) (x2 : Int32) (al : Nat → Nat → Int32) : Prop :=
  ((al 4 1) ≤ x2 → post al) ∧ (¬ (al 4 1) ≤ x2 → (vp_in x2 48 ∧ (¬ (al (29 + 3 * x2.toNatClampNeg) 0) = (3 : Int32) → vcX4_bringSets_85 G  ad ln p1 K2 post x2 al) ∧ ((al (29 + 3 * x2.toNatClampNeg) 0) = (3 : Int32) → (vp_in x2 48 ∧ vp_in (3 : Int32) 9 ∧ zMi G yX4_roundAt wsX4_roundAt rmX4_roundAt (zTC true) ad ln [.ref (ad 173), .int p1, .int (((al 19 x2.toNatClampNeg) + (al 2 3)) - (1 : Int32))] al (fun q4 a4 => (q4 < 0 → vcX4_bringSets_85 G  ad ln p1 K2 post x2 a4) ∧ (¬ q4 < 0 → zMi G yX4_cellOf wsX4_cellOf rmX4_cellOf (zTC true) ad ln [.ref (ad 173), .ref (ad (29 + 3 * x2.toNatClampNeg)), .int q4] a4 (fun q6 a6 => (vp_in ((x2 * (64 : Int32)) + q4) 3072 ∧ vp_in q6 4096 ∧ vcX4_bringSets_85 G  ad ln p1 K2 post x2 (up2 a6 174 q6.toNatClampNeg (a6 176 (((x2 * (64 : Int32)) + q4).toNatClampNeg)))))))))))
set_option maxRecDepth 20000 in
theorem tX4_bringSets_0 {G : zG} {Z : zC}  {ad ln : Nat → Nat} (X : zX G Z cX4_bringSets 5 RX4 wsX4_bringSets) (p1 : Int32) {K2 : Int32 → (Nat → Nat → Int32) → Prop} {post : (Nat → Nat → Int32) → Prop} (hR : zRv G Z rmX4_bringSets 5 (zTC true) ad ln cX4_bringSets post) (hK2 : ∀ x2 : Int32, ∀ al, K2 x2 al → zB G Z rmX4_bringSets 5 (zTC true) ad ln 0 0 2 [(0, .ref (ad 173)), (1, .int p1), (2, .int x2)] [] al) (al : Nat → Nat → Int32) (h : vcX4_bringSets_0 G  ad ln p1 K2 post  al) : zB G Z rmX4_bringSets 5 (zTC true) ad ln 0 0 0 [(0, .ref (ad 173)), (1, .int p1)] [] al := by
  unfold vcX4_bringSets_0 at h
  refine zb_iconst X (0 : Int32) dX4_bringSets_0 (by decide) ?_
  refine zb_istore_n X (lv' := [(2, .int (0 : Int32)), (0, .ref (ad 173)), (1, .int p1)]) dX4_bringSets_1 rfl (by decide) rfl ?_
  refine zb_sub [1, 2, 0] rfl ?_
  exact hK2 (0 : Int32) al h
set_option maxRecDepth 20000 in
theorem tX4_bringSets_85 {G : zG} {Z : zC}  {ad ln : Nat → Nat} (X : zX G Z cX4_bringSets 5 RX4 wsX4_bringSets) (p1 : Int32) {K2 : Int32 → (Nat → Nat → Int32) → Prop} {post : (Nat → Nat → Int32) → Prop} (hR : zRv G Z rmX4_bringSets 5 (zTC true) ad ln cX4_bringSets post) (hK2 : ∀ x2 : Int32, ∀ al, K2 x2 al → zB G Z rmX4_bringSets 5 (zTC true) ad ln 0 0 2 [(0, .ref (ad 173)), (1, .int p1), (2, .int x2)] [] al) (x2 : Int32) (al : Nat → Nat → Int32) (h : vcX4_bringSets_85 G  ad ln p1 K2 post x2 al) : zB G Z rmX4_bringSets 5 (zTC true) ad ln 0 0 85 [(0, .ref (ad 173)), (1, .int p1), (2, .int x2)] [] al := by
  unfold vcX4_bringSets_85 at h
  refine zb_iinc X (lv' := [(2, .int (x2 + (1 : Int32))), (0, .ref (ad 173)), (1, .int p1)]) (x2 + (1 : Int32)) dX4_bringSets_85 2 rfl rfl (by decide) rfl ?_
  refine zb_goto X 2 dX4_bringSets_88 (by decide) ?_
  refine zb_sub [1, 2, 0] rfl ?_
  exact hK2 (x2 + (1 : Int32)) al h
set_option maxRecDepth 20000 in
theorem tX4_bringSets_2 {G : zG} {Z : zC}  {ad ln : Nat → Nat} (X : zX G Z cX4_bringSets 5 RX4 wsX4_bringSets) (p1 : Int32) {K2 : Int32 → (Nat → Nat → Int32) → Prop} {post : (Nat → Nat → Int32) → Prop} (hR : zRv G Z rmX4_bringSets 5 (zTC true) ad ln cX4_bringSets post) (hK2 : ∀ x2 : Int32, ∀ al, K2 x2 al → zB G Z rmX4_bringSets 5 (zTC true) ad ln 0 0 2 [(0, .ref (ad 173)), (1, .int p1), (2, .int x2)] [] al) (x2 : Int32) (al : Nat → Nat → Int32) (h : vcX4_bringSets_2 G  ad ln p1 K2 post x2 al) : zB G Z rmX4_bringSets 5 (zTC true) ad ln 0 0 2 [(0, .ref (ad 173)), (1, .int p1), (2, .int x2)] [] al := by
  unfold vcX4_bringSets_2 at h
  refine zb_iload_n X dX4_bringSets_2 rfl 2 rfl ?_
  refine zb_aload_n X dX4_bringSets_3 rfl 0 rfl ?_
  refine zb_getR X 173 (zTC_ltR (by decide)) 4 [6, 20, 24, 4, 5, 176, 177, 178, 179, 0] rfl (C := RX4) (Tt := TX4) (N := 10) rfl kX4_bringSets_1 0 (by decide) 4 rfl kX4_bringSets_0 rfl dX4_bringSets_4 ?_
  refine zb_getI X 4 (zTC_lt (by decide)) 0 [7, 0, 8] rfl (C := RX0) (Tt := TX0) (N := 3) rfl kX4_bringSets_3 1 (by decide) rfl kX4_bringSets_2 rfl dX4_bringSets_7 (al 4 1) rfl ?_
  refine zb_icmp_ge X 91 dX4_bringSets_10 (by decide) (fun c1 => ?_) (fun c1 => ?_)
  · have h := h.1 c1
    exact hR 91 _ _ dX4_bringSets_91 h
  · have h := h.2 c1
    refine zb_aload_n X dX4_bringSets_13 rfl 0 rfl ?_
    refine zb_getR X 173 (zTC_ltR (by decide)) 4 [6, 20, 24, 4, 5, 176, 177, 178, 179, 0] rfl (C := RX4) (Tt := TX4) (N := 10) rfl kX4_bringSets_1 0 (by decide) 4 rfl kX4_bringSets_0 rfl dX4_bringSets_14 ?_
    refine zb_getR X 4 (zTC_lt (by decide)) 0 [7, 0, 8] rfl (C := RX0) (Tt := TX0) (N := 3) rfl kX4_bringSets_3 0 (by decide) 5 rfl kX4_bringSets_4 rfl dX4_bringSets_17 ?_
    refine zb_iload_n X dX4_bringSets_20 rfl 2 rfl ?_
    obtain ⟨hq2, h⟩ := h
    refine zb_rald X 5 (zTC_lt (by decide)) 48 29 3 rfl hq2 dX4_bringSets_21 ?_
    refine zb_astore_n X (lv' := [(3, .ref (ad (29 + 3 * x2.toNatClampNeg))), (0, .ref (ad 173)), (1, .int p1), (2, .int x2)]) dX4_bringSets_22 rfl (by decide) rfl ?_
    refine zb_aload_n X dX4_bringSets_23 rfl 0 rfl ?_
    refine zb_getI X (29 + 3 * x2.toNatClampNeg) (zTC_lt (zrow_lt (zvp_lt hq2))) 3 [0, 0, 0, 0, 0, 0, 0, (30 + 3 * x2.toNatClampNeg) + 2, (31 + 3 * x2.toNatClampNeg) + 2] (zTC_row true (zvp_lt hq2)) (C := RX3) (Tt := TX3) (N := 9) rfl kX4_bringSets_6 0 (by decide) rfl kX4_bringSets_5 rfl dX4_bringSets_24 (al (29 + 3 * x2.toNatClampNeg) 0) rfl ?_
    refine zb_iconst X (3 : Int32) dX4_bringSets_27 (by decide) ?_
    refine zb_icmp_ne X 85 dX4_bringSets_28 (by decide) (fun c3 => ?_) (fun c3 => ?_)
    · have h := h.1 c3
      refine zb_sub [1, 2, 3] rfl ?_
      exact tX4_bringSets_85 X p1 hR hK2 x2 al h
    · have h := h.2 c3
      refine zb_aload_n X dX4_bringSets_31 rfl 1 rfl ?_
      refine zb_iload_n X dX4_bringSets_32 rfl 2 rfl ?_
      refine zb_aload_n X dX4_bringSets_33 rfl 1 rfl ?_
      refine zb_getR X 173 (zTC_ltR (by decide)) 4 [6, 20, 24, 4, 5, 176, 177, 178, 179, 0] rfl (C := RX4) (Tt := TX4) (N := 10) rfl kX4_bringSets_1 1 (by decide) 18 rfl kX4_bringSets_7 rfl dX4_bringSets_34 ?_
      refine zb_getR X 18 (zTC_lt (by decide)) 7 [6, 14, 4, 21, 22, 23, 0, 0, 0] rfl (C := RX7) (Tt := TX7) (N := 9) rfl kX4_bringSets_9 3 (by decide) 19 rfl kX4_bringSets_8 rfl dX4_bringSets_37 ?_
      refine zb_iload_n X dX4_bringSets_40 rfl 3 rfl ?_
      obtain ⟨hz, h⟩ := h
      refine zb_iald X 19 (zTC_lt (by decide)) 1 48 0 0 rfl (Or.inl rfl) x2.toNatClampNeg rfl hz dX4_bringSets_41 (al 19 x2.toNatClampNeg) rfl ?_
      refine zb_aload_n X dX4_bringSets_42 rfl 1 rfl ?_
      refine zb_getR X 173 (zTC_ltR (by decide)) 4 [6, 20, 24, 4, 5, 176, 177, 178, 179, 0] rfl (C := RX4) (Tt := TX4) (N := 10) rfl kX4_bringSets_1 3 (by decide) 2 rfl kX4_bringSets_10 rfl dX4_bringSets_43 ?_
      refine zb_iconst X (3 : Int32) dX4_bringSets_46 (by decide) ?_
      obtain ⟨hz, h⟩ := h
      refine zb_iald X 2 (zTC_lt (by decide)) 1 9 0 0 rfl (Or.inl rfl) 3 rfl hz dX4_bringSets_47 (al 2 3) rfl ?_
      refine zb_iadd X dX4_bringSets_48 ?_
      refine zb_iconst X (1 : Int32) dX4_bringSets_49 (by decide) ?_
      refine zb_isub X dX4_bringSets_50 ?_
      refine zb_callVi (n := 2) X 173 (zTC_ltR (by decide)) 4 [6, 20, 24, 4, 5, 176, 177, 178, 179, 0] rfl (C := RX4) (Tt := TX4) (N := 10) rfl h gX4_bringSets_X4_roundAt rfl (by decide +kernel) (by decide) rfl rfl (Nat.le_of_ble_eq_true rfl) dX4_bringSets_51 (kc' := 0) (ks' := 0) rfl rfl (fun q4 a4 h => ?_)
      refine zb_istore X (lv' := [(4, .int q4), (3, .ref (ad (29 + 3 * x2.toNatClampNeg))), (0, .ref (ad 173)), (1, .int p1), (2, .int x2)]) dX4_bringSets_54 (by decide) rfl ?_
      refine zb_iload X dX4_bringSets_56 0 rfl ?_
      refine zb_if_lt X 85 dX4_bringSets_58 (by decide) (fun c5 => ?_) (fun c5 => ?_)
      · have h := h.1 c5
        refine zb_sub [2, 3, 4] rfl ?_
        exact tX4_bringSets_85 X p1 hR hK2 x2 a4 h
      · have h := h.2 c5
        refine zb_aload_n X dX4_bringSets_61 rfl 2 rfl ?_
        refine zb_getR X 173 (zTC_ltR (by decide)) 4 [6, 20, 24, 4, 5, 176, 177, 178, 179, 0] rfl (C := RX4) (Tt := TX4) (N := 10) rfl kX4_bringSets_1 5 (by decide) 174 rfl kX4_bringSets_11 rfl dX4_bringSets_62 ?_
        refine zb_aload_n X dX4_bringSets_65 rfl 2 rfl ?_
        refine zb_aload_n X dX4_bringSets_66 rfl 1 rfl ?_
        refine zb_iload X dX4_bringSets_67 0 rfl ?_
        refine zb_callVi (n := 2) X 173 (zTC_ltR (by decide)) 4 [6, 20, 24, 4, 5, 176, 177, 178, 179, 0] rfl (C := RX4) (Tt := TX4) (N := 10) rfl h gX4_bringSets_X4_cellOf rfl (by decide +kernel) (by decide) rfl rfl (Nat.le_of_ble_eq_true rfl) dX4_bringSets_69 (kc' := 0) (ks' := 0) rfl rfl (fun q6 a6 h => ?_)
        refine zb_aload_n X dX4_bringSets_72 rfl 2 rfl ?_
        refine zb_getR X 173 (zTC_ltR (by decide)) 4 [6, 20, 24, 4, 5, 176, 177, 178, 179, 0] rfl (C := RX4) (Tt := TX4) (N := 10) rfl kX4_bringSets_1 7 (by decide) 176 rfl kX4_bringSets_12 rfl dX4_bringSets_73 ?_
        refine zb_iload_n X dX4_bringSets_76 rfl 4 rfl ?_
        refine zb_bipush X (64 : Int32) dX4_bringSets_77 (by decide) ?_
        refine zb_imul X dX4_bringSets_79 ?_
        refine zb_iload X dX4_bringSets_80 0 rfl ?_
        refine zb_iadd X dX4_bringSets_82 ?_
        obtain ⟨hz, h⟩ := h
        refine zb_iald X 176 (zTC_ltR (by decide)) 1 3072 0 0 rfl (Or.inl rfl) (((x2 * (64 : Int32)) + q4).toNatClampNeg) rfl hz dX4_bringSets_83 (a6 176 (((x2 * (64 : Int32)) + q4).toNatClampNeg)) rfl ?_
        obtain ⟨hz, h⟩ := h
        refine zb_iast X 174 (zTC_ltR (by decide)) 1 4096 0 0 rfl (Or.inl rfl) q6.toNatClampNeg rfl hz dX4_bringSets_84 ?_
        refine zb_sub [2, 3, 4] rfl ?_
        exact tX4_bringSets_85 X p1 hR hK2 x2 (up2 a6 174 q6.toNatClampNeg (a6 176 (((x2 * (64 : Int32)) + q4).toNatClampNeg))) h
theorem uX4_bringSets_0 {G : zG} {Z : zC}  {ad ln : Nat → Nat} (X : zX G Z cX4_bringSets 5 RX4 wsX4_bringSets) (p1 : Int32) {post : (Nat → Nat → Int32) → Prop} (hR : zRv G Z rmX4_bringSets 5 (zTC true) ad ln cX4_bringSets post) (al : Nat → Nat → Int32) (h : vcX4_bringSets_0 G  ad ln p1 (BX4_bringSets_2 G Z  ad ln p1) post  al) : zB G Z rmX4_bringSets 5 (zTC true) ad ln 0 0 0 [(0, .ref (ad 173)), (1, .int p1)] [] al := tX4_bringSets_0 X p1 hR (fun _ _ h => h)  al h
theorem uX4_bringSets_85 {G : zG} {Z : zC}  {ad ln : Nat → Nat} (X : zX G Z cX4_bringSets 5 RX4 wsX4_bringSets) (p1 : Int32) {post : (Nat → Nat → Int32) → Prop} (hR : zRv G Z rmX4_bringSets 5 (zTC true) ad ln cX4_bringSets post) (x2 : Int32) (al : Nat → Nat → Int32) (h : vcX4_bringSets_85 G  ad ln p1 (BX4_bringSets_2 G Z  ad ln p1) post x2 al) : zB G Z rmX4_bringSets 5 (zTC true) ad ln 0 0 85 [(0, .ref (ad 173)), (1, .int p1), (2, .int x2)] [] al := tX4_bringSets_85 X p1 hR (fun _ _ h => h) x2 al h
theorem uX4_bringSets_2 {G : zG} {Z : zC}  {ad ln : Nat → Nat} (X : zX G Z cX4_bringSets 5 RX4 wsX4_bringSets) (p1 : Int32) {post : (Nat → Nat → Int32) → Prop} (hR : zRv G Z rmX4_bringSets 5 (zTC true) ad ln cX4_bringSets post) (x2 : Int32) (al : Nat → Nat → Int32) (h : vcX4_bringSets_2 G  ad ln p1 (BX4_bringSets_2 G Z  ad ln p1) post x2 al) : zB G Z rmX4_bringSets 5 (zTC true) ad ln 0 0 2 [(0, .ref (ad 173)), (1, .int p1), (2, .int x2)] [] al := tX4_bringSets_2 X p1 hR (fun _ _ h => h) x2 al h

abbrev rmX4_keepLast : Room := { frames := 0, cells := 0, slots := 0, locals := 0 }
theorem kX4_keepLast_0 : Cond.fieldLink RX4 36 RX4 "settings" "[I" ∈ wsX4_keepLast := by decide +kernel
theorem kX4_keepLast_1 : zIn RX4 TX4 10 wsX4_keepLast := by decide +kernel
theorem kX4_keepLast_2 : Cond.fieldLink RX4 24 RX4 "loop" "LLoopForge$Loop;" ∈ wsX4_keepLast := by decide +kernel
theorem kX4_keepLast_3 : Cond.fieldLink RX4 169 RX0 "setter" "[I" ∈ wsX4_keepLast := by decide +kernel
theorem kX4_keepLast_4 : zIn RX0 TX0 3 wsX4_keepLast := by decide +kernel
theorem kX4_keepLast_5 : Cond.fieldLink RX4 15 RX4 "registers" "[I" ∈ wsX4_keepLast := by decide +kernel
theorem kX4_keepLast_6 : Cond.fieldLink RX4 18 RX4 "given" "[I" ∈ wsX4_keepLast := by decide +kernel
theorem kX4_keepLast_7 : Cond.fieldLink RX4 39 RX4 "begins" "[I" ∈ wsX4_keepLast := by decide +kernel
abbrev BX4_keepLast_12 (G : zG) (Z : zC)  (ad ln : Nat → Nat) (x1 x2 : Int32) (al : Nat → Nat → Int32) : Prop := zB G Z rmX4_keepLast 4 (zTC true) ad ln 0 0 12 [(0, .ref (ad 173)), (1, .int x1), (2, .int x2)] [] al
def vcX4_keepLast_0 (G : zG)  (ad ln : Nat → Nat) (K12 : Int32 → Int32 → (Nat → Nat → Int32) → Prop) (post : (Nat → Nat → Int32) → Prop) (al : Nat → Nat → Int32) : Prop :=
  (vp_in (8 : Int32) 9 ∧ K12 ((al 2 8) - (1 : Int32)) (0 : Int32) al)
def vcX4_keepLast_57 (G : zG)  (ad ln : Nat → Nat) (K12 : Int32 → Int32 → (Nat → Nat → Int32) → Prop) (post : (Nat → Nat → Int32) → Prop) (x1 x2 s0 s1 : Int32) (al : Nat → Nat → Int32) : Prop :=
  (vp_in s1 32 ∧ K12 x1 (x2 + (1 : Int32)) (up2 al 175 s1.toNatClampNeg s0))
def vcX4_keepLast_12 (G : zG)  (ad ln : Nat → Nat) (K12 : Int32 → Int32 → (Nat → Nat → Int32) → Prop) (post : (Nat → Nat → Int32) → Prop) (x1 x2 : Int32) (al : Nat → Nat → Int32) : Prop :=
  ((32 : Int32) ≤ x2 → post al) ∧ (¬ (32 : Int32) ≤ x2 → (vp_in x2 32 ∧ (0 ≤ (al 6 x2.toNatClampNeg) → (vp_in (((al 6 x2.toNatClampNeg) * (64 : Int32)) + x1) 3072 ∧ vcX4_keepLast_57 G  ad ln K12 post x1 x2 (al 176 ((((al 6 x2.toNatClampNeg) * (64 : Int32)) + x1).toNatClampNeg)) x2 al)) ∧ (¬ 0 ≤ (al 6 x2.toNatClampNeg) → (vp_in x2 32 ∧ vcX4_keepLast_57 G  ad ln K12 post x1 x2 (al 3 x2.toNatClampNeg) x2 al))))
set_option maxRecDepth 20000 in
theorem tX4_keepLast_0 {G : zG} {Z : zC}  {ad ln : Nat → Nat} (X : zX G Z cX4_keepLast 4 RX4 wsX4_keepLast) {K12 : Int32 → Int32 → (Nat → Nat → Int32) → Prop} {post : (Nat → Nat → Int32) → Prop} (hR : zRv G Z rmX4_keepLast 4 (zTC true) ad ln cX4_keepLast post) (hK12 : ∀ x1 x2 : Int32, ∀ al, K12 x1 x2 al → zB G Z rmX4_keepLast 4 (zTC true) ad ln 0 0 12 [(0, .ref (ad 173)), (1, .int x1), (2, .int x2)] [] al) (al : Nat → Nat → Int32) (h : vcX4_keepLast_0 G  ad ln K12 post  al) : zB G Z rmX4_keepLast 4 (zTC true) ad ln 0 0 0 [(0, .ref (ad 173))] [] al := by
  unfold vcX4_keepLast_0 at h
  refine zb_aload_n X dX4_keepLast_0 rfl 0 rfl ?_
  refine zb_getR X 173 (zTC_ltR (by decide)) 4 [6, 20, 24, 4, 5, 176, 177, 178, 179, 0] rfl (C := RX4) (Tt := TX4) (N := 10) rfl kX4_keepLast_1 3 (by decide) 2 rfl kX4_keepLast_0 rfl dX4_keepLast_1 ?_
  refine zb_bipush X (8 : Int32) dX4_keepLast_4 (by decide) ?_
  obtain ⟨hz, h⟩ := h
  refine zb_iald X 2 (zTC_lt (by decide)) 1 9 0 0 rfl (Or.inl rfl) 8 rfl hz dX4_keepLast_6 (al 2 8) rfl ?_
  refine zb_iconst X (1 : Int32) dX4_keepLast_7 (by decide) ?_
  refine zb_isub X dX4_keepLast_8 ?_
  refine zb_istore_n X (lv' := [(1, .int ((al 2 8) - (1 : Int32))), (0, .ref (ad 173))]) dX4_keepLast_9 rfl (by decide) rfl ?_
  refine zb_iconst X (0 : Int32) dX4_keepLast_10 (by decide) ?_
  refine zb_istore_n X (lv' := [(2, .int (0 : Int32)), (1, .int ((al 2 8) - (1 : Int32))), (0, .ref (ad 173))]) dX4_keepLast_11 rfl (by decide) rfl ?_
  refine zb_sub [2, 1, 0] rfl ?_
  exact hK12 ((al 2 8) - (1 : Int32)) (0 : Int32) al h
set_option maxRecDepth 20000 in
theorem tX4_keepLast_57 {G : zG} {Z : zC}  {ad ln : Nat → Nat} (X : zX G Z cX4_keepLast 4 RX4 wsX4_keepLast) {K12 : Int32 → Int32 → (Nat → Nat → Int32) → Prop} {post : (Nat → Nat → Int32) → Prop} (hR : zRv G Z rmX4_keepLast 4 (zTC true) ad ln cX4_keepLast post) (hK12 : ∀ x1 x2 : Int32, ∀ al, K12 x1 x2 al → zB G Z rmX4_keepLast 4 (zTC true) ad ln 0 0 12 [(0, .ref (ad 173)), (1, .int x1), (2, .int x2)] [] al) (x1 x2 s0 s1 : Int32) (al : Nat → Nat → Int32) (h : vcX4_keepLast_57 G  ad ln K12 post x1 x2 s0 s1 al) : zB G Z rmX4_keepLast 4 (zTC true) ad ln 0 0 57 [(0, .ref (ad 173)), (1, .int x1), (2, .int x2)] [.int s0, .int s1, .ref (ad 175)] al := by
  unfold vcX4_keepLast_57 at h
  obtain ⟨hz, h⟩ := h
  refine zb_iast X 175 (zTC_ltR (by decide)) 1 32 0 0 rfl (Or.inl rfl) s1.toNatClampNeg rfl hz dX4_keepLast_57 ?_
  refine zb_iinc X (lv' := [(2, .int (x2 + (1 : Int32))), (0, .ref (ad 173)), (1, .int x1)]) (x2 + (1 : Int32)) dX4_keepLast_58 2 rfl rfl (by decide) rfl ?_
  refine zb_goto X 12 dX4_keepLast_61 (by decide) ?_
  refine zb_sub [1, 2, 0] rfl ?_
  exact hK12 x1 (x2 + (1 : Int32)) (up2 al 175 s1.toNatClampNeg s0) h
set_option maxRecDepth 20000 in
theorem tX4_keepLast_12 {G : zG} {Z : zC}  {ad ln : Nat → Nat} (X : zX G Z cX4_keepLast 4 RX4 wsX4_keepLast) {K12 : Int32 → Int32 → (Nat → Nat → Int32) → Prop} {post : (Nat → Nat → Int32) → Prop} (hR : zRv G Z rmX4_keepLast 4 (zTC true) ad ln cX4_keepLast post) (hK12 : ∀ x1 x2 : Int32, ∀ al, K12 x1 x2 al → zB G Z rmX4_keepLast 4 (zTC true) ad ln 0 0 12 [(0, .ref (ad 173)), (1, .int x1), (2, .int x2)] [] al) (x1 x2 : Int32) (al : Nat → Nat → Int32) (h : vcX4_keepLast_12 G  ad ln K12 post x1 x2 al) : zB G Z rmX4_keepLast 4 (zTC true) ad ln 0 0 12 [(0, .ref (ad 173)), (1, .int x1), (2, .int x2)] [] al := by
  unfold vcX4_keepLast_12 at h
  refine zb_iload_n X dX4_keepLast_12 rfl 2 rfl ?_
  refine zb_bipush X (32 : Int32) dX4_keepLast_13 (by decide) ?_
  refine zb_icmp_ge X 64 dX4_keepLast_15 (by decide) (fun c1 => ?_) (fun c1 => ?_)
  · have h := h.1 c1
    exact hR 64 _ _ dX4_keepLast_64 h
  · have h := h.2 c1
    refine zb_aload_n X dX4_keepLast_18 rfl 0 rfl ?_
    refine zb_getR X 173 (zTC_ltR (by decide)) 4 [6, 20, 24, 4, 5, 176, 177, 178, 179, 0] rfl (C := RX4) (Tt := TX4) (N := 10) rfl kX4_keepLast_1 0 (by decide) 4 rfl kX4_keepLast_2 rfl dX4_keepLast_19 ?_
    refine zb_getR X 4 (zTC_lt (by decide)) 0 [7, 0, 8] rfl (C := RX0) (Tt := TX0) (N := 3) rfl kX4_keepLast_4 2 (by decide) 6 rfl kX4_keepLast_3 rfl dX4_keepLast_22 ?_
    refine zb_iload_n X dX4_keepLast_25 rfl 2 rfl ?_
    obtain ⟨hz, h⟩ := h
    refine zb_iald X 6 (zTC_lt (by decide)) 1 32 0 0 rfl (Or.inl rfl) x2.toNatClampNeg rfl hz dX4_keepLast_26 (al 6 x2.toNatClampNeg) rfl ?_
    refine zb_istore_n X (lv' := [(3, .int (al 6 x2.toNatClampNeg)), (0, .ref (ad 173)), (1, .int x1), (2, .int x2)]) dX4_keepLast_27 rfl (by decide) rfl ?_
    refine zb_aload_n X dX4_keepLast_28 rfl 1 rfl ?_
    refine zb_getR X 173 (zTC_ltR (by decide)) 4 [6, 20, 24, 4, 5, 176, 177, 178, 179, 0] rfl (C := RX4) (Tt := TX4) (N := 10) rfl kX4_keepLast_1 6 (by decide) 175 rfl kX4_keepLast_5 rfl dX4_keepLast_29 ?_
    refine zb_iload_n X dX4_keepLast_32 rfl 3 rfl ?_
    refine zb_iload_n X dX4_keepLast_33 rfl 0 rfl ?_
    refine zb_if_ge X 46 dX4_keepLast_34 (by decide) (fun c2 => ?_) (fun c2 => ?_)
    · have h := h.1 c2
      refine zb_aload_n X dX4_keepLast_46 rfl 1 rfl ?_
      refine zb_getR X 173 (zTC_ltR (by decide)) 4 [6, 20, 24, 4, 5, 176, 177, 178, 179, 0] rfl (C := RX4) (Tt := TX4) (N := 10) rfl kX4_keepLast_1 7 (by decide) 176 rfl kX4_keepLast_6 rfl dX4_keepLast_47 ?_
      refine zb_iload_n X dX4_keepLast_50 rfl 0 rfl ?_
      refine zb_bipush X (64 : Int32) dX4_keepLast_51 (by decide) ?_
      refine zb_imul X dX4_keepLast_53 ?_
      refine zb_iload_n X dX4_keepLast_54 rfl 2 rfl ?_
      refine zb_iadd X dX4_keepLast_55 ?_
      obtain ⟨hz, h⟩ := h
      refine zb_iald X 176 (zTC_ltR (by decide)) 1 3072 0 0 rfl (Or.inl rfl) ((((al 6 x2.toNatClampNeg) * (64 : Int32)) + x1).toNatClampNeg) rfl hz dX4_keepLast_56 (al 176 ((((al 6 x2.toNatClampNeg) * (64 : Int32)) + x1).toNatClampNeg)) rfl ?_
      refine zb_sub [1, 2, 3] rfl ?_
      exact tX4_keepLast_57 X hR hK12 x1 x2 (al 176 ((((al 6 x2.toNatClampNeg) * (64 : Int32)) + x1).toNatClampNeg)) x2 al h
    · have h := h.2 c2
      refine zb_aload_n X dX4_keepLast_37 rfl 1 rfl ?_
      refine zb_getR X 173 (zTC_ltR (by decide)) 4 [6, 20, 24, 4, 5, 176, 177, 178, 179, 0] rfl (C := RX4) (Tt := TX4) (N := 10) rfl kX4_keepLast_1 4 (by decide) 3 rfl kX4_keepLast_7 rfl dX4_keepLast_38 ?_
      refine zb_iload_n X dX4_keepLast_41 rfl 3 rfl ?_
      obtain ⟨hz, h⟩ := h
      refine zb_iald X 3 (zTC_lt (by decide)) 1 32 0 0 rfl (Or.inl rfl) x2.toNatClampNeg rfl hz dX4_keepLast_42 (al 3 x2.toNatClampNeg) rfl ?_
      refine zb_goto X 57 dX4_keepLast_43 (by decide) ?_
      refine zb_sub [1, 2, 3] rfl ?_
      exact tX4_keepLast_57 X hR hK12 x1 x2 (al 3 x2.toNatClampNeg) x2 al h
theorem uX4_keepLast_0 {G : zG} {Z : zC}  {ad ln : Nat → Nat} (X : zX G Z cX4_keepLast 4 RX4 wsX4_keepLast) {post : (Nat → Nat → Int32) → Prop} (hR : zRv G Z rmX4_keepLast 4 (zTC true) ad ln cX4_keepLast post) (al : Nat → Nat → Int32) (h : vcX4_keepLast_0 G  ad ln (BX4_keepLast_12 G Z  ad ln) post  al) : zB G Z rmX4_keepLast 4 (zTC true) ad ln 0 0 0 [(0, .ref (ad 173))] [] al := tX4_keepLast_0 X hR (fun _ _ _ h => h)  al h
theorem uX4_keepLast_57 {G : zG} {Z : zC}  {ad ln : Nat → Nat} (X : zX G Z cX4_keepLast 4 RX4 wsX4_keepLast) {post : (Nat → Nat → Int32) → Prop} (hR : zRv G Z rmX4_keepLast 4 (zTC true) ad ln cX4_keepLast post) (x1 x2 s0 s1 : Int32) (al : Nat → Nat → Int32) (h : vcX4_keepLast_57 G  ad ln (BX4_keepLast_12 G Z  ad ln) post x1 x2 s0 s1 al) : zB G Z rmX4_keepLast 4 (zTC true) ad ln 0 0 57 [(0, .ref (ad 173)), (1, .int x1), (2, .int x2)] [.int s0, .int s1, .ref (ad 175)] al := tX4_keepLast_57 X hR (fun _ _ _ h => h) x1 x2 s0 s1 al h
theorem uX4_keepLast_12 {G : zG} {Z : zC}  {ad ln : Nat → Nat} (X : zX G Z cX4_keepLast 4 RX4 wsX4_keepLast) {post : (Nat → Nat → Int32) → Prop} (hR : zRv G Z rmX4_keepLast 4 (zTC true) ad ln cX4_keepLast post) (x1 x2 : Int32) (al : Nat → Nat → Int32) (h : vcX4_keepLast_12 G  ad ln (BX4_keepLast_12 G Z  ad ln) post x1 x2 al) : zB G Z rmX4_keepLast 4 (zTC true) ad ln 0 0 12 [(0, .ref (ad 173)), (1, .int x1), (2, .int x2)] [] al := tX4_keepLast_12 X hR (fun _ _ _ h => h) x1 x2 al h

abbrev rmX4_runLaid : Room := { frames := 5, cells := 0, slots := 0, locals := 115 }
theorem kX4_runLaid_0 : Cond.fieldLink RX4 65 RX4 "distance" "I" ∈ wsX4_runLaid := by decide +kernel
theorem kX4_runLaid_1 : zIn RX4 TX4 10 wsX4_runLaid := by decide +kernel
abbrev BX4_runLaid_16 (G : zG) (Z : zC)  (ad ln : Nat → Nat) (p1 : Int32) (x2 x3 : Int32) (al : Nat → Nat → Int32) : Prop := zB G Z rmX4_runLaid 4 (zTC true) ad ln 0 0 16 [(0, .ref (ad 173)), (2, .int x2), (3, .int x3)] [] al
def vcX4_runLaid_0 (G : zG)  (ad ln : Nat → Nat) (p1 : Int32) (K16 : Int32 → Int32 → (Nat → Nat → Int32) → Prop) (post : Int32 → (Nat → Nat → Int32) → Prop) (al : Nat → Nat → Int32) : Prop :=
  zMv G yX4_fillCells wsX4_fillCells rmX4_fillCells (zTC true) ad ln [.ref (ad 173)] (up2 al 173 9 p1) (fun a1 => zMi G yX4_lastCycle wsX4_lastCycle rmX4_lastCycle (zTC true) ad ln [.ref (ad 173)] a1 (fun q2 a2 => K16 q2 (0 : Int32) a2))
def vcX4_runLaid_16 (G : zG)  (ad ln : Nat → Nat) (p1 : Int32) (K16 : Int32 → Int32 → (Nat → Nat → Int32) → Prop) (post : Int32 → (Nat → Nat → Int32) → Prop) (x2 x3 : Int32) (al : Nat → Nat → Int32) : Prop :=
  (x2 < x3 → zMv G yX4_keepLast wsX4_keepLast rmX4_keepLast (zTC true) ad ln [.ref (ad 173)] al (fun a2 => post x2 a2)) ∧ (¬ x2 < x3 → zMv G yX4_bringValues wsX4_bringValues rmX4_bringValues (zTC true) ad ln [.ref (ad 173), .int x3] al (fun a2 => zMv G yX4_beginRows wsX4_beginRows rmX4_beginRows (zTC true) ad ln [.ref (ad 173), .int x3] a2 (fun a3 => zMv G yX4_bringSets wsX4_bringSets rmX4_bringSets (zTC true) ad ln [.ref (ad 173), .int x3] a3 (fun a4 => K16 x2 (x3 + (1 : Int32)) a4))))
set_option maxRecDepth 20000 in
theorem tX4_runLaid_0 {G : zG} {Z : zC}  {ad ln : Nat → Nat} (X : zX G Z cX4_runLaid 4 RX4 wsX4_runLaid) (p1 : Int32) {K16 : Int32 → Int32 → (Nat → Nat → Int32) → Prop} {post : Int32 → (Nat → Nat → Int32) → Prop} (hR : zRi G Z rmX4_runLaid 4 (zTC true) ad ln cX4_runLaid .int post) (hK16 : ∀ x2 x3 : Int32, ∀ al, K16 x2 x3 al → zB G Z rmX4_runLaid 4 (zTC true) ad ln 0 0 16 [(0, .ref (ad 173)), (2, .int x2), (3, .int x3)] [] al) (al : Nat → Nat → Int32) (h : vcX4_runLaid_0 G  ad ln p1 K16 post  al) : zB G Z rmX4_runLaid 4 (zTC true) ad ln 0 0 0 [(0, .ref (ad 173)), (1, .int p1)] [] al := by
  unfold vcX4_runLaid_0 at h
  refine zb_aload_n X dX4_runLaid_0 rfl 0 rfl ?_
  refine zb_iload_n X dX4_runLaid_1 rfl 1 rfl ?_
  refine zb_putI X 173 (zTC_ltR (by decide)) 4 [6, 20, 24, 4, 5, 176, 177, 178, 179, 0] rfl (C := RX4) (Tt := TX4) (N := 10) rfl kX4_runLaid_1 tyX4 tyX4_ok nmX4 9 (by decide) rfl kX4_runLaid_0 rfl rfl rfl rfl dX4_runLaid_2 ?_
  refine zb_aload_n X dX4_runLaid_5 rfl 0 rfl ?_
  refine zb_callVv (n := 0) X 173 (zTC_ltR (by decide)) 4 [6, 20, 24, 4, 5, 176, 177, 178, 179, 0] rfl (C := RX4) (Tt := TX4) (N := 10) rfl h gX4_runLaid_X4_fillCells rfl (by decide +kernel) (by decide) rfl rfl (Nat.le_of_ble_eq_true rfl) dX4_runLaid_6 (kc' := 0) (ks' := 0) rfl rfl (fun a1 h => ?_)
  refine zb_aload_n X dX4_runLaid_9 rfl 0 rfl ?_
  refine zb_callVi (n := 0) X 173 (zTC_ltR (by decide)) 4 [6, 20, 24, 4, 5, 176, 177, 178, 179, 0] rfl (C := RX4) (Tt := TX4) (N := 10) rfl h gX4_runLaid_X4_lastCycle rfl (by decide +kernel) (by decide) rfl rfl (Nat.le_of_ble_eq_true rfl) dX4_runLaid_10 (kc' := 0) (ks' := 0) rfl rfl (fun q2 a2 h => ?_)
  refine zb_istore_n X (lv' := [(2, .int q2), (0, .ref (ad 173)), (1, .int p1)]) dX4_runLaid_13 rfl (by decide) rfl ?_
  refine zb_iconst X (0 : Int32) dX4_runLaid_14 (by decide) ?_
  refine zb_istore_n X (lv' := [(3, .int (0 : Int32)), (2, .int q2), (0, .ref (ad 173)), (1, .int p1)]) dX4_runLaid_15 rfl (by decide) rfl ?_
  refine zb_sub [2, 1, 0] rfl ?_
  exact hK16 q2 (0 : Int32) a2 h
set_option maxRecDepth 20000 in
theorem tX4_runLaid_16 {G : zG} {Z : zC}  {ad ln : Nat → Nat} (X : zX G Z cX4_runLaid 4 RX4 wsX4_runLaid) (p1 : Int32) {K16 : Int32 → Int32 → (Nat → Nat → Int32) → Prop} {post : Int32 → (Nat → Nat → Int32) → Prop} (hR : zRi G Z rmX4_runLaid 4 (zTC true) ad ln cX4_runLaid .int post) (hK16 : ∀ x2 x3 : Int32, ∀ al, K16 x2 x3 al → zB G Z rmX4_runLaid 4 (zTC true) ad ln 0 0 16 [(0, .ref (ad 173)), (2, .int x2), (3, .int x3)] [] al) (x2 x3 : Int32) (al : Nat → Nat → Int32) (h : vcX4_runLaid_16 G  ad ln p1 K16 post x2 x3 al) : zB G Z rmX4_runLaid 4 (zTC true) ad ln 0 0 16 [(0, .ref (ad 173)), (2, .int x2), (3, .int x3)] [] al := by
  unfold vcX4_runLaid_16 at h
  refine zb_iload_n X dX4_runLaid_16 rfl 2 rfl ?_
  refine zb_iload_n X dX4_runLaid_17 rfl 1 rfl ?_
  refine zb_icmp_gt X 42 dX4_runLaid_18 (by decide) (fun c1 => ?_) (fun c1 => ?_)
  · have h := h.1 c1
    refine zb_aload_n X dX4_runLaid_42 rfl 0 rfl ?_
    refine zb_callVv (n := 0) X 173 (zTC_ltR (by decide)) 4 [6, 20, 24, 4, 5, 176, 177, 178, 179, 0] rfl (C := RX4) (Tt := TX4) (N := 10) rfl h gX4_runLaid_X4_keepLast rfl (by decide +kernel) (by decide) rfl rfl (Nat.le_of_ble_eq_true rfl) dX4_runLaid_43 (kc' := 0) (ks' := 0) rfl rfl (fun a2 h => ?_)
    refine zb_iload_n X dX4_runLaid_46 rfl 1 rfl ?_
    exact hR 47 _ _ _ dX4_runLaid_47 rfl h
  · have h := h.2 c1
    refine zb_aload_n X dX4_runLaid_21 rfl 0 rfl ?_
    refine zb_iload_n X dX4_runLaid_22 rfl 2 rfl ?_
    refine zb_callVv (n := 1) X 173 (zTC_ltR (by decide)) 4 [6, 20, 24, 4, 5, 176, 177, 178, 179, 0] rfl (C := RX4) (Tt := TX4) (N := 10) rfl h gX4_runLaid_X4_bringValues rfl (by decide +kernel) (by decide) rfl rfl (Nat.le_of_ble_eq_true rfl) dX4_runLaid_23 (kc' := 0) (ks' := 0) rfl rfl (fun a2 h => ?_)
    refine zb_aload_n X dX4_runLaid_26 rfl 0 rfl ?_
    refine zb_iload_n X dX4_runLaid_27 rfl 2 rfl ?_
    refine zb_callVv (n := 1) X 173 (zTC_ltR (by decide)) 4 [6, 20, 24, 4, 5, 176, 177, 178, 179, 0] rfl (C := RX4) (Tt := TX4) (N := 10) rfl h gX4_runLaid_X4_beginRows rfl (by decide +kernel) (by decide) rfl rfl (Nat.le_of_ble_eq_true rfl) dX4_runLaid_28 (kc' := 0) (ks' := 0) rfl rfl (fun a3 h => ?_)
    refine zb_aload_n X dX4_runLaid_31 rfl 0 rfl ?_
    refine zb_iload_n X dX4_runLaid_32 rfl 2 rfl ?_
    refine zb_callVv (n := 1) X 173 (zTC_ltR (by decide)) 4 [6, 20, 24, 4, 5, 176, 177, 178, 179, 0] rfl (C := RX4) (Tt := TX4) (N := 10) rfl h gX4_runLaid_X4_bringSets rfl (by decide +kernel) (by decide) rfl rfl (Nat.le_of_ble_eq_true rfl) dX4_runLaid_33 (kc' := 0) (ks' := 0) rfl rfl (fun a4 h => ?_)
    refine zb_iinc X (lv' := [(3, .int (x3 + (1 : Int32))), (0, .ref (ad 173)), (2, .int x2)]) (x3 + (1 : Int32)) dX4_runLaid_36 2 rfl rfl (by decide) rfl ?_
    refine zb_goto X 16 dX4_runLaid_39 (by decide) ?_
    refine zb_sub [1, 2, 0] rfl ?_
    exact hK16 x2 (x3 + (1 : Int32)) a4 h
theorem uX4_runLaid_0 {G : zG} {Z : zC}  {ad ln : Nat → Nat} (X : zX G Z cX4_runLaid 4 RX4 wsX4_runLaid) (p1 : Int32) {post : Int32 → (Nat → Nat → Int32) → Prop} (hR : zRi G Z rmX4_runLaid 4 (zTC true) ad ln cX4_runLaid .int post) (al : Nat → Nat → Int32) (h : vcX4_runLaid_0 G  ad ln p1 (BX4_runLaid_16 G Z  ad ln p1) post  al) : zB G Z rmX4_runLaid 4 (zTC true) ad ln 0 0 0 [(0, .ref (ad 173)), (1, .int p1)] [] al := tX4_runLaid_0 X p1 hR (fun _ _ _ h => h)  al h
theorem uX4_runLaid_16 {G : zG} {Z : zC}  {ad ln : Nat → Nat} (X : zX G Z cX4_runLaid 4 RX4 wsX4_runLaid) (p1 : Int32) {post : Int32 → (Nat → Nat → Int32) → Prop} (hR : zRi G Z rmX4_runLaid 4 (zTC true) ad ln cX4_runLaid .int post) (x2 x3 : Int32) (al : Nat → Nat → Int32) (h : vcX4_runLaid_16 G  ad ln p1 (BX4_runLaid_16 G Z  ad ln p1) post x2 x3 al) : zB G Z rmX4_runLaid 4 (zTC true) ad ln 0 0 16 [(0, .ref (ad 173)), (2, .int x2), (3, .int x3)] [] al := tX4_runLaid_16 X p1 hR (fun _ _ _ h => h) x2 x3 al h

abbrev rmX4_runWritten : Room := { frames := 3, cells := 0, slots := 0, locals := 66 }
theorem kX4_runWritten_0 : Cond.fieldLink RX4 39 RX4 "begins" "[I" ∈ wsX4_runWritten := by decide +kernel
theorem kX4_runWritten_1 : zIn RX4 TX4 10 wsX4_runWritten := by decide +kernel
theorem kX4_runWritten_2 : Cond.fieldLink RX4 15 RX4 "registers" "[I" ∈ wsX4_runWritten := by decide +kernel
theorem kX4_runWritten_3 : Cond.methodLink RX4 45 arraycopyName ∈ wsX4_runWritten := by decide +kernel
theorem kX4_runWritten_4 : Cond.native arraycopyName ∈ wsX4_runWritten := by decide +kernel
theorem kX4_runWritten_5 : Cond.static arraycopyName ∈ wsX4_runWritten := by decide +kernel
theorem kX4_runWritten_6 : Cond.initialized "java/lang/System" ∈ wsX4_runWritten := by decide +kernel
theorem kX4_runWritten_7 : Cond.fieldLink RX4 36 RX4 "settings" "[I" ∈ wsX4_runWritten := by decide +kernel
theorem kX4_runWritten_8 : Cond.fieldLink RX4 24 RX4 "loop" "LLoopForge$Loop;" ∈ wsX4_runWritten := by decide +kernel
theorem kX4_runWritten_9 : Cond.fieldLink RX4 51 RX0 "size" "I" ∈ wsX4_runWritten := by decide +kernel
theorem kX4_runWritten_10 : zIn RX0 TX0 3 wsX4_runWritten := by decide +kernel
theorem kX4_runWritten_11 : Cond.fieldLink RX4 57 RX0 "rows" "[LLoopForge$Row;" ∈ wsX4_runWritten := by decide +kernel
abbrev BX4_runWritten_36 (G : zG) (Z : zC)  (ad ln : Nat → Nat) (x1 x2 x3 : Int32) (al : Nat → Nat → Int32) : Prop := zB G Z rmX4_runWritten 4 (zTC true) ad ln 0 0 36 [(0, .ref (ad 173)), (1, .int x1), (2, .int x2), (3, .int x3)] [] al
abbrev BX4_runWritten_29 (G : zG) (Z : zC)  (ad ln : Nat → Nat) (x1 x2 : Int32) (al : Nat → Nat → Int32) : Prop := zB G Z rmX4_runWritten 4 (zTC true) ad ln 0 0 29 [(0, .ref (ad 173)), (1, .int x1), (2, .int x2)] [] al
def vcX4_runWritten_0 (G : zG)  (ad ln : Nat → Nat) (K29 : Int32 → Int32 → (Nat → Nat → Int32) → Prop) (K36 : Int32 → Int32 → Int32 → (Nat → Nat → Int32) → Prop) (post : Int32 → (Nat → Nat → Int32) → Prop) (al : Nat → Nat → Int32) : Prop :=
  zMv G yX4_fillCells wsX4_fillCells rmX4_fillCells (zTC true) ad ln [.ref (ad 173)] al (fun a1 => (vp_in (8 : Int32) 9 ∧ K29 ((upA a1 175 32 (a1 3)) 2 8) (0 : Int32) (upA a1 175 32 (a1 3))))
def vcX4_runWritten_29 (G : zG)  (ad ln : Nat → Nat) (K29 : Int32 → Int32 → (Nat → Nat → Int32) → Prop) (K36 : Int32 → Int32 → Int32 → (Nat → Nat → Int32) → Prop) (post : Int32 → (Nat → Nat → Int32) → Prop) (x1 x2 : Int32) (al : Nat → Nat → Int32) : Prop :=
  (x1 ≤ x2 → post (x1 * (al 4 1)) al) ∧ (¬ x1 ≤ x2 → K36 x1 x2 (0 : Int32) al)
def vcX4_runWritten_36 (G : zG)  (ad ln : Nat → Nat) (K29 : Int32 → Int32 → (Nat → Nat → Int32) → Prop) (K36 : Int32 → Int32 → Int32 → (Nat → Nat → Int32) → Prop) (post : Int32 → (Nat → Nat → Int32) → Prop) (x1 x2 x3 : Int32) (al : Nat → Nat → Int32) : Prop :=
  ((al 4 1) ≤ x3 → K29 x1 (x2 + (1 : Int32)) al) ∧ (¬ (al 4 1) ≤ x3 → (vp_in x3 48 ∧ zMv G yX4_doWritten wsX4_doWritten rmX4_doWritten (zTC true) ad ln [.ref (ad 173), .ref (ad (29 + 3 * x3.toNatClampNeg)), .int x2] al (fun a3 => K36 x1 x2 (x3 + (1 : Int32)) a3)))
set_option maxRecDepth 20000 in
theorem tX4_runWritten_0 {G : zG} {Z : zC}  {ad ln : Nat → Nat} (X : zX G Z cX4_runWritten 4 RX4 wsX4_runWritten) {K29 : Int32 → Int32 → (Nat → Nat → Int32) → Prop} {K36 : Int32 → Int32 → Int32 → (Nat → Nat → Int32) → Prop} {post : Int32 → (Nat → Nat → Int32) → Prop} (hR : zRi G Z rmX4_runWritten 4 (zTC true) ad ln cX4_runWritten .int post) (hK29 : ∀ x1 x2 : Int32, ∀ al, K29 x1 x2 al → zB G Z rmX4_runWritten 4 (zTC true) ad ln 0 0 29 [(0, .ref (ad 173)), (1, .int x1), (2, .int x2)] [] al) (hK36 : ∀ x1 x2 x3 : Int32, ∀ al, K36 x1 x2 x3 al → zB G Z rmX4_runWritten 4 (zTC true) ad ln 0 0 36 [(0, .ref (ad 173)), (1, .int x1), (2, .int x2), (3, .int x3)] [] al) (al : Nat → Nat → Int32) (h : vcX4_runWritten_0 G  ad ln K29 K36 post  al) : zB G Z rmX4_runWritten 4 (zTC true) ad ln 0 0 0 [(0, .ref (ad 173))] [] al := by
  unfold vcX4_runWritten_0 at h
  refine zb_aload_n X dX4_runWritten_0 rfl 0 rfl ?_
  refine zb_callVv (n := 0) X 173 (zTC_ltR (by decide)) 4 [6, 20, 24, 4, 5, 176, 177, 178, 179, 0] rfl (C := RX4) (Tt := TX4) (N := 10) rfl h gX4_runWritten_X4_fillCells rfl (by decide +kernel) (by decide) rfl rfl (Nat.le_of_ble_eq_true rfl) dX4_runWritten_1 (kc' := 0) (ks' := 0) rfl rfl (fun a1 h => ?_)
  refine zb_aload_n X dX4_runWritten_4 rfl 0 rfl ?_
  refine zb_getR X 173 (zTC_ltR (by decide)) 4 [6, 20, 24, 4, 5, 176, 177, 178, 179, 0] rfl (C := RX4) (Tt := TX4) (N := 10) rfl kX4_runWritten_1 4 (by decide) 3 rfl kX4_runWritten_0 rfl dX4_runWritten_5 ?_
  refine zb_iconst X (0 : Int32) dX4_runWritten_8 (by decide) ?_
  refine zb_aload_n X dX4_runWritten_9 rfl 0 rfl ?_
  refine zb_getR X 173 (zTC_ltR (by decide)) 4 [6, 20, 24, 4, 5, 176, 177, 178, 179, 0] rfl (C := RX4) (Tt := TX4) (N := 10) rfl kX4_runWritten_1 6 (by decide) 175 rfl kX4_runWritten_2 rfl dX4_runWritten_10 ?_
  refine zb_iconst X (0 : Int32) dX4_runWritten_13 (by decide) ?_
  refine zb_bipush X (32 : Int32) dX4_runWritten_14 (by decide) ?_
  refine zb_acopy X 3 (zTC_lt (by decide)) 1 32 0 0 rfl (Or.inl rfl) 175 (zTC_ltR (by decide)) 1 32 0 0 rfl (Or.inl rfl) (by decide) 32 (by decide) (Nat.le_of_ble_eq_true rfl) (Nat.le_of_ble_eq_true rfl) kX4_runWritten_3 kX4_runWritten_4 kX4_runWritten_5 kX4_runWritten_6 ⟨Nat.le_of_ble_eq_true rfl, Nat.le_of_ble_eq_true rfl⟩ dX4_runWritten_16 ?_
  refine zb_aload_n X dX4_runWritten_19 rfl 0 rfl ?_
  refine zb_getR X 173 (zTC_ltR (by decide)) 4 [6, 20, 24, 4, 5, 176, 177, 178, 179, 0] rfl (C := RX4) (Tt := TX4) (N := 10) rfl kX4_runWritten_1 3 (by decide) 2 rfl kX4_runWritten_7 rfl dX4_runWritten_20 ?_
  refine zb_bipush X (8 : Int32) dX4_runWritten_23 (by decide) ?_
  obtain ⟨hz, h⟩ := h
  refine zb_iald X 2 (zTC_lt (by decide)) 1 9 0 0 rfl (Or.inl rfl) 8 rfl hz dX4_runWritten_25 ((upA a1 175 32 (a1 3)) 2 8) rfl ?_
  refine zb_istore_n X (lv' := [(1, .int ((upA a1 175 32 (a1 3)) 2 8)), (0, .ref (ad 173))]) dX4_runWritten_26 rfl (by decide) rfl ?_
  refine zb_iconst X (0 : Int32) dX4_runWritten_27 (by decide) ?_
  refine zb_istore_n X (lv' := [(2, .int (0 : Int32)), (1, .int ((upA a1 175 32 (a1 3)) 2 8)), (0, .ref (ad 173))]) dX4_runWritten_28 rfl (by decide) rfl ?_
  refine zb_sub [2, 1, 0] rfl ?_
  exact hK29 ((upA a1 175 32 (a1 3)) 2 8) (0 : Int32) (upA a1 175 32 (a1 3)) h
set_option maxRecDepth 20000 in
theorem tX4_runWritten_29 {G : zG} {Z : zC}  {ad ln : Nat → Nat} (X : zX G Z cX4_runWritten 4 RX4 wsX4_runWritten) {K29 : Int32 → Int32 → (Nat → Nat → Int32) → Prop} {K36 : Int32 → Int32 → Int32 → (Nat → Nat → Int32) → Prop} {post : Int32 → (Nat → Nat → Int32) → Prop} (hR : zRi G Z rmX4_runWritten 4 (zTC true) ad ln cX4_runWritten .int post) (hK29 : ∀ x1 x2 : Int32, ∀ al, K29 x1 x2 al → zB G Z rmX4_runWritten 4 (zTC true) ad ln 0 0 29 [(0, .ref (ad 173)), (1, .int x1), (2, .int x2)] [] al) (hK36 : ∀ x1 x2 x3 : Int32, ∀ al, K36 x1 x2 x3 al → zB G Z rmX4_runWritten 4 (zTC true) ad ln 0 0 36 [(0, .ref (ad 173)), (1, .int x1), (2, .int x2), (3, .int x3)] [] al) (x1 x2 : Int32) (al : Nat → Nat → Int32) (h : vcX4_runWritten_29 G  ad ln K29 K36 post x1 x2 al) : zB G Z rmX4_runWritten 4 (zTC true) ad ln 0 0 29 [(0, .ref (ad 173)), (1, .int x1), (2, .int x2)] [] al := by
  unfold vcX4_runWritten_29 at h
  refine zb_iload_n X dX4_runWritten_29 rfl 2 rfl ?_
  refine zb_iload_n X dX4_runWritten_30 rfl 1 rfl ?_
  refine zb_icmp_ge X 73 dX4_runWritten_31 (by decide) (fun c1 => ?_) (fun c1 => ?_)
  · have h := h.1 c1
    refine zb_iload_n X dX4_runWritten_73 rfl 1 rfl ?_
    refine zb_aload_n X dX4_runWritten_74 rfl 0 rfl ?_
    refine zb_getR X 173 (zTC_ltR (by decide)) 4 [6, 20, 24, 4, 5, 176, 177, 178, 179, 0] rfl (C := RX4) (Tt := TX4) (N := 10) rfl kX4_runWritten_1 0 (by decide) 4 rfl kX4_runWritten_8 rfl dX4_runWritten_75 ?_
    refine zb_getI X 4 (zTC_lt (by decide)) 0 [7, 0, 8] rfl (C := RX0) (Tt := TX0) (N := 3) rfl kX4_runWritten_10 1 (by decide) rfl kX4_runWritten_9 rfl dX4_runWritten_78 (al 4 1) rfl ?_
    refine zb_imul X dX4_runWritten_81 ?_
    exact hR 82 _ _ _ dX4_runWritten_82 rfl h
  · have h := h.2 c1
    refine zb_iconst X (0 : Int32) dX4_runWritten_34 (by decide) ?_
    refine zb_istore_n X (lv' := [(3, .int (0 : Int32)), (0, .ref (ad 173)), (1, .int x1), (2, .int x2)]) dX4_runWritten_35 rfl (by decide) rfl ?_
    refine zb_sub [1, 2, 3, 0] rfl ?_
    exact hK36 x1 x2 (0 : Int32) al h
set_option maxRecDepth 20000 in
theorem tX4_runWritten_36 {G : zG} {Z : zC}  {ad ln : Nat → Nat} (X : zX G Z cX4_runWritten 4 RX4 wsX4_runWritten) {K29 : Int32 → Int32 → (Nat → Nat → Int32) → Prop} {K36 : Int32 → Int32 → Int32 → (Nat → Nat → Int32) → Prop} {post : Int32 → (Nat → Nat → Int32) → Prop} (hR : zRi G Z rmX4_runWritten 4 (zTC true) ad ln cX4_runWritten .int post) (hK29 : ∀ x1 x2 : Int32, ∀ al, K29 x1 x2 al → zB G Z rmX4_runWritten 4 (zTC true) ad ln 0 0 29 [(0, .ref (ad 173)), (1, .int x1), (2, .int x2)] [] al) (hK36 : ∀ x1 x2 x3 : Int32, ∀ al, K36 x1 x2 x3 al → zB G Z rmX4_runWritten 4 (zTC true) ad ln 0 0 36 [(0, .ref (ad 173)), (1, .int x1), (2, .int x2), (3, .int x3)] [] al) (x1 x2 x3 : Int32) (al : Nat → Nat → Int32) (h : vcX4_runWritten_36 G  ad ln K29 K36 post x1 x2 x3 al) : zB G Z rmX4_runWritten 4 (zTC true) ad ln 0 0 36 [(0, .ref (ad 173)), (1, .int x1), (2, .int x2), (3, .int x3)] [] al := by
  unfold vcX4_runWritten_36 at h
  refine zb_iload_n X dX4_runWritten_36 rfl 3 rfl ?_
  refine zb_aload_n X dX4_runWritten_37 rfl 0 rfl ?_
  refine zb_getR X 173 (zTC_ltR (by decide)) 4 [6, 20, 24, 4, 5, 176, 177, 178, 179, 0] rfl (C := RX4) (Tt := TX4) (N := 10) rfl kX4_runWritten_1 0 (by decide) 4 rfl kX4_runWritten_8 rfl dX4_runWritten_38 ?_
  refine zb_getI X 4 (zTC_lt (by decide)) 0 [7, 0, 8] rfl (C := RX0) (Tt := TX0) (N := 3) rfl kX4_runWritten_10 1 (by decide) rfl kX4_runWritten_9 rfl dX4_runWritten_41 (al 4 1) rfl ?_
  refine zb_icmp_ge X 67 dX4_runWritten_44 (by decide) (fun c1 => ?_) (fun c1 => ?_)
  · have h := h.1 c1
    refine zb_iinc X (lv' := [(2, .int (x2 + (1 : Int32))), (0, .ref (ad 173)), (1, .int x1), (3, .int x3)]) (x2 + (1 : Int32)) dX4_runWritten_67 2 rfl rfl (by decide) rfl ?_
    refine zb_goto X 29 dX4_runWritten_70 (by decide) ?_
    refine zb_sub [1, 2, 0] rfl ?_
    exact hK29 x1 (x2 + (1 : Int32)) al h
  · have h := h.2 c1
    refine zb_aload_n X dX4_runWritten_47 rfl 0 rfl ?_
    refine zb_aload_n X dX4_runWritten_48 rfl 0 rfl ?_
    refine zb_getR X 173 (zTC_ltR (by decide)) 4 [6, 20, 24, 4, 5, 176, 177, 178, 179, 0] rfl (C := RX4) (Tt := TX4) (N := 10) rfl kX4_runWritten_1 0 (by decide) 4 rfl kX4_runWritten_8 rfl dX4_runWritten_49 ?_
    refine zb_getR X 4 (zTC_lt (by decide)) 0 [7, 0, 8] rfl (C := RX0) (Tt := TX0) (N := 3) rfl kX4_runWritten_10 0 (by decide) 5 rfl kX4_runWritten_11 rfl dX4_runWritten_52 ?_
    refine zb_iload_n X dX4_runWritten_55 rfl 3 rfl ?_
    obtain ⟨hq2, h⟩ := h
    refine zb_rald X 5 (zTC_lt (by decide)) 48 29 3 rfl hq2 dX4_runWritten_56 ?_
    refine zb_iload_n X dX4_runWritten_57 rfl 2 rfl ?_
    refine zb_callVv (n := 2) X 173 (zTC_ltR (by decide)) 4 [6, 20, 24, 4, 5, 176, 177, 178, 179, 0] rfl (C := RX4) (Tt := TX4) (N := 10) rfl h gX4_runWritten_X4_doWritten rfl (by decide +kernel) (by decide) rfl rfl (Nat.le_of_ble_eq_true rfl) dX4_runWritten_58 (kc' := 0) (ks' := 0) rfl rfl (fun a3 h => ?_)
    refine zb_iinc X (lv' := [(3, .int (x3 + (1 : Int32))), (0, .ref (ad 173)), (1, .int x1), (2, .int x2)]) (x3 + (1 : Int32)) dX4_runWritten_61 3 rfl rfl (by decide) rfl ?_
    refine zb_goto X 36 dX4_runWritten_64 (by decide) ?_
    refine zb_sub [1, 2, 3, 0] rfl ?_
    exact hK36 x1 x2 (x3 + (1 : Int32)) a3 h
theorem uX4_runWritten_0 {G : zG} {Z : zC}  {ad ln : Nat → Nat} (X : zX G Z cX4_runWritten 4 RX4 wsX4_runWritten) {post : Int32 → (Nat → Nat → Int32) → Prop} (hR : zRi G Z rmX4_runWritten 4 (zTC true) ad ln cX4_runWritten .int post) (al : Nat → Nat → Int32) (h : vcX4_runWritten_0 G  ad ln (BX4_runWritten_29 G Z  ad ln) (BX4_runWritten_36 G Z  ad ln) post  al) : zB G Z rmX4_runWritten 4 (zTC true) ad ln 0 0 0 [(0, .ref (ad 173))] [] al := tX4_runWritten_0 X hR (fun _ _ _ h => h) (fun _ _ _ _ h => h)  al h
theorem uX4_runWritten_29 {G : zG} {Z : zC}  {ad ln : Nat → Nat} (X : zX G Z cX4_runWritten 4 RX4 wsX4_runWritten) {post : Int32 → (Nat → Nat → Int32) → Prop} (hR : zRi G Z rmX4_runWritten 4 (zTC true) ad ln cX4_runWritten .int post) (x1 x2 : Int32) (al : Nat → Nat → Int32) (h : vcX4_runWritten_29 G  ad ln (BX4_runWritten_29 G Z  ad ln) (BX4_runWritten_36 G Z  ad ln) post x1 x2 al) : zB G Z rmX4_runWritten 4 (zTC true) ad ln 0 0 29 [(0, .ref (ad 173)), (1, .int x1), (2, .int x2)] [] al := tX4_runWritten_29 X hR (fun _ _ _ h => h) (fun _ _ _ _ h => h) x1 x2 al h
theorem uX4_runWritten_36 {G : zG} {Z : zC}  {ad ln : Nat → Nat} (X : zX G Z cX4_runWritten 4 RX4 wsX4_runWritten) {post : Int32 → (Nat → Nat → Int32) → Prop} (hR : zRi G Z rmX4_runWritten 4 (zTC true) ad ln cX4_runWritten .int post) (x1 x2 x3 : Int32) (al : Nat → Nat → Int32) (h : vcX4_runWritten_36 G  ad ln (BX4_runWritten_29 G Z  ad ln) (BX4_runWritten_36 G Z  ad ln) post x1 x2 x3 al) : zB G Z rmX4_runWritten 4 (zTC true) ad ln 0 0 36 [(0, .ref (ad 173)), (1, .int x1), (2, .int x2), (3, .int x3)] [] al := tX4_runWritten_36 X hR (fun _ _ _ h => h) (fun _ _ _ _ h => h) x1 x2 x3 al h
