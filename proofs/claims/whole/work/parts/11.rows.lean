abbrev rmX1_become : Room := { frames := 0, cells := 0, slots := 0, locals := 0 }
theorem kX1_become_0 : Cond.fieldLink RX1 9 RX1 "sort" "I" ∈ wsX1_become := by decide +kernel
theorem kX1_become_1 : zIn RX1 TX1 2 wsX1_become := by decide +kernel
theorem kX1_become_2 : Cond.fieldLink RX1 15 RX1 "value" "I" ∈ wsX1_become := by decide +kernel
def vcX1_become_0 (G : zG) (r : Bool) (ad ln : Nat → Nat) (o0 : Nat) (ho0 : zOp r o0) (p1 : Int32) (p2 : Int32)  (post : (Nat → Nat → Int32) → Prop) (al : Nat → Nat → Int32) : Prop :=
  post (up2 (up2 al o0 0 p1) o0 1 p2)
set_option maxRecDepth 20000 in
theorem tX1_become_0 {G : zG} {Z : zC} {r : Bool} {ad ln : Nat → Nat} (X : zX G Z cX1_become 3 RX1 wsX1_become) (o0 : Nat) (ho0 : zOp r o0) (p1 : Int32) (p2 : Int32)  {post : (Nat → Nat → Int32) → Prop} (hR : zRv G Z rmX1_become 3 (zTC r) ad ln cX1_become post)  (al : Nat → Nat → Int32) (h : vcX1_become_0 G r ad ln o0 ho0 p1 p2  post  al) : zB G Z rmX1_become 3 (zTC r) ad ln 0 0 0 [(0, .ref (ad o0)), (1, .int p1), (2, .int p2)] [] al := by
  unfold vcX1_become_0 at h
  refine zb_aload_n X dX1_become_0 rfl 0 rfl ?_
  refine zb_iload_n X dX1_become_1 rfl 1 rfl ?_
  refine zb_putI X o0 ho0.1 1 [0, 0] ho0.2 (C := RX1) (Tt := TX1) (N := 2) rfl kX1_become_1 tyX1 tyX1_ok nmX1 0 (by decide) rfl kX1_become_0 rfl rfl rfl rfl dX1_become_2 ?_
  refine zb_aload_n X dX1_become_5 rfl 0 rfl ?_
  refine zb_iload_n X dX1_become_6 rfl 2 rfl ?_
  refine zb_putI X o0 ho0.1 1 [0, 0] ho0.2 (C := RX1) (Tt := TX1) (N := 2) rfl kX1_become_1 tyX1 tyX1_ok nmX1 1 (by decide) rfl kX1_become_2 rfl rfl rfl rfl dX1_become_7 ?_
  exact hR 10 _ _ dX1_become_10 h

abbrev rmX3_clear : Room := { frames := 1, cells := 0, slots := 0, locals := 22 }
theorem kX3_clear_0 : Cond.fieldLink RX3 21 RX3 "kind" "I" ∈ wsX3_clear := by decide +kernel
theorem kX3_clear_1 : zIn RX3 TX3 9 wsX3_clear := by decide +kernel
theorem kX3_clear_2 : Cond.fieldLink RX3 25 RX3 "operator" "I" ∈ wsX3_clear := by decide +kernel
theorem kX3_clear_3 : Cond.fieldLink RX3 28 RX3 "target" "I" ∈ wsX3_clear := by decide +kernel
theorem kX3_clear_4 : Cond.fieldLink RX3 31 RX3 "textPlace" "I" ∈ wsX3_clear := by decide +kernel
theorem kX3_clear_5 : Cond.fieldLink RX3 34 RX3 "array" "I" ∈ wsX3_clear := by decide +kernel
theorem kX3_clear_6 : Cond.fieldLink RX3 37 RX3 "step" "I" ∈ wsX3_clear := by decide +kernel
theorem kX3_clear_7 : Cond.fieldLink RX3 40 RX3 "shift" "I" ∈ wsX3_clear := by decide +kernel
theorem kX3_clear_8 : Cond.fieldLink RX3 12 RX3 "left" "LLoopForge$Operand;" ∈ wsX3_clear := by decide +kernel
theorem kX3_clear_9 : Cond.fieldLink RX3 18 RX3 "right" "LLoopForge$Operand;" ∈ wsX3_clear := by decide +kernel
def vcX3_clear_0 (G : zG) (r : Bool) (ad ln : Nat → Nat) (w0 : Nat) (hw0 : w0 < 48) (p1 : Int32)  (post : (Nat → Nat → Int32) → Prop) (al : Nat → Nat → Int32) : Prop :=
  zMv G yX1_become wsX1_become rmX1_become (zTC r) ad ln [.ref (ad (30 + 3 * w0)), .int (48 : Int32), .int (0 : Int32)] (up2 (up2 (up2 (up2 (up2 (up2 (up2 al (29 + 3 * w0) 0 (0 : Int32)) (29 + 3 * w0) 1 (43 : Int32)) (29 + 3 * w0) 2 (-1 : Int32)) (29 + 3 * w0) 3 p1) (29 + 3 * w0) 4 (-1 : Int32)) (29 + 3 * w0) 5 (0 : Int32)) (29 + 3 * w0) 6 (0 : Int32)) (fun a1 => zMv G yX1_become wsX1_become rmX1_become (zTC r) ad ln [.ref (ad (31 + 3 * w0)), .int (48 : Int32), .int (0 : Int32)] a1 (fun a2 => post a2))
set_option maxRecDepth 20000 in
theorem tX3_clear_0 {G : zG} {Z : zC} {r : Bool} {ad ln : Nat → Nat} (X : zX G Z cX3_clear 2 RX3 wsX3_clear) (w0 : Nat) (hw0 : w0 < 48) (p1 : Int32)  {post : (Nat → Nat → Int32) → Prop} (hR : zRv G Z rmX3_clear 2 (zTC r) ad ln cX3_clear post)  (al : Nat → Nat → Int32) (h : vcX3_clear_0 G r ad ln w0 hw0 p1  post  al) : zB G Z rmX3_clear 2 (zTC r) ad ln 0 0 0 [(0, .ref (ad (29 + 3 * w0))), (1, .int p1)] [] al := by
  unfold vcX3_clear_0 at h
  refine zb_aload_n X dX3_clear_0 rfl 0 rfl ?_
  refine zb_iconst X (0 : Int32) dX3_clear_1 (by decide) ?_
  refine zb_putI X (29 + 3 * w0) (zTC_lt (zrow_lt hw0)) 3 [0, 0, 0, 0, 0, 0, 0, (30 + 3 * w0) + 2, (31 + 3 * w0) + 2] (zTC_row r hw0) (C := RX3) (Tt := TX3) (N := 9) rfl kX3_clear_1 tyX3 tyX3_ok nmX3 0 (by decide) rfl kX3_clear_0 rfl rfl rfl rfl dX3_clear_2 ?_
  refine zb_aload_n X dX3_clear_5 rfl 0 rfl ?_
  refine zb_bipush X (43 : Int32) dX3_clear_6 (by decide) ?_
  refine zb_putI X (29 + 3 * w0) (zTC_lt (zrow_lt hw0)) 3 [0, 0, 0, 0, 0, 0, 0, (30 + 3 * w0) + 2, (31 + 3 * w0) + 2] (zTC_row r hw0) (C := RX3) (Tt := TX3) (N := 9) rfl kX3_clear_1 tyX3 tyX3_ok nmX3 1 (by decide) rfl kX3_clear_2 rfl rfl rfl rfl dX3_clear_8 ?_
  refine zb_aload_n X dX3_clear_11 rfl 0 rfl ?_
  refine zb_iconst X (-1 : Int32) dX3_clear_12 (by decide) ?_
  refine zb_putI X (29 + 3 * w0) (zTC_lt (zrow_lt hw0)) 3 [0, 0, 0, 0, 0, 0, 0, (30 + 3 * w0) + 2, (31 + 3 * w0) + 2] (zTC_row r hw0) (C := RX3) (Tt := TX3) (N := 9) rfl kX3_clear_1 tyX3 tyX3_ok nmX3 2 (by decide) rfl kX3_clear_3 rfl rfl rfl rfl dX3_clear_13 ?_
  refine zb_aload_n X dX3_clear_16 rfl 0 rfl ?_
  refine zb_iload_n X dX3_clear_17 rfl 1 rfl ?_
  refine zb_putI X (29 + 3 * w0) (zTC_lt (zrow_lt hw0)) 3 [0, 0, 0, 0, 0, 0, 0, (30 + 3 * w0) + 2, (31 + 3 * w0) + 2] (zTC_row r hw0) (C := RX3) (Tt := TX3) (N := 9) rfl kX3_clear_1 tyX3 tyX3_ok nmX3 3 (by decide) rfl kX3_clear_4 rfl rfl rfl rfl dX3_clear_18 ?_
  refine zb_aload_n X dX3_clear_21 rfl 0 rfl ?_
  refine zb_iconst X (-1 : Int32) dX3_clear_22 (by decide) ?_
  refine zb_putI X (29 + 3 * w0) (zTC_lt (zrow_lt hw0)) 3 [0, 0, 0, 0, 0, 0, 0, (30 + 3 * w0) + 2, (31 + 3 * w0) + 2] (zTC_row r hw0) (C := RX3) (Tt := TX3) (N := 9) rfl kX3_clear_1 tyX3 tyX3_ok nmX3 4 (by decide) rfl kX3_clear_5 rfl rfl rfl rfl dX3_clear_23 ?_
  refine zb_aload_n X dX3_clear_26 rfl 0 rfl ?_
  refine zb_iconst X (0 : Int32) dX3_clear_27 (by decide) ?_
  refine zb_putI X (29 + 3 * w0) (zTC_lt (zrow_lt hw0)) 3 [0, 0, 0, 0, 0, 0, 0, (30 + 3 * w0) + 2, (31 + 3 * w0) + 2] (zTC_row r hw0) (C := RX3) (Tt := TX3) (N := 9) rfl kX3_clear_1 tyX3 tyX3_ok nmX3 5 (by decide) rfl kX3_clear_6 rfl rfl rfl rfl dX3_clear_28 ?_
  refine zb_aload_n X dX3_clear_31 rfl 0 rfl ?_
  refine zb_iconst X (0 : Int32) dX3_clear_32 (by decide) ?_
  refine zb_putI X (29 + 3 * w0) (zTC_lt (zrow_lt hw0)) 3 [0, 0, 0, 0, 0, 0, 0, (30 + 3 * w0) + 2, (31 + 3 * w0) + 2] (zTC_row r hw0) (C := RX3) (Tt := TX3) (N := 9) rfl kX3_clear_1 tyX3 tyX3_ok nmX3 6 (by decide) rfl kX3_clear_7 rfl rfl rfl rfl dX3_clear_33 ?_
  refine zb_aload_n X dX3_clear_36 rfl 0 rfl ?_
  refine zb_getR X (29 + 3 * w0) (zTC_lt (zrow_lt hw0)) 3 [0, 0, 0, 0, 0, 0, 0, (30 + 3 * w0) + 2, (31 + 3 * w0) + 2] (zTC_row r hw0) (C := RX3) (Tt := TX3) (N := 9) rfl kX3_clear_1 7 (by decide) (30 + 3 * w0) rfl kX3_clear_8 rfl dX3_clear_37 ?_
  refine zb_bipush X (48 : Int32) dX3_clear_40 (by decide) ?_
  refine zb_iconst X (0 : Int32) dX3_clear_42 (by decide) ?_
  refine zb_callVv (n := 2) X (30 + 3 * w0) (zTC_lt (zopl_lt hw0)) 1 [0, 0] (zTC_opl r hw0) (C := RX1) (Tt := TX1) (N := 2) rfl h gX3_clear_X1_become rfl (by decide +kernel) (by decide) rfl rfl (Nat.le_of_ble_eq_true rfl) dX3_clear_43 (kc' := 0) (ks' := 0) rfl rfl (fun a1 h => ?_)
  refine zb_aload_n X dX3_clear_46 rfl 0 rfl ?_
  refine zb_getR X (29 + 3 * w0) (zTC_lt (zrow_lt hw0)) 3 [0, 0, 0, 0, 0, 0, 0, (30 + 3 * w0) + 2, (31 + 3 * w0) + 2] (zTC_row r hw0) (C := RX3) (Tt := TX3) (N := 9) rfl kX3_clear_1 8 (by decide) (31 + 3 * w0) rfl kX3_clear_9 rfl dX3_clear_47 ?_
  refine zb_bipush X (48 : Int32) dX3_clear_50 (by decide) ?_
  refine zb_iconst X (0 : Int32) dX3_clear_52 (by decide) ?_
  refine zb_callVv (n := 2) X (31 + 3 * w0) (zTC_lt (zopr_lt hw0)) 1 [0, 0] (zTC_opr r hw0) (C := RX1) (Tt := TX1) (N := 2) rfl h gX3_clear_X1_become rfl (by decide +kernel) (by decide) rfl rfl (Nat.le_of_ble_eq_true rfl) dX3_clear_53 (kc' := 0) (ks' := 0) rfl rfl (fun a2 h => ?_)
  exact hR 56 _ _ dX3_clear_56 h

abbrev rmX3_spot : Room := { frames := 0, cells := 0, slots := 0, locals := 0 }
theorem kX3_spot_0 : Cond.fieldLink RX3 37 RX3 "step" "I" ∈ wsX3_spot := by decide +kernel
theorem kX3_spot_1 : zIn RX3 TX3 9 wsX3_spot := by decide +kernel
theorem kX3_spot_2 : Cond.fieldLink RX3 40 RX3 "shift" "I" ∈ wsX3_spot := by decide +kernel
def vcX3_spot_0 (G : zG) (r : Bool) (ad ln : Nat → Nat) (w0 : Nat) (hw0 : w0 < 48) (p1 : Int32)  (post : Int32 → (Nat → Nat → Int32) → Prop) (al : Nat → Nat → Int32) : Prop :=
  post (((al (29 + 3 * w0) 5) * p1) + (al (29 + 3 * w0) 6)) al
set_option maxRecDepth 20000 in
theorem tX3_spot_0 {G : zG} {Z : zC} {r : Bool} {ad ln : Nat → Nat} (X : zX G Z cX3_spot 2 RX3 wsX3_spot) (w0 : Nat) (hw0 : w0 < 48) (p1 : Int32)  {post : Int32 → (Nat → Nat → Int32) → Prop} (hR : zRi G Z rmX3_spot 2 (zTC r) ad ln cX3_spot .int post)  (al : Nat → Nat → Int32) (h : vcX3_spot_0 G r ad ln w0 hw0 p1  post  al) : zB G Z rmX3_spot 2 (zTC r) ad ln 0 0 0 [(0, .ref (ad (29 + 3 * w0))), (1, .int p1)] [] al := by
  unfold vcX3_spot_0 at h
  refine zb_aload_n X dX3_spot_0 rfl 0 rfl ?_
  refine zb_getI X (29 + 3 * w0) (zTC_lt (zrow_lt hw0)) 3 [0, 0, 0, 0, 0, 0, 0, (30 + 3 * w0) + 2, (31 + 3 * w0) + 2] (zTC_row r hw0) (C := RX3) (Tt := TX3) (N := 9) rfl kX3_spot_1 5 (by decide) rfl kX3_spot_0 rfl dX3_spot_1 (al (29 + 3 * w0) 5) rfl ?_
  refine zb_iload_n X dX3_spot_4 rfl 1 rfl ?_
  refine zb_imul X dX3_spot_5 ?_
  refine zb_aload_n X dX3_spot_6 rfl 0 rfl ?_
  refine zb_getI X (29 + 3 * w0) (zTC_lt (zrow_lt hw0)) 3 [0, 0, 0, 0, 0, 0, 0, (30 + 3 * w0) + 2, (31 + 3 * w0) + 2] (zTC_row r hw0) (C := RX3) (Tt := TX3) (N := 9) rfl kX3_spot_1 6 (by decide) rfl kX3_spot_2 rfl dX3_spot_7 (al (29 + 3 * w0) 6) rfl ?_
  refine zb_iadd X dX3_spot_10 ?_
  exact hR 11 _ _ _ dX3_spot_11 rfl h

abbrev rmX3_reckon : Room := { frames := 0, cells := 0, slots := 0, locals := 0 }
theorem kX3_reckon_0 : Cond.fieldLink RX3 25 RX3 "operator" "I" ∈ wsX3_reckon := by decide +kernel
theorem kX3_reckon_1 : zIn RX3 TX3 9 wsX3_reckon := by decide +kernel
def vcX3_reckon_130 (G : zG) (r : Bool) (ad ln : Nat → Nat) (w0 : Nat) (hw0 : w0 < 48) (p1 : Int32) (p2 : Int32)  (post : Int32 → (Nat → Nat → Int32) → Prop) (s0 : Int32) (al : Nat → Nat → Int32) : Prop :=
  post s0 al
def vcX3_reckon_155 (G : zG) (r : Bool) (ad ln : Nat → Nat) (w0 : Nat) (hw0 : w0 < 48) (p1 : Int32) (p2 : Int32)  (post : Int32 → (Nat → Nat → Int32) → Prop) (s0 : Int32) (al : Nat → Nat → Int32) : Prop :=
  post s0 al
def vcX3_reckon_166 (G : zG) (r : Bool) (ad ln : Nat → Nat) (w0 : Nat) (hw0 : w0 < 48) (p1 : Int32) (p2 : Int32)  (post : Int32 → (Nat → Nat → Int32) → Prop) (s0 : Int32) (al : Nat → Nat → Int32) : Prop :=
  post s0 al
def vcX3_reckon_0 (G : zG) (r : Bool) (ad ln : Nat → Nat) (w0 : Nat) (hw0 : w0 < 48) (p1 : Int32) (p2 : Int32)  (post : Int32 → (Nat → Nat → Int32) → Prop) (al : Nat → Nat → Int32) : Prop :=
  ((al (29 + 3 * w0) 1) = (38 : Int32) → post (p1 &&& p2) al) ∧ (¬ (al (29 + 3 * w0) 1) = (38 : Int32) → ((al (29 + 3 * w0) 1) = (42 : Int32) → post (p1 * p2) al) ∧ (¬ (al (29 + 3 * w0) 1) = (42 : Int32) → ((al (29 + 3 * w0) 1) = (43 : Int32) → post (p1 + p2) al) ∧ (¬ (al (29 + 3 * w0) 1) = (43 : Int32) → ((al (29 + 3 * w0) 1) = (45 : Int32) → post (p1 - p2) al) ∧ (¬ (al (29 + 3 * w0) 1) = (45 : Int32) → ((al (29 + 3 * w0) 1) = (60 : Int32) → (p2 ≤ p1 → vcX3_reckon_130 G r ad ln w0 hw0 p1 p2  post (0 : Int32) al) ∧ (¬ p2 ≤ p1 → vcX3_reckon_130 G r ad ln w0 hw0 p1 p2  post (1 : Int32) al)) ∧ (¬ (al (29 + 3 * w0) 1) = (60 : Int32) → ((al (29 + 3 * w0) 1) = (94 : Int32) → post (p1 ^^^ p2) al) ∧ (¬ (al (29 + 3 * w0) 1) = (94 : Int32) → ((al (29 + 3 * w0) 1) = (124 : Int32) → post (p1 ||| p2) al) ∧ (¬ (al (29 + 3 * w0) 1) = (124 : Int32) → ((al (29 + 3 * w0) 1) = (256 : Int32) → post (p1 <<< ((p2 &&& (31 : Int32)) &&& 31)) al) ∧ (¬ (al (29 + 3 * w0) 1) = (256 : Int32) → ((al (29 + 3 * w0) 1) = (257 : Int32) → post (p1 >>> ((p2 &&& (31 : Int32)) &&& 31)) al) ∧ (¬ (al (29 + 3 * w0) 1) = (257 : Int32) → ((al (29 + 3 * w0) 1) = (258 : Int32) → (p2 ≤ p1 → vcX3_reckon_155 G r ad ln w0 hw0 p1 p2  post p2 al) ∧ (¬ p2 ≤ p1 → vcX3_reckon_155 G r ad ln w0 hw0 p1 p2  post p1 al)) ∧ (¬ (al (29 + 3 * w0) 1) = (258 : Int32) → (p1 ≤ p2 → vcX3_reckon_166 G r ad ln w0 hw0 p1 p2  post p2 al) ∧ (¬ p1 ≤ p2 → vcX3_reckon_166 G r ad ln w0 hw0 p1 p2  post p1 al)))))))))))
set_option maxRecDepth 20000 in
theorem tX3_reckon_130 {G : zG} {Z : zC} {r : Bool} {ad ln : Nat → Nat} (X : zX G Z cX3_reckon 3 RX3 wsX3_reckon) (w0 : Nat) (hw0 : w0 < 48) (p1 : Int32) (p2 : Int32)  {post : Int32 → (Nat → Nat → Int32) → Prop} (hR : zRi G Z rmX3_reckon 3 (zTC r) ad ln cX3_reckon .int post)  (s0 : Int32) (al : Nat → Nat → Int32) (h : vcX3_reckon_130 G r ad ln w0 hw0 p1 p2  post s0 al) : zB G Z rmX3_reckon 3 (zTC r) ad ln 0 0 130 [] [.int s0] al := by
  unfold vcX3_reckon_130 at h
  exact hR 130 _ _ _ dX3_reckon_130 rfl h
set_option maxRecDepth 20000 in
theorem tX3_reckon_155 {G : zG} {Z : zC} {r : Bool} {ad ln : Nat → Nat} (X : zX G Z cX3_reckon 3 RX3 wsX3_reckon) (w0 : Nat) (hw0 : w0 < 48) (p1 : Int32) (p2 : Int32)  {post : Int32 → (Nat → Nat → Int32) → Prop} (hR : zRi G Z rmX3_reckon 3 (zTC r) ad ln cX3_reckon .int post)  (s0 : Int32) (al : Nat → Nat → Int32) (h : vcX3_reckon_155 G r ad ln w0 hw0 p1 p2  post s0 al) : zB G Z rmX3_reckon 3 (zTC r) ad ln 0 0 155 [] [.int s0] al := by
  unfold vcX3_reckon_155 at h
  exact hR 155 _ _ _ dX3_reckon_155 rfl h
set_option maxRecDepth 20000 in
theorem tX3_reckon_166 {G : zG} {Z : zC} {r : Bool} {ad ln : Nat → Nat} (X : zX G Z cX3_reckon 3 RX3 wsX3_reckon) (w0 : Nat) (hw0 : w0 < 48) (p1 : Int32) (p2 : Int32)  {post : Int32 → (Nat → Nat → Int32) → Prop} (hR : zRi G Z rmX3_reckon 3 (zTC r) ad ln cX3_reckon .int post)  (s0 : Int32) (al : Nat → Nat → Int32) (h : vcX3_reckon_166 G r ad ln w0 hw0 p1 p2  post s0 al) : zB G Z rmX3_reckon 3 (zTC r) ad ln 0 0 166 [] [.int s0] al := by
  unfold vcX3_reckon_166 at h
  exact hR 166 _ _ _ dX3_reckon_166 rfl h
set_option maxRecDepth 20000 in
theorem tX3_reckon_0 {G : zG} {Z : zC} {r : Bool} {ad ln : Nat → Nat} (X : zX G Z cX3_reckon 3 RX3 wsX3_reckon) (w0 : Nat) (hw0 : w0 < 48) (p1 : Int32) (p2 : Int32)  {post : Int32 → (Nat → Nat → Int32) → Prop} (hR : zRi G Z rmX3_reckon 3 (zTC r) ad ln cX3_reckon .int post)  (al : Nat → Nat → Int32) (h : vcX3_reckon_0 G r ad ln w0 hw0 p1 p2  post  al) : zB G Z rmX3_reckon 3 (zTC r) ad ln 0 0 0 [(0, .ref (ad (29 + 3 * w0))), (1, .int p1), (2, .int p2)] [] al := by
  unfold vcX3_reckon_0 at h
  refine zb_aload_n X dX3_reckon_0 rfl 0 rfl ?_
  refine zb_getI X (29 + 3 * w0) (zTC_lt (zrow_lt hw0)) 3 [0, 0, 0, 0, 0, 0, 0, (30 + 3 * w0) + 2, (31 + 3 * w0) + 2] (zTC_row r hw0) (C := RX3) (Tt := TX3) (N := 9) rfl kX3_reckon_1 1 (by decide) rfl kX3_reckon_0 rfl dX3_reckon_1 (al (29 + 3 * w0) 1) rfl ?_
  by_cases c1 : (al (29 + 3 * w0) 1) = (38 : Int32)
  · have h := h.1 c1
    refine zb_look X (off := 104) 108 dX3_reckon_4 (by decide) (by rw [c1]; rfl) (by decide) ?_
    refine zb_iload_n X dX3_reckon_108 rfl 1 rfl ?_
    refine zb_iload_n X dX3_reckon_109 rfl 2 rfl ?_
    refine zb_iand X dX3_reckon_110 ?_
    exact hR 111 _ _ _ dX3_reckon_111 rfl h
  have h := h.2 c1
  by_cases c2 : (al (29 + 3 * w0) 1) = (42 : Int32)
  · have h := h.1 c2
    refine zb_look X (off := 100) 104 dX3_reckon_4 (by decide) (by rw [c2]; rfl) (by decide) ?_
    refine zb_iload_n X dX3_reckon_104 rfl 1 rfl ?_
    refine zb_iload_n X dX3_reckon_105 rfl 2 rfl ?_
    refine zb_imul X dX3_reckon_106 ?_
    exact hR 107 _ _ _ dX3_reckon_107 rfl h
  have h := h.2 c2
  by_cases c3 : (al (29 + 3 * w0) 1) = (43 : Int32)
  · have h := h.1 c3
    refine zb_look X (off := 92) 96 dX3_reckon_4 (by decide) (by rw [c3]; rfl) (by decide) ?_
    refine zb_iload_n X dX3_reckon_96 rfl 1 rfl ?_
    refine zb_iload_n X dX3_reckon_97 rfl 2 rfl ?_
    refine zb_iadd X dX3_reckon_98 ?_
    exact hR 99 _ _ _ dX3_reckon_99 rfl h
  have h := h.2 c3
  by_cases c4 : (al (29 + 3 * w0) 1) = (45 : Int32)
  · have h := h.1 c4
    refine zb_look X (off := 96) 100 dX3_reckon_4 (by decide) (by rw [c4]; rfl) (by decide) ?_
    refine zb_iload_n X dX3_reckon_100 rfl 1 rfl ?_
    refine zb_iload_n X dX3_reckon_101 rfl 2 rfl ?_
    refine zb_isub X dX3_reckon_102 ?_
    exact hR 103 _ _ _ dX3_reckon_103 rfl h
  have h := h.2 c4
  by_cases c5 : (al (29 + 3 * w0) 1) = (60 : Int32)
  · have h := h.1 c5
    refine zb_look X (off := 116) 120 dX3_reckon_4 (by decide) (by rw [c5]; rfl) (by decide) ?_
    refine zb_iload_n X dX3_reckon_120 rfl 1 rfl ?_
    refine zb_iload_n X dX3_reckon_121 rfl 2 rfl ?_
    refine zb_icmp_ge X 129 dX3_reckon_122 (by decide) (fun c6 => ?_) (fun c6 => ?_)
    · have h := h.1 c6
      refine zb_iconst X (0 : Int32) dX3_reckon_129 (by decide) ?_
      refine zb_sub [] rfl ?_
      exact tX3_reckon_130 X w0 hw0 p1 p2 hR  (0 : Int32) al h
    · have h := h.2 c6
      refine zb_iconst X (1 : Int32) dX3_reckon_125 (by decide) ?_
      refine zb_goto X 130 dX3_reckon_126 (by decide) ?_
      refine zb_sub [] rfl ?_
      exact tX3_reckon_130 X w0 hw0 p1 p2 hR  (1 : Int32) al h
  have h := h.2 c5
  by_cases c6 : (al (29 + 3 * w0) 1) = (94 : Int32)
  · have h := h.1 c6
    refine zb_look X (off := 112) 116 dX3_reckon_4 (by decide) (by rw [c6]; rfl) (by decide) ?_
    refine zb_iload_n X dX3_reckon_116 rfl 1 rfl ?_
    refine zb_iload_n X dX3_reckon_117 rfl 2 rfl ?_
    refine zb_ixor X dX3_reckon_118 ?_
    exact hR 119 _ _ _ dX3_reckon_119 rfl h
  have h := h.2 c6
  by_cases c7 : (al (29 + 3 * w0) 1) = (124 : Int32)
  · have h := h.1 c7
    refine zb_look X (off := 108) 112 dX3_reckon_4 (by decide) (by rw [c7]; rfl) (by decide) ?_
    refine zb_iload_n X dX3_reckon_112 rfl 1 rfl ?_
    refine zb_iload_n X dX3_reckon_113 rfl 2 rfl ?_
    refine zb_ior X dX3_reckon_114 ?_
    exact hR 115 _ _ _ dX3_reckon_115 rfl h
  have h := h.2 c7
  by_cases c8 : (al (29 + 3 * w0) 1) = (256 : Int32)
  · have h := h.1 c8
    refine zb_look X (off := 127) 131 dX3_reckon_4 (by decide) (by rw [c8]; rfl) (by decide) ?_
    refine zb_iload_n X dX3_reckon_131 rfl 1 rfl ?_
    refine zb_iload_n X dX3_reckon_132 rfl 2 rfl ?_
    refine zb_bipush X (31 : Int32) dX3_reckon_133 (by decide) ?_
    refine zb_iand X dX3_reckon_135 ?_
    refine zb_ishl X dX3_reckon_136 ?_
    exact hR 137 _ _ _ dX3_reckon_137 rfl h
  have h := h.2 c8
  by_cases c9 : (al (29 + 3 * w0) 1) = (257 : Int32)
  · have h := h.1 c9
    refine zb_look X (off := 134) 138 dX3_reckon_4 (by decide) (by rw [c9]; rfl) (by decide) ?_
    refine zb_iload_n X dX3_reckon_138 rfl 1 rfl ?_
    refine zb_iload_n X dX3_reckon_139 rfl 2 rfl ?_
    refine zb_bipush X (31 : Int32) dX3_reckon_140 (by decide) ?_
    refine zb_iand X dX3_reckon_142 ?_
    refine zb_ishr X dX3_reckon_143 ?_
    exact hR 144 _ _ _ dX3_reckon_144 rfl h
  have h := h.2 c9
  by_cases c10 : (al (29 + 3 * w0) 1) = (258 : Int32)
  · have h := h.1 c10
    refine zb_look X (off := 141) 145 dX3_reckon_4 (by decide) (by rw [c10]; rfl) (by decide) ?_
    refine zb_iload_n X dX3_reckon_145 rfl 1 rfl ?_
    refine zb_iload_n X dX3_reckon_146 rfl 2 rfl ?_
    refine zb_icmp_ge X 154 dX3_reckon_147 (by decide) (fun c11 => ?_) (fun c11 => ?_)
    · have h := h.1 c11
      refine zb_iload_n X dX3_reckon_154 rfl 2 rfl ?_
      refine zb_sub [] rfl ?_
      exact tX3_reckon_155 X w0 hw0 p1 p2 hR  p2 al h
    · have h := h.2 c11
      refine zb_iload_n X dX3_reckon_150 rfl 1 rfl ?_
      refine zb_goto X 155 dX3_reckon_151 (by decide) ?_
      refine zb_sub [] rfl ?_
      exact tX3_reckon_155 X w0 hw0 p1 p2 hR  p1 al h
  have h := h.2 c10
  refine zb_look X (off := 152) 156 dX3_reckon_4 (by decide) (by have e0 := zne_int c1; rw [show (38 : Int32).toInt = 38 from by decide] at e0; have e1 := zne_int c2; rw [show (42 : Int32).toInt = 42 from by decide] at e1; have e2 := zne_int c3; rw [show (43 : Int32).toInt = 43 from by decide] at e2; have e3 := zne_int c4; rw [show (45 : Int32).toInt = 45 from by decide] at e3; have e4 := zne_int c5; rw [show (60 : Int32).toInt = 60 from by decide] at e4; have e5 := zne_int c6; rw [show (94 : Int32).toInt = 94 from by decide] at e5; have e6 := zne_int c7; rw [show (124 : Int32).toInt = 124 from by decide] at e6; have e7 := zne_int c8; rw [show (256 : Int32).toInt = 256 from by decide] at e7; have e8 := zne_int c9; rw [show (257 : Int32).toInt = 257 from by decide] at e8; have e9 := zne_int c10; rw [show (258 : Int32).toInt = 258 from by decide] at e9; simp only [Op.lookupswitch.offset, List.toList_toArray]; rw [if_neg (fun h => e0 h.symm), if_neg (fun h => e1 h.symm), if_neg (fun h => e2 h.symm), if_neg (fun h => e3 h.symm), if_neg (fun h => e4 h.symm), if_neg (fun h => e5 h.symm), if_neg (fun h => e6 h.symm), if_neg (fun h => e7 h.symm), if_neg (fun h => e8 h.symm), if_neg (fun h => e9 h.symm)]) (by decide) ?_
  refine zb_iload_n X dX3_reckon_156 rfl 1 rfl ?_
  refine zb_iload_n X dX3_reckon_157 rfl 2 rfl ?_
  refine zb_icmp_le X 165 dX3_reckon_158 (by decide) (fun c12 => ?_) (fun c12 => ?_)
  · have h := h.1 c12
    refine zb_iload_n X dX3_reckon_165 rfl 2 rfl ?_
    refine zb_sub [] rfl ?_
    exact tX3_reckon_166 X w0 hw0 p1 p2 hR  p2 al h
  · have h := h.2 c12
    refine zb_iload_n X dX3_reckon_161 rfl 1 rfl ?_
    refine zb_goto X 166 dX3_reckon_162 (by decide) ?_
    refine zb_sub [] rfl ?_
    exact tX3_reckon_166 X w0 hw0 p1 p2 hR  p1 al h

abbrev rmX9_quotient : Room := { frames := 1, cells := 0, slots := 0, locals := 22 }
def vcX9_quotient_13 (G : zG) (r : Bool) (ad ln : Nat → Nat) (p0 : Int32) (p1 : Int32)  (post : Int32 → (Nat → Nat → Int32) → Prop) (s0 : Int32) (al : Nat → Nat → Int32) : Prop :=
  post s0 al
def vcX9_quotient_0 (G : zG) (r : Bool) (ad ln : Nat → Nat) (p0 : Int32) (p1 : Int32)  (post : Int32 → (Nat → Nat → Int32) → Prop) (al : Nat → Nat → Int32) : Prop :=
  (p1 ≤ 0 → vcX9_quotient_13 G r ad ln p0 p1  post (0 : Int32) al) ∧ (¬ p1 ≤ 0 → zMi G yJ9_floorDiv_7cf53 wsJ9_floorDiv_7cf53 rmJ9_floorDiv_7cf53 (zTC r) ad ln [.int p0, .int p1] al (fun q2 a2 => vcX9_quotient_13 G r ad ln p0 p1  post q2 a2))
set_option maxRecDepth 20000 in
theorem tX9_quotient_13 {G : zG} {Z : zC} {r : Bool} {ad ln : Nat → Nat} (X : zX G Z cX9_quotient 2 RX9 wsX9_quotient) (p0 : Int32) (p1 : Int32)  {post : Int32 → (Nat → Nat → Int32) → Prop} (hR : zRi G Z rmX9_quotient 2 (zTC r) ad ln cX9_quotient .int post)  (s0 : Int32) (al : Nat → Nat → Int32) (h : vcX9_quotient_13 G r ad ln p0 p1  post s0 al) : zB G Z rmX9_quotient 2 (zTC r) ad ln 0 0 13 [] [.int s0] al := by
  unfold vcX9_quotient_13 at h
  exact hR 13 _ _ _ dX9_quotient_13 rfl h
set_option maxRecDepth 20000 in
theorem tX9_quotient_0 {G : zG} {Z : zC} {r : Bool} {ad ln : Nat → Nat} (X : zX G Z cX9_quotient 2 RX9 wsX9_quotient) (p0 : Int32) (p1 : Int32)  {post : Int32 → (Nat → Nat → Int32) → Prop} (hR : zRi G Z rmX9_quotient 2 (zTC r) ad ln cX9_quotient .int post)  (al : Nat → Nat → Int32) (h : vcX9_quotient_0 G r ad ln p0 p1  post  al) : zB G Z rmX9_quotient 2 (zTC r) ad ln 0 0 0 [(0, .int p0), (1, .int p1)] [] al := by
  unfold vcX9_quotient_0 at h
  refine zb_iload_n X dX9_quotient_0 rfl 1 rfl ?_
  refine zb_if_le X 12 dX9_quotient_1 (by decide) (fun c1 => ?_) (fun c1 => ?_)
  · have h := h.1 c1
    refine zb_iconst X (0 : Int32) dX9_quotient_12 (by decide) ?_
    refine zb_sub [] rfl ?_
    exact tX9_quotient_13 X p0 p1 hR  (0 : Int32) al h
  · have h := h.2 c1
    refine zb_iload_n X dX9_quotient_4 rfl 0 rfl ?_
    refine zb_iload_n X dX9_quotient_5 rfl 1 rfl ?_
    refine zb_callSi (n := 2) X h gX9_quotient_J9_floorDiv_7cf53 rfl (by decide +kernel) (by decide) rfl rfl (Nat.le_of_ble_eq_true rfl) dX9_quotient_6 (kc' := 0) (ks' := 0) rfl rfl (fun q2 a2 h => ?_)
    refine zb_goto X 13 dX9_quotient_9 (by decide) ?_
    refine zb_sub [] rfl ?_
    exact tX9_quotient_13 X p0 p1 hR  q2 a2 h

abbrev rmX9_rest : Room := { frames := 1, cells := 0, slots := 0, locals := 22 }
def vcX9_rest_13 (G : zG) (r : Bool) (ad ln : Nat → Nat) (p0 : Int32) (p1 : Int32)  (post : Int32 → (Nat → Nat → Int32) → Prop) (s0 : Int32) (al : Nat → Nat → Int32) : Prop :=
  post s0 al
def vcX9_rest_0 (G : zG) (r : Bool) (ad ln : Nat → Nat) (p0 : Int32) (p1 : Int32)  (post : Int32 → (Nat → Nat → Int32) → Prop) (al : Nat → Nat → Int32) : Prop :=
  (p1 ≤ 0 → vcX9_rest_13 G r ad ln p0 p1  post (0 : Int32) al) ∧ (¬ p1 ≤ 0 → zMi G yJ9_floorMod_7cf53 wsJ9_floorMod_7cf53 rmJ9_floorMod_7cf53 (zTC r) ad ln [.int p0, .int p1] al (fun q2 a2 => vcX9_rest_13 G r ad ln p0 p1  post q2 a2))
set_option maxRecDepth 20000 in
theorem tX9_rest_13 {G : zG} {Z : zC} {r : Bool} {ad ln : Nat → Nat} (X : zX G Z cX9_rest 2 RX9 wsX9_rest) (p0 : Int32) (p1 : Int32)  {post : Int32 → (Nat → Nat → Int32) → Prop} (hR : zRi G Z rmX9_rest 2 (zTC r) ad ln cX9_rest .int post)  (s0 : Int32) (al : Nat → Nat → Int32) (h : vcX9_rest_13 G r ad ln p0 p1  post s0 al) : zB G Z rmX9_rest 2 (zTC r) ad ln 0 0 13 [] [.int s0] al := by
  unfold vcX9_rest_13 at h
  exact hR 13 _ _ _ dX9_rest_13 rfl h
set_option maxRecDepth 20000 in
theorem tX9_rest_0 {G : zG} {Z : zC} {r : Bool} {ad ln : Nat → Nat} (X : zX G Z cX9_rest 2 RX9 wsX9_rest) (p0 : Int32) (p1 : Int32)  {post : Int32 → (Nat → Nat → Int32) → Prop} (hR : zRi G Z rmX9_rest 2 (zTC r) ad ln cX9_rest .int post)  (al : Nat → Nat → Int32) (h : vcX9_rest_0 G r ad ln p0 p1  post  al) : zB G Z rmX9_rest 2 (zTC r) ad ln 0 0 0 [(0, .int p0), (1, .int p1)] [] al := by
  unfold vcX9_rest_0 at h
  refine zb_iload_n X dX9_rest_0 rfl 1 rfl ?_
  refine zb_if_le X 12 dX9_rest_1 (by decide) (fun c1 => ?_) (fun c1 => ?_)
  · have h := h.1 c1
    refine zb_iconst X (0 : Int32) dX9_rest_12 (by decide) ?_
    refine zb_sub [] rfl ?_
    exact tX9_rest_13 X p0 p1 hR  (0 : Int32) al h
  · have h := h.2 c1
    refine zb_iload_n X dX9_rest_4 rfl 0 rfl ?_
    refine zb_iload_n X dX9_rest_5 rfl 1 rfl ?_
    refine zb_callSi (n := 2) X h gX9_rest_J9_floorMod_7cf53 rfl (by decide +kernel) (by decide) rfl rfl (Nat.le_of_ble_eq_true rfl) dX9_rest_6 (kc' := 0) (ks' := 0) rfl rfl (fun q2 a2 h => ?_)
    refine zb_goto X 13 dX9_rest_9 (by decide) ?_
    refine zb_sub [] rfl ?_
    exact tX9_rest_13 X p0 p1 hR  q2 a2 h

abbrev rmX9_isInGroup : Room := { frames := 0, cells := 0, slots := 0, locals := 0 }
def vcX9_isInGroup_44 (G : zG) (r : Bool) (ad ln : Nat → Nat) (p0 : Int32) (p1 : Int32)  (post : Int32 → (Nat → Nat → Int32) → Prop) (s0 : Int32) (al : Nat → Nat → Int32) : Prop :=
  zOk .boolean s0 ∧ post s0 al
def vcX9_isInGroup_39 (G : zG) (r : Bool) (ad ln : Nat → Nat) (p0 : Int32) (p1 : Int32)  (post : Int32 → (Nat → Nat → Int32) → Prop) (al : Nat → Nat → Int32) : Prop :=
  vcX9_isInGroup_44 G r ad ln p0 p1  post (1 : Int32) al
def vcX9_isInGroup_60 (G : zG) (r : Bool) (ad ln : Nat → Nat) (p0 : Int32) (p1 : Int32)  (post : Int32 → (Nat → Nat → Int32) → Prop) (s0 : Int32) (al : Nat → Nat → Int32) : Prop :=
  zOk .boolean s0 ∧ post s0 al
def vcX9_isInGroup_55 (G : zG) (r : Bool) (ad ln : Nat → Nat) (p0 : Int32) (p1 : Int32)  (post : Int32 → (Nat → Nat → Int32) → Prop) (al : Nat → Nat → Int32) : Prop :=
  vcX9_isInGroup_60 G r ad ln p0 p1  post (1 : Int32) al
def vcX9_isInGroup_71 (G : zG) (r : Bool) (ad ln : Nat → Nat) (p0 : Int32) (p1 : Int32)  (post : Int32 → (Nat → Nat → Int32) → Prop) (s0 : Int32) (al : Nat → Nat → Int32) : Prop :=
  zOk .boolean s0 ∧ post s0 al
def vcX9_isInGroup_0 (G : zG) (r : Bool) (ad ln : Nat → Nat) (p0 : Int32) (p1 : Int32)  (post : Int32 → (Nat → Nat → Int32) → Prop) (al : Nat → Nat → Int32) : Prop :=
  (p1 = (0 : Int32) → post (1 : Int32) al) ∧ (¬ p1 = (0 : Int32) → (p1 = (1 : Int32) → (p0 = 0 → vcX9_isInGroup_39 G r ad ln p0 p1  post  al) ∧ (¬ p0 = 0 → (¬ p0 = (1 : Int32) → vcX9_isInGroup_44 G r ad ln p0 p1  post (0 : Int32) al) ∧ (p0 = (1 : Int32) → vcX9_isInGroup_39 G r ad ln p0 p1  post  al))) ∧ (¬ p1 = (1 : Int32) → (p1 = (2 : Int32) → (p0 = (2 : Int32) → vcX9_isInGroup_55 G r ad ln p0 p1  post  al) ∧ (¬ p0 = (2 : Int32) → (¬ p0 = (3 : Int32) → vcX9_isInGroup_60 G r ad ln p0 p1  post (0 : Int32) al) ∧ (p0 = (3 : Int32) → vcX9_isInGroup_55 G r ad ln p0 p1  post  al))) ∧ (¬ p1 = (2 : Int32) → (¬ p0 = (1 : Int32) → vcX9_isInGroup_71 G r ad ln p0 p1  post (0 : Int32) al) ∧ (p0 = (1 : Int32) → vcX9_isInGroup_71 G r ad ln p0 p1  post (1 : Int32) al))))
set_option maxRecDepth 20000 in
theorem tX9_isInGroup_44 {G : zG} {Z : zC} {r : Bool} {ad ln : Nat → Nat} (X : zX G Z cX9_isInGroup 2 RX9 wsX9_isInGroup) (p0 : Int32) (p1 : Int32)  {post : Int32 → (Nat → Nat → Int32) → Prop} (hR : zRi G Z rmX9_isInGroup 2 (zTC r) ad ln cX9_isInGroup .boolean post)  (s0 : Int32) (al : Nat → Nat → Int32) (h : vcX9_isInGroup_44 G r ad ln p0 p1  post s0 al) : zB G Z rmX9_isInGroup 2 (zTC r) ad ln 0 0 44 [] [.int s0] al := by
  unfold vcX9_isInGroup_44 at h
  exact hR 44 _ _ _ dX9_isInGroup_44 h.1 h.2
set_option maxRecDepth 20000 in
theorem tX9_isInGroup_39 {G : zG} {Z : zC} {r : Bool} {ad ln : Nat → Nat} (X : zX G Z cX9_isInGroup 2 RX9 wsX9_isInGroup) (p0 : Int32) (p1 : Int32)  {post : Int32 → (Nat → Nat → Int32) → Prop} (hR : zRi G Z rmX9_isInGroup 2 (zTC r) ad ln cX9_isInGroup .boolean post)  (al : Nat → Nat → Int32) (h : vcX9_isInGroup_39 G r ad ln p0 p1  post  al) : zB G Z rmX9_isInGroup 2 (zTC r) ad ln 0 0 39 [] [] al := by
  unfold vcX9_isInGroup_39 at h
  refine zb_iconst X (1 : Int32) dX9_isInGroup_39 (by decide) ?_
  refine zb_goto X 44 dX9_isInGroup_40 (by decide) ?_
  refine zb_sub [] rfl ?_
  exact tX9_isInGroup_44 X p0 p1 hR  (1 : Int32) al h
set_option maxRecDepth 20000 in
theorem tX9_isInGroup_60 {G : zG} {Z : zC} {r : Bool} {ad ln : Nat → Nat} (X : zX G Z cX9_isInGroup 2 RX9 wsX9_isInGroup) (p0 : Int32) (p1 : Int32)  {post : Int32 → (Nat → Nat → Int32) → Prop} (hR : zRi G Z rmX9_isInGroup 2 (zTC r) ad ln cX9_isInGroup .boolean post)  (s0 : Int32) (al : Nat → Nat → Int32) (h : vcX9_isInGroup_60 G r ad ln p0 p1  post s0 al) : zB G Z rmX9_isInGroup 2 (zTC r) ad ln 0 0 60 [] [.int s0] al := by
  unfold vcX9_isInGroup_60 at h
  exact hR 60 _ _ _ dX9_isInGroup_60 h.1 h.2
set_option maxRecDepth 20000 in
theorem tX9_isInGroup_55 {G : zG} {Z : zC} {r : Bool} {ad ln : Nat → Nat} (X : zX G Z cX9_isInGroup 2 RX9 wsX9_isInGroup) (p0 : Int32) (p1 : Int32)  {post : Int32 → (Nat → Nat → Int32) → Prop} (hR : zRi G Z rmX9_isInGroup 2 (zTC r) ad ln cX9_isInGroup .boolean post)  (al : Nat → Nat → Int32) (h : vcX9_isInGroup_55 G r ad ln p0 p1  post  al) : zB G Z rmX9_isInGroup 2 (zTC r) ad ln 0 0 55 [] [] al := by
  unfold vcX9_isInGroup_55 at h
  refine zb_iconst X (1 : Int32) dX9_isInGroup_55 (by decide) ?_
  refine zb_goto X 60 dX9_isInGroup_56 (by decide) ?_
  refine zb_sub [] rfl ?_
  exact tX9_isInGroup_60 X p0 p1 hR  (1 : Int32) al h
set_option maxRecDepth 20000 in
theorem tX9_isInGroup_71 {G : zG} {Z : zC} {r : Bool} {ad ln : Nat → Nat} (X : zX G Z cX9_isInGroup 2 RX9 wsX9_isInGroup) (p0 : Int32) (p1 : Int32)  {post : Int32 → (Nat → Nat → Int32) → Prop} (hR : zRi G Z rmX9_isInGroup 2 (zTC r) ad ln cX9_isInGroup .boolean post)  (s0 : Int32) (al : Nat → Nat → Int32) (h : vcX9_isInGroup_71 G r ad ln p0 p1  post s0 al) : zB G Z rmX9_isInGroup 2 (zTC r) ad ln 0 0 71 [] [.int s0] al := by
  unfold vcX9_isInGroup_71 at h
  exact hR 71 _ _ _ dX9_isInGroup_71 h.1 h.2
set_option maxRecDepth 20000 in
theorem tX9_isInGroup_0 {G : zG} {Z : zC} {r : Bool} {ad ln : Nat → Nat} (X : zX G Z cX9_isInGroup 2 RX9 wsX9_isInGroup) (p0 : Int32) (p1 : Int32)  {post : Int32 → (Nat → Nat → Int32) → Prop} (hR : zRi G Z rmX9_isInGroup 2 (zTC r) ad ln cX9_isInGroup .boolean post)  (al : Nat → Nat → Int32) (h : vcX9_isInGroup_0 G r ad ln p0 p1  post  al) : zB G Z rmX9_isInGroup 2 (zTC r) ad ln 0 0 0 [(0, .int p0), (1, .int p1)] [] al := by
  unfold vcX9_isInGroup_0 at h
  refine zb_iload_n X dX9_isInGroup_0 rfl 1 rfl ?_
  by_cases c1 : p1 = (0 : Int32)
  · have h := h.1 c1
    refine zb_tabIn X 28 dX9_isInGroup_1 (by rw [c1]; decide) (by rw [c1]; decide) (by rw [c1]; rfl) (by decide) ?_
    refine zb_iconst X (1 : Int32) dX9_isInGroup_28 (by decide) ?_
    exact hR 29 _ _ _ dX9_isInGroup_29 rfl h
  have h := h.2 c1
  by_cases c2 : p1 = (1 : Int32)
  · have h := h.1 c2
    refine zb_tabIn X 30 dX9_isInGroup_1 (by rw [c2]; decide) (by rw [c2]; decide) (by rw [c2]; rfl) (by decide) ?_
    refine zb_iload_n X dX9_isInGroup_30 rfl 0 rfl ?_
    refine zb_if_eq X 39 dX9_isInGroup_31 (by decide) (fun c3 => ?_) (fun c3 => ?_)
    · have h := h.1 c3
      refine zb_sub [] rfl ?_
      exact tX9_isInGroup_39 X p0 p1 hR   al h
    · have h := h.2 c3
      refine zb_iload_n X dX9_isInGroup_34 rfl 0 rfl ?_
      refine zb_iconst X (1 : Int32) dX9_isInGroup_35 (by decide) ?_
      refine zb_icmp_ne X 43 dX9_isInGroup_36 (by decide) (fun c4 => ?_) (fun c4 => ?_)
      · have h := h.1 c4
        refine zb_iconst X (0 : Int32) dX9_isInGroup_43 (by decide) ?_
        refine zb_sub [] rfl ?_
        exact tX9_isInGroup_44 X p0 p1 hR  (0 : Int32) al h
      · have h := h.2 c4
        refine zb_sub [] rfl ?_
        exact tX9_isInGroup_39 X p0 p1 hR   al h
  have h := h.2 c2
  by_cases c3 : p1 = (2 : Int32)
  · have h := h.1 c3
    refine zb_tabIn X 45 dX9_isInGroup_1 (by rw [c3]; decide) (by rw [c3]; decide) (by rw [c3]; rfl) (by decide) ?_
    refine zb_iload_n X dX9_isInGroup_45 rfl 0 rfl ?_
    refine zb_iconst X (2 : Int32) dX9_isInGroup_46 (by decide) ?_
    refine zb_icmp_eq X 55 dX9_isInGroup_47 (by decide) (fun c4 => ?_) (fun c4 => ?_)
    · have h := h.1 c4
      refine zb_sub [] rfl ?_
      exact tX9_isInGroup_55 X p0 p1 hR   al h
    · have h := h.2 c4
      refine zb_iload_n X dX9_isInGroup_50 rfl 0 rfl ?_
      refine zb_iconst X (3 : Int32) dX9_isInGroup_51 (by decide) ?_
      refine zb_icmp_ne X 59 dX9_isInGroup_52 (by decide) (fun c5 => ?_) (fun c5 => ?_)
      · have h := h.1 c5
        refine zb_iconst X (0 : Int32) dX9_isInGroup_59 (by decide) ?_
        refine zb_sub [] rfl ?_
        exact tX9_isInGroup_60 X p0 p1 hR  (0 : Int32) al h
      · have h := h.2 c5
        refine zb_sub [] rfl ?_
        exact tX9_isInGroup_55 X p0 p1 hR   al h
  have h := h.2 c3
  refine zb_tabOut X 61 dX9_isInGroup_1 (by have e0 := zne_int c1; have e1 := zne_int c2; have e2 := zne_int c3; rw [show (0 : Int32).toInt = 0 from by decide] at e0; rw [show (1 : Int32).toInt = 1 from by decide] at e1; rw [show (2 : Int32).toInt = 2 from by decide] at e2; omega) (by decide) ?_
  refine zb_iload_n X dX9_isInGroup_61 rfl 0 rfl ?_
  refine zb_iconst X (1 : Int32) dX9_isInGroup_62 (by decide) ?_
  refine zb_icmp_ne X 70 dX9_isInGroup_63 (by decide) (fun c5 => ?_) (fun c5 => ?_)
  · have h := h.1 c5
    refine zb_iconst X (0 : Int32) dX9_isInGroup_70 (by decide) ?_
    refine zb_sub [] rfl ?_
    exact tX9_isInGroup_71 X p0 p1 hR  (0 : Int32) al h
  · have h := h.2 c5
    refine zb_iconst X (1 : Int32) dX9_isInGroup_66 (by decide) ?_
    refine zb_goto X 71 dX9_isInGroup_67 (by decide) ?_
    refine zb_sub [] rfl ?_
    exact tX9_isInGroup_71 X p0 p1 hR  (1 : Int32) al h

abbrev rmX9_roundsOfUse : Room := { frames := 0, cells := 0, slots := 0, locals := 0 }
def vcX9_roundsOfUse_10 (G : zG) (r : Bool) (ad ln : Nat → Nat) (p0 : Int32) (p1 : Int32)  (post : Int32 → (Nat → Nat → Int32) → Prop) (s0 : Int32) (al : Nat → Nat → Int32) : Prop :=
  post s0 al
def vcX9_roundsOfUse_0 (G : zG) (r : Bool) (ad ln : Nat → Nat) (p0 : Int32) (p1 : Int32)  (post : Int32 → (Nat → Nat → Int32) → Prop) (al : Nat → Nat → Int32) : Prop :=
  (p1 ≤ p0 → vcX9_roundsOfUse_10 G r ad ln p0 p1  post (1 : Int32) al) ∧ (¬ p1 ≤ p0 → vcX9_roundsOfUse_10 G r ad ln p0 p1  post (0 : Int32) al)
set_option maxRecDepth 20000 in
theorem tX9_roundsOfUse_10 {G : zG} {Z : zC} {r : Bool} {ad ln : Nat → Nat} (X : zX G Z cX9_roundsOfUse 2 RX9 wsX9_roundsOfUse) (p0 : Int32) (p1 : Int32)  {post : Int32 → (Nat → Nat → Int32) → Prop} (hR : zRi G Z rmX9_roundsOfUse 2 (zTC r) ad ln cX9_roundsOfUse .int post)  (s0 : Int32) (al : Nat → Nat → Int32) (h : vcX9_roundsOfUse_10 G r ad ln p0 p1  post s0 al) : zB G Z rmX9_roundsOfUse 2 (zTC r) ad ln 0 0 10 [] [.int s0] al := by
  unfold vcX9_roundsOfUse_10 at h
  exact hR 10 _ _ _ dX9_roundsOfUse_10 rfl h
set_option maxRecDepth 20000 in
theorem tX9_roundsOfUse_0 {G : zG} {Z : zC} {r : Bool} {ad ln : Nat → Nat} (X : zX G Z cX9_roundsOfUse 2 RX9 wsX9_roundsOfUse) (p0 : Int32) (p1 : Int32)  {post : Int32 → (Nat → Nat → Int32) → Prop} (hR : zRi G Z rmX9_roundsOfUse 2 (zTC r) ad ln cX9_roundsOfUse .int post)  (al : Nat → Nat → Int32) (h : vcX9_roundsOfUse_0 G r ad ln p0 p1  post  al) : zB G Z rmX9_roundsOfUse 2 (zTC r) ad ln 0 0 0 [(0, .int p0), (1, .int p1)] [] al := by
  unfold vcX9_roundsOfUse_0 at h
  refine zb_iload_n X dX9_roundsOfUse_0 rfl 1 rfl ?_
  refine zb_iload_n X dX9_roundsOfUse_1 rfl 0 rfl ?_
  refine zb_icmp_le X 9 dX9_roundsOfUse_2 (by decide) (fun c1 => ?_) (fun c1 => ?_)
  · have h := h.1 c1
    refine zb_iconst X (1 : Int32) dX9_roundsOfUse_9 (by decide) ?_
    refine zb_sub [] rfl ?_
    exact tX9_roundsOfUse_10 X p0 p1 hR  (1 : Int32) al h
  · have h := h.2 c1
    refine zb_iconst X (0 : Int32) dX9_roundsOfUse_5 (by decide) ?_
    refine zb_goto X 10 dX9_roundsOfUse_6 (by decide) ?_
    refine zb_sub [] rfl ?_
    exact tX9_roundsOfUse_10 X p0 p1 hR  (0 : Int32) al h

abbrev rmX9_appendBytes : Room := { frames := 0, cells := 0, slots := 0, locals := 0 }
theorem kX9_appendBytes_0 : Cond.fieldLink RX9 76 RX9 "tapeLength" "I" ∈ wsX9_appendBytes := by decide +kernel
theorem kX9_appendBytes_1 : zIn RX9 TX9 15 wsX9_appendBytes := by decide +kernel
theorem kX9_appendBytes_2 : Cond.fieldLink RX9 9 RX9 "tape" "[B" ∈ wsX9_appendBytes := by decide +kernel
abbrev BX9_appendBytes_3 (G : zG) (Z : zC) (r : Bool) (ad ln : Nat → Nat) (p1 : Int32) (x2 : Int32) (al : Nat → Nat → Int32) : Prop := zB G Z rmX9_appendBytes 3 (zTC r) ad ln 0 0 3 [(0, .ref (ad 0)), (1, .int p1), (2, .int x2)] [] al
def vcX9_appendBytes_0 (G : zG) (r : Bool) (ad ln : Nat → Nat) (p1 : Int32) (K3 : Int32 → (Nat → Nat → Int32) → Prop) (post : (Nat → Nat → Int32) → Prop) (al : Nat → Nat → Int32) : Prop :=
  K3 (24 : Int32) al
def vcX9_appendBytes_46 (G : zG) (r : Bool) (ad ln : Nat → Nat) (p1 : Int32) (K3 : Int32 → (Nat → Nat → Int32) → Prop) (post : (Nat → Nat → Int32) → Prop) (al : Nat → Nat → Int32) : Prop :=
  post al
def vcX9_appendBytes_3 (G : zG) (r : Bool) (ad ln : Nat → Nat) (p1 : Int32) (K3 : Int32 → (Nat → Nat → Int32) → Prop) (post : (Nat → Nat → Int32) → Prop) (x2 : Int32) (al : Nat → Nat → Int32) : Prop :=
  (x2 < 0 → vcX9_appendBytes_46 G r ad ln p1 K3 post  al) ∧ (¬ x2 < 0 → ((4096 : Int32) ≤ (al 0 1) → vcX9_appendBytes_46 G r ad ln p1 K3 post  al) ∧ (¬ (4096 : Int32) ≤ (al 0 1) → (vp_in (al 0 1) 4096 ∧ K3 (x2 + (-8 : Int32)) (up2 (up2 al 1 ((al 0 1).toNatClampNeg) (((p1 >>> (x2 &&& 31)).toInt8.toInt32).toInt8.toInt32)) 0 1 ((al 0 1) + (1 : Int32))))))
set_option maxRecDepth 20000 in
theorem tX9_appendBytes_0 {G : zG} {Z : zC} {r : Bool} {ad ln : Nat → Nat} (X : zX G Z cX9_appendBytes 3 RX9 wsX9_appendBytes) (p1 : Int32) {K3 : Int32 → (Nat → Nat → Int32) → Prop} {post : (Nat → Nat → Int32) → Prop} (hR : zRv G Z rmX9_appendBytes 3 (zTC r) ad ln cX9_appendBytes post) (hK3 : ∀ x2 : Int32, ∀ al, K3 x2 al → zB G Z rmX9_appendBytes 3 (zTC r) ad ln 0 0 3 [(0, .ref (ad 0)), (1, .int p1), (2, .int x2)] [] al) (al : Nat → Nat → Int32) (h : vcX9_appendBytes_0 G r ad ln p1 K3 post  al) : zB G Z rmX9_appendBytes 3 (zTC r) ad ln 0 0 0 [(0, .ref (ad 0)), (1, .int p1)] [] al := by
  unfold vcX9_appendBytes_0 at h
  refine zb_bipush X (24 : Int32) dX9_appendBytes_0 (by decide) ?_
  refine zb_istore_n X (lv' := [(2, .int (24 : Int32)), (0, .ref (ad 0)), (1, .int p1)]) dX9_appendBytes_2 rfl (by decide) rfl ?_
  refine zb_sub [1, 2, 0] rfl ?_
  exact hK3 (24 : Int32) al h
set_option maxRecDepth 20000 in
theorem tX9_appendBytes_46 {G : zG} {Z : zC} {r : Bool} {ad ln : Nat → Nat} (X : zX G Z cX9_appendBytes 3 RX9 wsX9_appendBytes) (p1 : Int32) {K3 : Int32 → (Nat → Nat → Int32) → Prop} {post : (Nat → Nat → Int32) → Prop} (hR : zRv G Z rmX9_appendBytes 3 (zTC r) ad ln cX9_appendBytes post) (hK3 : ∀ x2 : Int32, ∀ al, K3 x2 al → zB G Z rmX9_appendBytes 3 (zTC r) ad ln 0 0 3 [(0, .ref (ad 0)), (1, .int p1), (2, .int x2)] [] al) (al : Nat → Nat → Int32) (h : vcX9_appendBytes_46 G r ad ln p1 K3 post  al) : zB G Z rmX9_appendBytes 3 (zTC r) ad ln 0 0 46 [] [] al := by
  unfold vcX9_appendBytes_46 at h
  exact hR 46 _ _ dX9_appendBytes_46 h
set_option maxRecDepth 20000 in
theorem tX9_appendBytes_3 {G : zG} {Z : zC} {r : Bool} {ad ln : Nat → Nat} (X : zX G Z cX9_appendBytes 3 RX9 wsX9_appendBytes) (p1 : Int32) {K3 : Int32 → (Nat → Nat → Int32) → Prop} {post : (Nat → Nat → Int32) → Prop} (hR : zRv G Z rmX9_appendBytes 3 (zTC r) ad ln cX9_appendBytes post) (hK3 : ∀ x2 : Int32, ∀ al, K3 x2 al → zB G Z rmX9_appendBytes 3 (zTC r) ad ln 0 0 3 [(0, .ref (ad 0)), (1, .int p1), (2, .int x2)] [] al) (x2 : Int32) (al : Nat → Nat → Int32) (h : vcX9_appendBytes_3 G r ad ln p1 K3 post x2 al) : zB G Z rmX9_appendBytes 3 (zTC r) ad ln 0 0 3 [(0, .ref (ad 0)), (1, .int p1), (2, .int x2)] [] al := by
  unfold vcX9_appendBytes_3 at h
  refine zb_iload_n X dX9_appendBytes_3 rfl 2 rfl ?_
  refine zb_if_lt X 46 dX9_appendBytes_4 (by decide) (fun c1 => ?_) (fun c1 => ?_)
  · have h := h.1 c1
    refine zb_sub [] rfl ?_
    exact tX9_appendBytes_46 X p1 hR hK3  al h
  · have h := h.2 c1
    refine zb_aload_n X dX9_appendBytes_7 rfl 0 rfl ?_
    refine zb_getI X 0 (zTC_lt (by decide)) 9 [3, 0, 4, 5, 6, 9, 14, 20, 24, if r then 175 else 1, 0, 0, 0, 0, 0] rfl (C := RX9) (Tt := TX9) (N := 15) rfl kX9_appendBytes_1 1 (by decide) rfl kX9_appendBytes_0 rfl dX9_appendBytes_8 (al 0 1) rfl ?_
    refine zb_sipush X (4096 : Int32) dX9_appendBytes_11 (by decide) ?_
    refine zb_icmp_ge X 46 dX9_appendBytes_14 (by decide) (fun c2 => ?_) (fun c2 => ?_)
    · have h := h.1 c2
      refine zb_sub [] rfl ?_
      exact tX9_appendBytes_46 X p1 hR hK3  al h
    · have h := h.2 c2
      refine zb_aload_n X dX9_appendBytes_17 rfl 0 rfl ?_
      refine zb_getR X 0 (zTC_lt (by decide)) 9 [3, 0, 4, 5, 6, 9, 14, 20, 24, if r then 175 else 1, 0, 0, 0, 0, 0] rfl (C := RX9) (Tt := TX9) (N := 15) rfl kX9_appendBytes_1 0 (by decide) 1 rfl kX9_appendBytes_2 rfl dX9_appendBytes_18 ?_
      refine zb_aload_n X dX9_appendBytes_21 rfl 0 rfl ?_
      refine zb_getI X 0 (zTC_lt (by decide)) 9 [3, 0, 4, 5, 6, 9, 14, 20, 24, if r then 175 else 1, 0, 0, 0, 0, 0] rfl (C := RX9) (Tt := TX9) (N := 15) rfl kX9_appendBytes_1 1 (by decide) rfl kX9_appendBytes_0 rfl dX9_appendBytes_22 (al 0 1) rfl ?_
      refine zb_iload_n X dX9_appendBytes_25 rfl 1 rfl ?_
      refine zb_iload_n X dX9_appendBytes_26 rfl 2 rfl ?_
      refine zb_ishr X dX9_appendBytes_27 ?_
      refine zb_i2b X dX9_appendBytes_28 ?_
      obtain ⟨hz, h⟩ := h
      refine zb_bast X 1 (zTC_lt (by decide)) 4096 0 0 rfl ((al 0 1).toNatClampNeg) rfl hz dX9_appendBytes_29 ?_
      refine zb_aload_n X dX9_appendBytes_30 rfl 0 rfl ?_
      refine zb_dup X dX9_appendBytes_31 rfl ?_
      refine zb_getI X 0 (zTC_lt (by decide)) 9 [3, 0, 4, 5, 6, 9, 14, 20, 24, if r then 175 else 1, 0, 0, 0, 0, 0] rfl (C := RX9) (Tt := TX9) (N := 15) rfl kX9_appendBytes_1 1 (by decide) rfl kX9_appendBytes_0 rfl dX9_appendBytes_32 (al 0 1) rfl ?_
      refine zb_iconst X (1 : Int32) dX9_appendBytes_35 (by decide) ?_
      refine zb_iadd X dX9_appendBytes_36 ?_
      refine zb_putI X 0 (zTC_lt (by decide)) 9 [3, 0, 4, 5, 6, 9, 14, 20, 24, if r then 175 else 1, 0, 0, 0, 0, 0] rfl (C := RX9) (Tt := TX9) (N := 15) rfl kX9_appendBytes_1 tyX9 tyX9_ok nmX9 1 (by decide) rfl kX9_appendBytes_0 rfl rfl rfl rfl dX9_appendBytes_37 ?_
      refine zb_iinc X (lv' := [(2, .int (x2 + (-8 : Int32))), (0, .ref (ad 0)), (1, .int p1)]) (x2 + (-8 : Int32)) dX9_appendBytes_40 2 rfl rfl (by decide) rfl ?_
      refine zb_goto X 3 dX9_appendBytes_43 (by decide) ?_
      refine zb_sub [1, 2, 0] rfl ?_
      exact hK3 (x2 + (-8 : Int32)) (up2 (up2 al 1 ((al 0 1).toNatClampNeg) (((p1 >>> (x2 &&& 31)).toInt8.toInt32).toInt8.toInt32)) 0 1 ((al 0 1) + (1 : Int32))) h
theorem uX9_appendBytes_0 {G : zG} {Z : zC} {r : Bool} {ad ln : Nat → Nat} (X : zX G Z cX9_appendBytes 3 RX9 wsX9_appendBytes) (p1 : Int32) {post : (Nat → Nat → Int32) → Prop} (hR : zRv G Z rmX9_appendBytes 3 (zTC r) ad ln cX9_appendBytes post) (al : Nat → Nat → Int32) (h : vcX9_appendBytes_0 G r ad ln p1 (BX9_appendBytes_3 G Z r ad ln p1) post  al) : zB G Z rmX9_appendBytes 3 (zTC r) ad ln 0 0 0 [(0, .ref (ad 0)), (1, .int p1)] [] al := tX9_appendBytes_0 X p1 hR (fun _ _ h => h)  al h
theorem uX9_appendBytes_46 {G : zG} {Z : zC} {r : Bool} {ad ln : Nat → Nat} (X : zX G Z cX9_appendBytes 3 RX9 wsX9_appendBytes) (p1 : Int32) {post : (Nat → Nat → Int32) → Prop} (hR : zRv G Z rmX9_appendBytes 3 (zTC r) ad ln cX9_appendBytes post) (al : Nat → Nat → Int32) (h : vcX9_appendBytes_46 G r ad ln p1 (BX9_appendBytes_3 G Z r ad ln p1) post  al) : zB G Z rmX9_appendBytes 3 (zTC r) ad ln 0 0 46 [] [] al := tX9_appendBytes_46 X p1 hR (fun _ _ h => h)  al h
theorem uX9_appendBytes_3 {G : zG} {Z : zC} {r : Bool} {ad ln : Nat → Nat} (X : zX G Z cX9_appendBytes 3 RX9 wsX9_appendBytes) (p1 : Int32) {post : (Nat → Nat → Int32) → Prop} (hR : zRv G Z rmX9_appendBytes 3 (zTC r) ad ln cX9_appendBytes post) (x2 : Int32) (al : Nat → Nat → Int32) (h : vcX9_appendBytes_3 G r ad ln p1 (BX9_appendBytes_3 G Z r ad ln p1) post x2 al) : zB G Z rmX9_appendBytes 3 (zTC r) ad ln 0 0 3 [(0, .ref (ad 0)), (1, .int p1), (2, .int x2)] [] al := tX9_appendBytes_3 X p1 hR (fun _ _ h => h) x2 al h

abbrev rmX9_forgetPlan : Room := { frames := 0, cells := 0, slots := 0, locals := 0 }
theorem kX9_forgetPlan_0 : Cond.fieldLink RX9 228 RX9 "waitsKnown" "Z" ∈ wsX9_forgetPlan := by decide +kernel
theorem kX9_forgetPlan_1 : zIn RX9 TX9 15 wsX9_forgetPlan := by decide +kernel
theorem kX9_forgetPlan_2 : Cond.fieldLink RX9 158 RX9 "layingKnown" "Z" ∈ wsX9_forgetPlan := by decide +kernel
theorem kX9_forgetPlan_3 : Cond.fieldLink RX9 130 RX9 "distance" "I" ∈ wsX9_forgetPlan := by decide +kernel
theorem kX9_forgetPlan_4 : Cond.fieldLink RX9 118 RX9 "hasRun" "Z" ∈ wsX9_forgetPlan := by decide +kernel
def vcX9_forgetPlan_0 (G : zG) (r : Bool) (ad ln : Nat → Nat)  (post : (Nat → Nat → Int32) → Prop) (al : Nat → Nat → Int32) : Prop :=
  post (up2 (up2 (up2 (up2 al 0 11 (0 : Int32)) 0 12 (0 : Int32)) 0 13 (0 : Int32)) 0 14 (0 : Int32))
set_option maxRecDepth 20000 in
theorem tX9_forgetPlan_0 {G : zG} {Z : zC} {r : Bool} {ad ln : Nat → Nat} (X : zX G Z cX9_forgetPlan 1 RX9 wsX9_forgetPlan)  {post : (Nat → Nat → Int32) → Prop} (hR : zRv G Z rmX9_forgetPlan 1 (zTC r) ad ln cX9_forgetPlan post)  (al : Nat → Nat → Int32) (h : vcX9_forgetPlan_0 G r ad ln  post  al) : zB G Z rmX9_forgetPlan 1 (zTC r) ad ln 0 0 0 [(0, .ref (ad 0))] [] al := by
  unfold vcX9_forgetPlan_0 at h
  refine zb_aload_n X dX9_forgetPlan_0 rfl 0 rfl ?_
  refine zb_iconst X (0 : Int32) dX9_forgetPlan_1 (by decide) ?_
  refine zb_putI X 0 (zTC_lt (by decide)) 9 [3, 0, 4, 5, 6, 9, 14, 20, 24, if r then 175 else 1, 0, 0, 0, 0, 0] rfl (C := RX9) (Tt := TX9) (N := 15) rfl kX9_forgetPlan_1 tyX9 tyX9_ok nmX9 11 (by decide) rfl kX9_forgetPlan_0 rfl rfl rfl rfl dX9_forgetPlan_2 ?_
  refine zb_aload_n X dX9_forgetPlan_5 rfl 0 rfl ?_
  refine zb_iconst X (0 : Int32) dX9_forgetPlan_6 (by decide) ?_
  refine zb_putI X 0 (zTC_lt (by decide)) 9 [3, 0, 4, 5, 6, 9, 14, 20, 24, if r then 175 else 1, 0, 0, 0, 0, 0] rfl (C := RX9) (Tt := TX9) (N := 15) rfl kX9_forgetPlan_1 tyX9 tyX9_ok nmX9 12 (by decide) rfl kX9_forgetPlan_2 rfl rfl rfl rfl dX9_forgetPlan_7 ?_
  refine zb_aload_n X dX9_forgetPlan_10 rfl 0 rfl ?_
  refine zb_iconst X (0 : Int32) dX9_forgetPlan_11 (by decide) ?_
  refine zb_putI X 0 (zTC_lt (by decide)) 9 [3, 0, 4, 5, 6, 9, 14, 20, 24, if r then 175 else 1, 0, 0, 0, 0, 0] rfl (C := RX9) (Tt := TX9) (N := 15) rfl kX9_forgetPlan_1 tyX9 tyX9_ok nmX9 13 (by decide) rfl kX9_forgetPlan_3 rfl rfl rfl rfl dX9_forgetPlan_12 ?_
  refine zb_aload_n X dX9_forgetPlan_15 rfl 0 rfl ?_
  refine zb_iconst X (0 : Int32) dX9_forgetPlan_16 (by decide) ?_
  refine zb_putI X 0 (zTC_lt (by decide)) 9 [3, 0, 4, 5, 6, 9, 14, 20, 24, if r then 175 else 1, 0, 0, 0, 0, 0] rfl (C := RX9) (Tt := TX9) (N := 15) rfl kX9_forgetPlan_1 tyX9 tyX9_ok nmX9 14 (by decide) rfl kX9_forgetPlan_4 rfl rfl rfl rfl dX9_forgetPlan_17 ?_
  exact hR 20 _ _ dX9_forgetPlan_20 h

abbrev rmX0_source : Room := { frames := 0, cells := 0, slots := 0, locals := 0 }
theorem kX0_source_0 : Cond.fieldLink RX0 22 RX1 "sort" "I" ∈ wsX0_source := by decide +kernel
theorem kX0_source_1 : zIn RX1 TX1 2 wsX0_source := by decide +kernel
theorem kX0_source_2 : Cond.fieldLink RX0 17 RX0 "setter" "[I" ∈ wsX0_source := by decide +kernel
theorem kX0_source_3 : zIn RX0 TX0 3 wsX0_source := by decide +kernel
theorem kX0_source_4 : Cond.fieldLink RX0 28 RX1 "value" "I" ∈ wsX0_source := by decide +kernel
def vcX0_source_22 (G : zG) (r : Bool) (ad ln : Nat → Nat) (o1 : Nat) (ho1 : zOp r o1)  (post : Int32 → (Nat → Nat → Int32) → Prop) (s0 : Int32) (al : Nat → Nat → Int32) : Prop :=
  post s0 al
def vcX0_source_0 (G : zG) (r : Bool) (ad ln : Nat → Nat) (o1 : Nat) (ho1 : zOp r o1)  (post : Int32 → (Nat → Nat → Int32) → Prop) (al : Nat → Nat → Int32) : Prop :=
  (¬ (al o1 0) = (114 : Int32) → vcX0_source_22 G r ad ln o1 ho1  post (-1 : Int32) al) ∧ ((al o1 0) = (114 : Int32) → (vp_in (al o1 1) 32 ∧ vcX0_source_22 G r ad ln o1 ho1  post (al 6 ((al o1 1).toNatClampNeg)) al))
set_option maxRecDepth 20000 in
theorem tX0_source_22 {G : zG} {Z : zC} {r : Bool} {ad ln : Nat → Nat} (X : zX G Z cX0_source 2 RX0 wsX0_source) (o1 : Nat) (ho1 : zOp r o1)  {post : Int32 → (Nat → Nat → Int32) → Prop} (hR : zRi G Z rmX0_source 2 (zTC r) ad ln cX0_source .int post)  (s0 : Int32) (al : Nat → Nat → Int32) (h : vcX0_source_22 G r ad ln o1 ho1  post s0 al) : zB G Z rmX0_source 2 (zTC r) ad ln 0 0 22 [] [.int s0] al := by
  unfold vcX0_source_22 at h
  exact hR 22 _ _ _ dX0_source_22 rfl h
set_option maxRecDepth 20000 in
theorem tX0_source_0 {G : zG} {Z : zC} {r : Bool} {ad ln : Nat → Nat} (X : zX G Z cX0_source 2 RX0 wsX0_source) (o1 : Nat) (ho1 : zOp r o1)  {post : Int32 → (Nat → Nat → Int32) → Prop} (hR : zRi G Z rmX0_source 2 (zTC r) ad ln cX0_source .int post)  (al : Nat → Nat → Int32) (h : vcX0_source_0 G r ad ln o1 ho1  post  al) : zB G Z rmX0_source 2 (zTC r) ad ln 0 0 0 [(0, .ref (ad 4)), (1, .ref (ad o1))] [] al := by
  unfold vcX0_source_0 at h
  refine zb_aload_n X dX0_source_0 rfl 1 rfl ?_
  refine zb_getI X o1 ho1.1 1 [0, 0] ho1.2 (C := RX1) (Tt := TX1) (N := 2) rfl kX0_source_1 0 (by decide) rfl kX0_source_0 rfl dX0_source_1 (al o1 0) rfl ?_
  refine zb_bipush X (114 : Int32) dX0_source_4 (by decide) ?_
  refine zb_icmp_ne X 21 dX0_source_6 (by decide) (fun c1 => ?_) (fun c1 => ?_)
  · have h := h.1 c1
    refine zb_iconst X (-1 : Int32) dX0_source_21 (by decide) ?_
    refine zb_sub [] rfl ?_
    exact tX0_source_22 X o1 ho1 hR  (-1 : Int32) al h
  · have h := h.2 c1
    refine zb_aload_n X dX0_source_9 rfl 0 rfl ?_
    refine zb_getR X 4 (zTC_lt (by decide)) 0 [7, 0, 8] rfl (C := RX0) (Tt := TX0) (N := 3) rfl kX0_source_3 2 (by decide) 6 rfl kX0_source_2 rfl dX0_source_10 ?_
    refine zb_aload_n X dX0_source_13 rfl 1 rfl ?_
    refine zb_getI X o1 ho1.1 1 [0, 0] ho1.2 (C := RX1) (Tt := TX1) (N := 2) rfl kX0_source_1 1 (by decide) rfl kX0_source_4 rfl dX0_source_14 (al o1 1) rfl ?_
    obtain ⟨hz, h⟩ := h
    refine zb_iald X 6 (zTC_lt (by decide)) 1 32 0 0 rfl (Or.inl rfl) ((al o1 1).toNatClampNeg) rfl hz dX0_source_17 (al 6 ((al o1 1).toNatClampNeg)) rfl ?_
    refine zb_goto X 22 dX0_source_18 (by decide) ?_
    refine zb_sub [] rfl ?_
    exact tX0_source_22 X o1 ho1 hR  (al 6 ((al o1 1).toNatClampNeg)) al h

abbrev rmX0_noteSetters : Room := { frames := 1, cells := 0, slots := 0, locals := 23 }
theorem kX0_noteSetters_0 : Cond.fieldLink RX0 17 RX0 "setter" "[I" ∈ wsX0_noteSetters := by decide +kernel
theorem kX0_noteSetters_1 : zIn RX0 TX0 3 wsX0_noteSetters := by decide +kernel
theorem kX0_noteSetters_2 : Cond.fieldLink RX0 11 RX0 "rows" "[LLoopForge$Row;" ∈ wsX0_noteSetters := by decide +kernel
theorem kX0_noteSetters_3 : Cond.fieldLink RX0 37 RX3 "target" "I" ∈ wsX0_noteSetters := by decide +kernel
theorem kX0_noteSetters_4 : zIn RX3 TX3 9 wsX0_noteSetters := by decide +kernel
theorem kX0_noteSetters_5 : Cond.fieldLink RX0 40 RX3 "textPlace" "I" ∈ wsX0_noteSetters := by decide +kernel
abbrev BX0_noteSetters_10 (G : zG) (Z : zC) (r : Bool) (ad ln : Nat → Nat) (p1 : Int32) (x2 : Int32) (al : Nat → Nat → Int32) : Prop := zB G Z rmX0_noteSetters 4 (zTC r) ad ln 0 0 10 [(0, .ref (ad 4)), (1, .int p1), (2, .int x2)] [] al
def vcX0_noteSetters_0 (G : zG) (r : Bool) (ad ln : Nat → Nat) (p1 : Int32) (K10 : Int32 → (Nat → Nat → Int32) → Prop) (post : Int32 → (Nat → Nat → Int32) → Prop) (al : Nat → Nat → Int32) : Prop :=
  zMv G yJ7_fill_53178 wsJ7_fill_53178 rmJ7_fill_53178 (zTC r) ad ln [.ref (ad 6), .int (-1 : Int32)] al (fun a1 => K10 (0 : Int32) a1)
def vcX0_noteSetters_55 (G : zG) (r : Bool) (ad ln : Nat → Nat) (p1 : Int32) (K10 : Int32 → (Nat → Nat → Int32) → Prop) (post : Int32 → (Nat → Nat → Int32) → Prop) (x2 : Int32) (al : Nat → Nat → Int32) : Prop :=
  K10 (x2 + (1 : Int32)) al
def vcX0_noteSetters_10 (G : zG) (r : Bool) (ad ln : Nat → Nat) (p1 : Int32) (K10 : Int32 → (Nat → Nat → Int32) → Prop) (post : Int32 → (Nat → Nat → Int32) → Prop) (x2 : Int32) (al : Nat → Nat → Int32) : Prop :=
  (p1 ≤ x2 → post (-1 : Int32) al) ∧ (¬ p1 ≤ x2 → (vp_in x2 48 ∧ ((al (29 + 3 * x2.toNatClampNeg) 2) < 0 → vcX0_noteSetters_55 G r ad ln p1 K10 post x2 al) ∧ (¬ (al (29 + 3 * x2.toNatClampNeg) 2) < 0 → (vp_in (al (29 + 3 * x2.toNatClampNeg) 2) 32 ∧ ((al 6 ((al (29 + 3 * x2.toNatClampNeg) 2).toNatClampNeg)) < 0 → (vp_in (al (29 + 3 * x2.toNatClampNeg) 2) 32 ∧ vcX0_noteSetters_55 G r ad ln p1 K10 post x2 (up2 al 6 ((al (29 + 3 * x2.toNatClampNeg) 2).toNatClampNeg) x2))) ∧ (¬ (al 6 ((al (29 + 3 * x2.toNatClampNeg) 2).toNatClampNeg)) < 0 → post (al (29 + 3 * x2.toNatClampNeg) 3) al)))))
set_option maxRecDepth 20000 in
theorem tX0_noteSetters_0 {G : zG} {Z : zC} {r : Bool} {ad ln : Nat → Nat} (X : zX G Z cX0_noteSetters 4 RX0 wsX0_noteSetters) (p1 : Int32) {K10 : Int32 → (Nat → Nat → Int32) → Prop} {post : Int32 → (Nat → Nat → Int32) → Prop} (hR : zRi G Z rmX0_noteSetters 4 (zTC r) ad ln cX0_noteSetters .int post) (hK10 : ∀ x2 : Int32, ∀ al, K10 x2 al → zB G Z rmX0_noteSetters 4 (zTC r) ad ln 0 0 10 [(0, .ref (ad 4)), (1, .int p1), (2, .int x2)] [] al) (al : Nat → Nat → Int32) (h : vcX0_noteSetters_0 G r ad ln p1 K10 post  al) : zB G Z rmX0_noteSetters 4 (zTC r) ad ln 0 0 0 [(0, .ref (ad 4)), (1, .int p1)] [] al := by
  unfold vcX0_noteSetters_0 at h
  refine zb_aload_n X dX0_noteSetters_0 rfl 0 rfl ?_
  refine zb_getR X 4 (zTC_lt (by decide)) 0 [7, 0, 8] rfl (C := RX0) (Tt := TX0) (N := 3) rfl kX0_noteSetters_1 2 (by decide) 6 rfl kX0_noteSetters_0 rfl dX0_noteSetters_1 ?_
  refine zb_iconst X (-1 : Int32) dX0_noteSetters_4 (by decide) ?_
  refine zb_callSv (n := 2) X h gX0_noteSetters_J7_fill_53178 rfl (by decide +kernel) (by decide) rfl rfl (Nat.le_of_ble_eq_true rfl) dX0_noteSetters_5 (kc' := 0) (ks' := 0) rfl rfl (fun a1 h => ?_)
  refine zb_iconst X (0 : Int32) dX0_noteSetters_8 (by decide) ?_
  refine zb_istore_n X (lv' := [(2, .int (0 : Int32)), (0, .ref (ad 4)), (1, .int p1)]) dX0_noteSetters_9 rfl (by decide) rfl ?_
  refine zb_sub [1, 2, 0] rfl ?_
  exact hK10 (0 : Int32) a1 h
set_option maxRecDepth 20000 in
theorem tX0_noteSetters_55 {G : zG} {Z : zC} {r : Bool} {ad ln : Nat → Nat} (X : zX G Z cX0_noteSetters 4 RX0 wsX0_noteSetters) (p1 : Int32) {K10 : Int32 → (Nat → Nat → Int32) → Prop} {post : Int32 → (Nat → Nat → Int32) → Prop} (hR : zRi G Z rmX0_noteSetters 4 (zTC r) ad ln cX0_noteSetters .int post) (hK10 : ∀ x2 : Int32, ∀ al, K10 x2 al → zB G Z rmX0_noteSetters 4 (zTC r) ad ln 0 0 10 [(0, .ref (ad 4)), (1, .int p1), (2, .int x2)] [] al) (x2 : Int32) (al : Nat → Nat → Int32) (h : vcX0_noteSetters_55 G r ad ln p1 K10 post x2 al) : zB G Z rmX0_noteSetters 4 (zTC r) ad ln 0 0 55 [(0, .ref (ad 4)), (1, .int p1), (2, .int x2)] [] al := by
  unfold vcX0_noteSetters_55 at h
  refine zb_iinc X (lv' := [(2, .int (x2 + (1 : Int32))), (0, .ref (ad 4)), (1, .int p1)]) (x2 + (1 : Int32)) dX0_noteSetters_55 2 rfl rfl (by decide) rfl ?_
  refine zb_goto X 10 dX0_noteSetters_58 (by decide) ?_
  refine zb_sub [1, 2, 0] rfl ?_
  exact hK10 (x2 + (1 : Int32)) al h
set_option maxRecDepth 20000 in
theorem tX0_noteSetters_10 {G : zG} {Z : zC} {r : Bool} {ad ln : Nat → Nat} (X : zX G Z cX0_noteSetters 4 RX0 wsX0_noteSetters) (p1 : Int32) {K10 : Int32 → (Nat → Nat → Int32) → Prop} {post : Int32 → (Nat → Nat → Int32) → Prop} (hR : zRi G Z rmX0_noteSetters 4 (zTC r) ad ln cX0_noteSetters .int post) (hK10 : ∀ x2 : Int32, ∀ al, K10 x2 al → zB G Z rmX0_noteSetters 4 (zTC r) ad ln 0 0 10 [(0, .ref (ad 4)), (1, .int p1), (2, .int x2)] [] al) (x2 : Int32) (al : Nat → Nat → Int32) (h : vcX0_noteSetters_10 G r ad ln p1 K10 post x2 al) : zB G Z rmX0_noteSetters 4 (zTC r) ad ln 0 0 10 [(0, .ref (ad 4)), (1, .int p1), (2, .int x2)] [] al := by
  unfold vcX0_noteSetters_10 at h
  refine zb_iload_n X dX0_noteSetters_10 rfl 2 rfl ?_
  refine zb_iload_n X dX0_noteSetters_11 rfl 1 rfl ?_
  refine zb_icmp_ge X 61 dX0_noteSetters_12 (by decide) (fun c1 => ?_) (fun c1 => ?_)
  · have h := h.1 c1
    refine zb_iconst X (-1 : Int32) dX0_noteSetters_61 (by decide) ?_
    exact hR 62 _ _ _ dX0_noteSetters_62 rfl h
  · have h := h.2 c1
    refine zb_aload_n X dX0_noteSetters_15 rfl 0 rfl ?_
    refine zb_getR X 4 (zTC_lt (by decide)) 0 [7, 0, 8] rfl (C := RX0) (Tt := TX0) (N := 3) rfl kX0_noteSetters_1 0 (by decide) 5 rfl kX0_noteSetters_2 rfl dX0_noteSetters_16 ?_
    refine zb_iload_n X dX0_noteSetters_19 rfl 2 rfl ?_
    obtain ⟨hq2, h⟩ := h
    refine zb_rald X 5 (zTC_lt (by decide)) 48 29 3 rfl hq2 dX0_noteSetters_20 ?_
    refine zb_getI X (29 + 3 * x2.toNatClampNeg) (zTC_lt (zrow_lt (zvp_lt hq2))) 3 [0, 0, 0, 0, 0, 0, 0, (30 + 3 * x2.toNatClampNeg) + 2, (31 + 3 * x2.toNatClampNeg) + 2] (zTC_row r (zvp_lt hq2)) (C := RX3) (Tt := TX3) (N := 9) rfl kX0_noteSetters_4 2 (by decide) rfl kX0_noteSetters_3 rfl dX0_noteSetters_21 (al (29 + 3 * x2.toNatClampNeg) 2) rfl ?_
    refine zb_istore_n X (lv' := [(3, .int (al (29 + 3 * x2.toNatClampNeg) 2)), (0, .ref (ad 4)), (1, .int p1), (2, .int x2)]) dX0_noteSetters_24 rfl (by decide) rfl ?_
    refine zb_iload_n X dX0_noteSetters_25 rfl 0 rfl ?_
    refine zb_if_lt X 55 dX0_noteSetters_26 (by decide) (fun c3 => ?_) (fun c3 => ?_)
    · have h := h.1 c3
      refine zb_sub [1, 2, 3] rfl ?_
      exact tX0_noteSetters_55 X p1 hR hK10 x2 al h
    · have h := h.2 c3
      refine zb_aload_n X dX0_noteSetters_29 rfl 1 rfl ?_
      refine zb_getR X 4 (zTC_lt (by decide)) 0 [7, 0, 8] rfl (C := RX0) (Tt := TX0) (N := 3) rfl kX0_noteSetters_1 2 (by decide) 6 rfl kX0_noteSetters_0 rfl dX0_noteSetters_30 ?_
      refine zb_iload_n X dX0_noteSetters_33 rfl 0 rfl ?_
      obtain ⟨hz, h⟩ := h
      refine zb_iald X 6 (zTC_lt (by decide)) 1 32 0 0 rfl (Or.inl rfl) ((al (29 + 3 * x2.toNatClampNeg) 2).toNatClampNeg) rfl hz dX0_noteSetters_34 (al 6 ((al (29 + 3 * x2.toNatClampNeg) 2).toNatClampNeg)) rfl ?_
      refine zb_if_lt X 48 dX0_noteSetters_35 (by decide) (fun c4 => ?_) (fun c4 => ?_)
      · have h := h.1 c4
        refine zb_aload_n X dX0_noteSetters_48 rfl 1 rfl ?_
        refine zb_getR X 4 (zTC_lt (by decide)) 0 [7, 0, 8] rfl (C := RX0) (Tt := TX0) (N := 3) rfl kX0_noteSetters_1 2 (by decide) 6 rfl kX0_noteSetters_0 rfl dX0_noteSetters_49 ?_
        refine zb_iload_n X dX0_noteSetters_52 rfl 0 rfl ?_
        refine zb_iload_n X dX0_noteSetters_53 rfl 3 rfl ?_
        obtain ⟨hz, h⟩ := h
        refine zb_iast X 6 (zTC_lt (by decide)) 1 32 0 0 rfl (Or.inl rfl) ((al (29 + 3 * x2.toNatClampNeg) 2).toNatClampNeg) rfl hz dX0_noteSetters_54 ?_
        refine zb_sub [1, 2, 3] rfl ?_
        exact tX0_noteSetters_55 X p1 hR hK10 x2 (up2 al 6 ((al (29 + 3 * x2.toNatClampNeg) 2).toNatClampNeg) x2) h
      · have h := h.2 c4
        refine zb_aload_n X dX0_noteSetters_38 rfl 1 rfl ?_
        refine zb_getR X 4 (zTC_lt (by decide)) 0 [7, 0, 8] rfl (C := RX0) (Tt := TX0) (N := 3) rfl kX0_noteSetters_1 0 (by decide) 5 rfl kX0_noteSetters_2 rfl dX0_noteSetters_39 ?_
        refine zb_iload_n X dX0_noteSetters_42 rfl 3 rfl ?_
        refine zb_rald X 5 (zTC_lt (by decide)) 48 29 3 rfl hq2 dX0_noteSetters_43 ?_
        refine zb_getI X (29 + 3 * x2.toNatClampNeg) (zTC_lt (zrow_lt (zvp_lt hq2))) 3 [0, 0, 0, 0, 0, 0, 0, (30 + 3 * x2.toNatClampNeg) + 2, (31 + 3 * x2.toNatClampNeg) + 2] (zTC_row r (zvp_lt hq2)) (C := RX3) (Tt := TX3) (N := 9) rfl kX0_noteSetters_4 3 (by decide) rfl kX0_noteSetters_5 rfl dX0_noteSetters_44 (al (29 + 3 * x2.toNatClampNeg) 3) rfl ?_
        exact hR 47 _ _ _ dX0_noteSetters_47 rfl h
theorem uX0_noteSetters_0 {G : zG} {Z : zC} {r : Bool} {ad ln : Nat → Nat} (X : zX G Z cX0_noteSetters 4 RX0 wsX0_noteSetters) (p1 : Int32) {post : Int32 → (Nat → Nat → Int32) → Prop} (hR : zRi G Z rmX0_noteSetters 4 (zTC r) ad ln cX0_noteSetters .int post) (al : Nat → Nat → Int32) (h : vcX0_noteSetters_0 G r ad ln p1 (BX0_noteSetters_10 G Z r ad ln p1) post  al) : zB G Z rmX0_noteSetters 4 (zTC r) ad ln 0 0 0 [(0, .ref (ad 4)), (1, .int p1)] [] al := tX0_noteSetters_0 X p1 hR (fun _ _ h => h)  al h
theorem uX0_noteSetters_55 {G : zG} {Z : zC} {r : Bool} {ad ln : Nat → Nat} (X : zX G Z cX0_noteSetters 4 RX0 wsX0_noteSetters) (p1 : Int32) {post : Int32 → (Nat → Nat → Int32) → Prop} (hR : zRi G Z rmX0_noteSetters 4 (zTC r) ad ln cX0_noteSetters .int post) (x2 : Int32) (al : Nat → Nat → Int32) (h : vcX0_noteSetters_55 G r ad ln p1 (BX0_noteSetters_10 G Z r ad ln p1) post x2 al) : zB G Z rmX0_noteSetters 4 (zTC r) ad ln 0 0 55 [(0, .ref (ad 4)), (1, .int p1), (2, .int x2)] [] al := tX0_noteSetters_55 X p1 hR (fun _ _ h => h) x2 al h
theorem uX0_noteSetters_10 {G : zG} {Z : zC} {r : Bool} {ad ln : Nat → Nat} (X : zX G Z cX0_noteSetters 4 RX0 wsX0_noteSetters) (p1 : Int32) {post : Int32 → (Nat → Nat → Int32) → Prop} (hR : zRi G Z rmX0_noteSetters 4 (zTC r) ad ln cX0_noteSetters .int post) (x2 : Int32) (al : Nat → Nat → Int32) (h : vcX0_noteSetters_10 G r ad ln p1 (BX0_noteSetters_10 G Z r ad ln p1) post x2 al) : zB G Z rmX0_noteSetters 4 (zTC r) ad ln 0 0 10 [(0, .ref (ad 4)), (1, .int p1), (2, .int x2)] [] al := tX0_noteSetters_10 X p1 hR (fun _ _ h => h) x2 al h
