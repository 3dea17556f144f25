abbrev rmX6_stretch : Room := { frames := 1, cells := 0, slots := 0, locals := 21 }
theorem kX6_stretch_0 : Cond.fieldLink RX6 9 RX6 "begin" "[I" ∈ wsX6_stretch := by decide +kernel
theorem kX6_stretch_1 : zIn RX6 TX6 13 wsX6_stretch := by decide +kernel
theorem kX6_stretch_2 : Cond.fieldLink RX6 34 RX6 "table" "LLoopForge$Table;" ∈ wsX6_stretch := by decide +kernel
theorem kX6_stretch_3 : Cond.fieldLink RX6 101 RX7 "cycle" "[I" ∈ wsX6_stretch := by decide +kernel
theorem kX6_stretch_4 : zIn RX7 TX7 9 wsX6_stretch := by decide +kernel
theorem kX6_stretch_5 : Cond.fieldLink RX6 38 RX6 "settings" "[I" ∈ wsX6_stretch := by decide +kernel
theorem kX6_stretch_6 : Cond.fieldLink RX6 30 RX6 "loop" "LLoopForge$Loop;" ∈ wsX6_stretch := by decide +kernel
theorem kX6_stretch_7 : Cond.fieldLink RX6 80 RX0 "rows" "[LLoopForge$Row;" ∈ wsX6_stretch := by decide +kernel
theorem kX6_stretch_8 : zIn RX0 TX0 3 wsX6_stretch := by decide +kernel
theorem kX6_stretch_9 : Cond.fieldLink RX6 106 RX3 "kind" "I" ∈ wsX6_stretch := by decide +kernel
theorem kX6_stretch_10 : zIn RX3 TX3 9 wsX6_stretch := by decide +kernel
theorem kX6_stretch_11 : Cond.fieldLink RX6 15 RX6 "end" "[I" ∈ wsX6_stretch := by decide +kernel
theorem kX6_stretch_12 : Cond.initialized RX9 ∈ wsX6_stretch := by decide +kernel
theorem kX6_stretch_13 : Cond.static yX9_roundsOfUse ∈ wsX6_stretch := by decide +kernel
theorem kX6_stretch_14 : Cond.fieldLink RX6 41 RX6 "distance" "I" ∈ wsX6_stretch := by decide +kernel
theorem kX6_stretch_15 : Cond.methodLink RX6 58 Lib.Math.max.name ∈ wsX6_stretch := by decide +kernel
theorem kX6_stretch_16 : Cond.static Lib.Math.max.name ∈ wsX6_stretch := by decide +kernel
theorem kX6_stretch_17 : Cond.initialized "java/lang/Math" ∈ wsX6_stretch := by decide +kernel
theorem kX6_stretch_18 : Cond.code Lib.Math.max.name Lib.Math.max.code 2 (some .int) ∈ wsX6_stretch := by decide +kernel
def vcX6_stretch_72 (G : zG) (r : Bool) (ad ln : Nat → Nat) (p1 : Int32) (p2 : Int32)  (post : (Nat → Nat → Int32) → Prop) (al : Nat → Nat → Int32) : Prop :=
  post al
def vcX6_stretch_0 (G : zG) (r : Bool) (ad ln : Nat → Nat) (p1 : Int32) (p2 : Int32)  (post : (Nat → Nat → Int32) → Prop) (al : Nat → Nat → Int32) : Prop :=
  (p1 < 0 → vcX6_stretch_72 G r ad ln p1 p2  post  al) ∧ (¬ p1 < 0 → (vp_in p1 48 ∧ vp_in p1 48 ∧ vp_in (al (29 + 3 * p1.toNatClampNeg) 0) 9 ∧ vp_in p1 48 ∧ vp_in p1 48 ∧ vp_in p2 48 ∧ zMi G yX9_roundsOfUse wsX9_roundsOfUse rmX9_roundsOfUse (zTC r) ad ln [.int p1, .int p2] (up2 al 23 p1.toNatClampNeg ((al 19 p1.toNatClampNeg) + (al 2 ((al (29 + 3 * p1.toNatClampNeg) 0).toNatClampNeg)))) (fun q3 a3 => (vp_in p1 48 ∧ vcX6_stretch_72 G r ad ln p1 p2  post  (up2 a3 24 p1.toNatClampNeg (if (al 24 p1.toNatClampNeg) < ((al 19 p2.toNatClampNeg) + (q3 * (a3 22 9))) then ((al 19 p2.toNatClampNeg) + (q3 * (a3 22 9))) else (al 24 p1.toNatClampNeg)))))))
set_option maxRecDepth 20000 in
theorem tX6_stretch_72 {G : zG} {Z : zC} {r : Bool} {ad ln : Nat → Nat} (X : zX G Z cX6_stretch 3 RX6 wsX6_stretch) (p1 : Int32) (p2 : Int32)  {post : (Nat → Nat → Int32) → Prop} (hR : zRv G Z rmX6_stretch 3 (zTC r) ad ln cX6_stretch post)  (al : Nat → Nat → Int32) (h : vcX6_stretch_72 G r ad ln p1 p2  post  al) : zB G Z rmX6_stretch 3 (zTC r) ad ln 0 0 72 [] [] al := by
  unfold vcX6_stretch_72 at h
  exact hR 72 _ _ dX6_stretch_72 h
set_option maxRecDepth 20000 in
theorem tX6_stretch_0 {G : zG} {Z : zC} {r : Bool} {ad ln : Nat → Nat} (X : zX G Z cX6_stretch 3 RX6 wsX6_stretch) (p1 : Int32) (p2 : Int32)  {post : (Nat → Nat → Int32) → Prop} (hR : zRv G Z rmX6_stretch 3 (zTC r) ad ln cX6_stretch post)  (al : Nat → Nat → Int32) (h : vcX6_stretch_0 G r ad ln p1 p2  post  al) : zB G Z rmX6_stretch 3 (zTC r) ad ln 0 0 0 [(0, .ref (ad 22)), (1, .int p1), (2, .int p2)] [] al := by
  unfold vcX6_stretch_0 at h
  refine zb_iload_n X dX6_stretch_0 rfl 1 rfl ?_
  refine zb_if_lt X 72 dX6_stretch_1 (by decide) (fun c1 => ?_) (fun c1 => ?_)
  · have h := h.1 c1
    refine zb_sub [] rfl ?_
    exact tX6_stretch_72 X p1 p2 hR   al h
  · have h := h.2 c1
    refine zb_aload_n X dX6_stretch_4 rfl 0 rfl ?_
    refine zb_getR X 22 (zTC_lt (by decide)) 6 [6, 20, 4, 25, 26, 27, 28, 29, 30, 0, 0, 0, 0] rfl (C := RX6) (Tt := TX6) (N := 13) rfl kX6_stretch_1 3 (by decide) 23 rfl kX6_stretch_0 rfl dX6_stretch_5 ?_
    refine zb_iload_n X dX6_stretch_8 rfl 1 rfl ?_
    refine zb_aload_n X dX6_stretch_9 rfl 0 rfl ?_
    refine zb_getR X 22 (zTC_lt (by decide)) 6 [6, 20, 4, 25, 26, 27, 28, 29, 30, 0, 0, 0, 0] rfl (C := RX6) (Tt := TX6) (N := 13) rfl kX6_stretch_1 1 (by decide) 18 rfl kX6_stretch_2 rfl dX6_stretch_10 ?_
    refine zb_getR X 18 (zTC_lt (by decide)) 7 [6, 14, 4, 21, 22, 23, 0, 0, 0] rfl (C := RX7) (Tt := TX7) (N := 9) rfl kX6_stretch_4 3 (by decide) 19 rfl kX6_stretch_3 rfl dX6_stretch_13 ?_
    refine zb_iload_n X dX6_stretch_16 rfl 1 rfl ?_
    obtain ⟨hz, h⟩ := h
    refine zb_iald X 19 (zTC_lt (by decide)) 1 48 0 0 rfl (Or.inl rfl) p1.toNatClampNeg rfl hz dX6_stretch_17 (al 19 p1.toNatClampNeg) rfl ?_
    refine zb_aload_n X dX6_stretch_18 rfl 0 rfl ?_
    refine zb_getR X 22 (zTC_lt (by decide)) 6 [6, 20, 4, 25, 26, 27, 28, 29, 30, 0, 0, 0, 0] rfl (C := RX6) (Tt := TX6) (N := 13) rfl kX6_stretch_1 2 (by decide) 2 rfl kX6_stretch_5 rfl dX6_stretch_19 ?_
    refine zb_aload_n X dX6_stretch_22 rfl 0 rfl ?_
    refine zb_getR X 22 (zTC_lt (by decide)) 6 [6, 20, 4, 25, 26, 27, 28, 29, 30, 0, 0, 0, 0] rfl (C := RX6) (Tt := TX6) (N := 13) rfl kX6_stretch_1 0 (by decide) 4 rfl kX6_stretch_6 rfl dX6_stretch_23 ?_
    refine zb_getR X 4 (zTC_lt (by decide)) 0 [7, 0, 8] rfl (C := RX0) (Tt := TX0) (N := 3) rfl kX6_stretch_8 0 (by decide) 5 rfl kX6_stretch_7 rfl dX6_stretch_26 ?_
    refine zb_iload_n X dX6_stretch_29 rfl 1 rfl ?_
    obtain ⟨hq2, h⟩ := h
    refine zb_rald X 5 (zTC_lt (by decide)) 48 29 3 rfl hq2 dX6_stretch_30 ?_
    refine zb_getI X (29 + 3 * p1.toNatClampNeg) (zTC_lt (zrow_lt (zvp_lt hq2))) 3 [0, 0, 0, 0, 0, 0, 0, (30 + 3 * p1.toNatClampNeg) + 2, (31 + 3 * p1.toNatClampNeg) + 2] (zTC_row r (zvp_lt hq2)) (C := RX3) (Tt := TX3) (N := 9) rfl kX6_stretch_10 0 (by decide) rfl kX6_stretch_9 rfl dX6_stretch_31 (al (29 + 3 * p1.toNatClampNeg) 0) rfl ?_
    obtain ⟨hz, h⟩ := h
    refine zb_iald X 2 (zTC_lt (by decide)) 1 9 0 0 rfl (Or.inl rfl) ((al (29 + 3 * p1.toNatClampNeg) 0).toNatClampNeg) rfl hz dX6_stretch_34 (al 2 ((al (29 + 3 * p1.toNatClampNeg) 0).toNatClampNeg)) rfl ?_
    refine zb_iadd X dX6_stretch_35 ?_
    obtain ⟨hz, h⟩ := h
    refine zb_iast X 23 (zTC_lt (by decide)) 1 48 0 0 rfl (Or.inl rfl) p1.toNatClampNeg rfl hz dX6_stretch_36 ?_
    refine zb_aload_n X dX6_stretch_37 rfl 0 rfl ?_
    refine zb_getR X 22 (zTC_lt (by decide)) 6 [6, 20, 4, 25, 26, 27, 28, 29, 30, 0, 0, 0, 0] rfl (C := RX6) (Tt := TX6) (N := 13) rfl kX6_stretch_1 4 (by decide) 24 rfl kX6_stretch_11 rfl dX6_stretch_38 ?_
    refine zb_iload_n X dX6_stretch_41 rfl 1 rfl ?_
    refine zb_aload_n X dX6_stretch_42 rfl 0 rfl ?_
    refine zb_getR X 22 (zTC_lt (by decide)) 6 [6, 20, 4, 25, 26, 27, 28, 29, 30, 0, 0, 0, 0] rfl (C := RX6) (Tt := TX6) (N := 13) rfl kX6_stretch_1 4 (by decide) 24 rfl kX6_stretch_11 rfl dX6_stretch_43 ?_
    refine zb_iload_n X dX6_stretch_46 rfl 1 rfl ?_
    obtain ⟨hz, h⟩ := h
    refine zb_iald X 24 (zTC_lt (by decide)) 1 48 0 0 rfl (Or.inl rfl) p1.toNatClampNeg rfl hz dX6_stretch_47 (al 24 p1.toNatClampNeg) rfl ?_
    refine zb_aload_n X dX6_stretch_48 rfl 0 rfl ?_
    refine zb_getR X 22 (zTC_lt (by decide)) 6 [6, 20, 4, 25, 26, 27, 28, 29, 30, 0, 0, 0, 0] rfl (C := RX6) (Tt := TX6) (N := 13) rfl kX6_stretch_1 1 (by decide) 18 rfl kX6_stretch_2 rfl dX6_stretch_49 ?_
    refine zb_getR X 18 (zTC_lt (by decide)) 7 [6, 14, 4, 21, 22, 23, 0, 0, 0] rfl (C := RX7) (Tt := TX7) (N := 9) rfl kX6_stretch_4 3 (by decide) 19 rfl kX6_stretch_3 rfl dX6_stretch_52 ?_
    refine zb_iload_n X dX6_stretch_55 rfl 2 rfl ?_
    obtain ⟨hz, h⟩ := h
    refine zb_iald X 19 (zTC_lt (by decide)) 1 48 0 0 rfl (Or.inl rfl) p2.toNatClampNeg rfl hz dX6_stretch_56 (al 19 p2.toNatClampNeg) rfl ?_
    refine zb_iload_n X dX6_stretch_57 rfl 1 rfl ?_
    refine zb_iload_n X dX6_stretch_58 rfl 2 rfl ?_
    refine zb_callNi (n := 2) X h gX6_stretch_X9_roundsOfUse_n109 (by decide +kernel) kX6_stretch_12 kX6_stretch_13 rfl (by decide +kernel) (by decide) rfl rfl (Nat.le_of_ble_eq_true rfl) dX6_stretch_59 (kc' := 0) (ks' := 0) rfl rfl (fun q3 a3 h => ?_)
    refine zb_aload_n X dX6_stretch_62 rfl 0 rfl ?_
    refine zb_getI X 22 (zTC_lt (by decide)) 6 [6, 20, 4, 25, 26, 27, 28, 29, 30, 0, 0, 0, 0] rfl (C := RX6) (Tt := TX6) (N := 13) rfl kX6_stretch_1 9 (by decide) rfl kX6_stretch_14 rfl dX6_stretch_63 (a3 22 9) rfl ?_
    refine zb_imul X dX6_stretch_66 ?_
    refine zb_iadd X dX6_stretch_67 ?_
    refine zb_mmax X kX6_stretch_15 kX6_stretch_16 kX6_stretch_17 kX6_stretch_18 ⟨⟨Nat.le_of_ble_eq_true rfl, Nat.le_of_ble_eq_true rfl⟩, Nat.le_of_ble_eq_true rfl, Nat.le_of_ble_eq_true rfl⟩ dX6_stretch_68 ?_
    obtain ⟨hz, h⟩ := h
    refine zb_iast X 24 (zTC_lt (by decide)) 1 48 0 0 rfl (Or.inl rfl) p1.toNatClampNeg rfl hz dX6_stretch_71 ?_
    refine zb_sub [] rfl ?_
    exact tX6_stretch_72 X p1 p2 hR   (up2 a3 24 p1.toNatClampNeg (if (al 24 p1.toNatClampNeg) < ((al 19 p2.toNatClampNeg) + (q3 * (a3 22 9))) then ((al 19 p2.toNatClampNeg) + (q3 * (a3 22 9))) else (al 24 p1.toNatClampNeg))) h

abbrev rmX6_findSpans : Room := { frames := 2, cells := 0, slots := 0, locals := 43 }
theorem kX6_findSpans_0 : Cond.fieldLink RX6 9 RX6 "begin" "[I" ∈ wsX6_findSpans := by decide +kernel
theorem kX6_findSpans_1 : zIn RX6 TX6 13 wsX6_findSpans := by decide +kernel
theorem kX6_findSpans_2 : Cond.fieldLink RX6 15 RX6 "end" "[I" ∈ wsX6_findSpans := by decide +kernel
theorem kX6_findSpans_3 : Cond.fieldLink RX6 18 RX6 "offset" "[I" ∈ wsX6_findSpans := by decide +kernel
theorem kX6_findSpans_4 : Cond.fieldLink RX6 30 RX6 "loop" "LLoopForge$Loop;" ∈ wsX6_findSpans := by decide +kernel
theorem kX6_findSpans_5 : Cond.fieldLink RX6 77 RX0 "size" "I" ∈ wsX6_findSpans := by decide +kernel
theorem kX6_findSpans_6 : zIn RX0 TX0 3 wsX6_findSpans := by decide +kernel
theorem kX6_findSpans_7 : Cond.fieldLink RX6 80 RX0 "rows" "[LLoopForge$Row;" ∈ wsX6_findSpans := by decide +kernel
theorem kX6_findSpans_8 : Cond.fieldLink RX6 84 RX3 "left" "LLoopForge$Operand;" ∈ wsX6_findSpans := by decide +kernel
theorem kX6_findSpans_9 : zIn RX3 TX3 9 wsX6_findSpans := by decide +kernel
theorem kX6_findSpans_10 : Cond.fieldLink RX6 98 RX3 "right" "LLoopForge$Operand;" ∈ wsX6_findSpans := by decide +kernel
abbrev BX6_findSpans_26 (G : zG) (Z : zC) (r : Bool) (ad ln : Nat → Nat) (x1 : Int32) (al : Nat → Nat → Int32) : Prop := zB G Z rmX6_findSpans 2 (zTC r) ad ln 0 0 26 [(0, .ref (ad 22)), (1, .int x1)] [] al
def vcX6_findSpans_0 (G : zG) (r : Bool) (ad ln : Nat → Nat) (K26 : Int32 → (Nat → Nat → Int32) → Prop) (post : (Nat → Nat → Int32) → Prop) (al : Nat → Nat → Int32) : Prop :=
  zMv G yJ7_fill_53178 wsJ7_fill_53178 rmJ7_fill_53178 (zTC r) ad ln [.ref (ad 23), .int (-1 : Int32)] al (fun a1 => zMv G yJ7_fill_53178 wsJ7_fill_53178 rmJ7_fill_53178 (zTC r) ad ln [.ref (ad 24), .int (-1 : Int32)] a1 (fun a2 => zMv G yJ7_fill_53178 wsJ7_fill_53178 rmJ7_fill_53178 (zTC r) ad ln [.ref (ad 25), .int (-1 : Int32)] a2 (fun a3 => K26 (0 : Int32) a3)))
def vcX6_findSpans_26 (G : zG) (r : Bool) (ad ln : Nat → Nat) (K26 : Int32 → (Nat → Nat → Int32) → Prop) (post : (Nat → Nat → Int32) → Prop) (x1 : Int32) (al : Nat → Nat → Int32) : Prop :=
  ((al 4 1) ≤ x1 → post al) ∧ (¬ (al 4 1) ≤ x1 → (vp_in x1 48 ∧ zMi G yX0_source wsX0_source rmX0_source (zTC r) ad ln [.ref (ad 4), .ref (ad (30 + 3 * x1.toNatClampNeg))] al (fun q3 a3 => zMv G yX6_stretch wsX6_stretch rmX6_stretch (zTC r) ad ln [.ref (ad 22), .int q3, .int x1] a3 (fun a4 => zMi G yX0_source wsX0_source rmX0_source (zTC r) ad ln [.ref (ad 4), .ref (ad (31 + 3 * x1.toNatClampNeg))] a4 (fun q5 a5 => zMv G yX6_stretch wsX6_stretch rmX6_stretch (zTC r) ad ln [.ref (ad 22), .int q5, .int x1] a5 (fun a6 => K26 (x1 + (1 : Int32)) a6))))))
set_option maxRecDepth 20000 in
theorem tX6_findSpans_0 {G : zG} {Z : zC} {r : Bool} {ad ln : Nat → Nat} (X : zX G Z cX6_findSpans 2 RX6 wsX6_findSpans) {K26 : Int32 → (Nat → Nat → Int32) → Prop} {post : (Nat → Nat → Int32) → Prop} (hR : zRv G Z rmX6_findSpans 2 (zTC r) ad ln cX6_findSpans post) (hK26 : ∀ x1 : Int32, ∀ al, K26 x1 al → zB G Z rmX6_findSpans 2 (zTC r) ad ln 0 0 26 [(0, .ref (ad 22)), (1, .int x1)] [] al) (al : Nat → Nat → Int32) (h : vcX6_findSpans_0 G r ad ln K26 post  al) : zB G Z rmX6_findSpans 2 (zTC r) ad ln 0 0 0 [(0, .ref (ad 22))] [] al := by
  unfold vcX6_findSpans_0 at h
  refine zb_aload_n X dX6_findSpans_0 rfl 0 rfl ?_
  refine zb_getR X 22 (zTC_lt (by decide)) 6 [6, 20, 4, 25, 26, 27, 28, 29, 30, 0, 0, 0, 0] rfl (C := RX6) (Tt := TX6) (N := 13) rfl kX6_findSpans_1 3 (by decide) 23 rfl kX6_findSpans_0 rfl dX6_findSpans_1 ?_
  refine zb_iconst X (-1 : Int32) dX6_findSpans_4 (by decide) ?_
  refine zb_callSv (n := 2) X h gX6_findSpans_J7_fill_53178 rfl (by decide +kernel) (by decide) rfl rfl (Nat.le_of_ble_eq_true rfl) dX6_findSpans_5 (kc' := 0) (ks' := 0) rfl rfl (fun a1 h => ?_)
  refine zb_aload_n X dX6_findSpans_8 rfl 0 rfl ?_
  refine zb_getR X 22 (zTC_lt (by decide)) 6 [6, 20, 4, 25, 26, 27, 28, 29, 30, 0, 0, 0, 0] rfl (C := RX6) (Tt := TX6) (N := 13) rfl kX6_findSpans_1 4 (by decide) 24 rfl kX6_findSpans_2 rfl dX6_findSpans_9 ?_
  refine zb_iconst X (-1 : Int32) dX6_findSpans_12 (by decide) ?_
  refine zb_callSv (n := 2) X h gX6_findSpans_J7_fill_53178 rfl (by decide +kernel) (by decide) rfl rfl (Nat.le_of_ble_eq_true rfl) dX6_findSpans_13 (kc' := 0) (ks' := 0) rfl rfl (fun a2 h => ?_)
  refine zb_aload_n X dX6_findSpans_16 rfl 0 rfl ?_
  refine zb_getR X 22 (zTC_lt (by decide)) 6 [6, 20, 4, 25, 26, 27, 28, 29, 30, 0, 0, 0, 0] rfl (C := RX6) (Tt := TX6) (N := 13) rfl kX6_findSpans_1 5 (by decide) 25 rfl kX6_findSpans_3 rfl dX6_findSpans_17 ?_
  refine zb_iconst X (-1 : Int32) dX6_findSpans_20 (by decide) ?_
  refine zb_callSv (n := 2) X h gX6_findSpans_J7_fill_53178 rfl (by decide +kernel) (by decide) rfl rfl (Nat.le_of_ble_eq_true rfl) dX6_findSpans_21 (kc' := 0) (ks' := 0) rfl rfl (fun a3 h => ?_)
  refine zb_iconst X (0 : Int32) dX6_findSpans_24 (by decide) ?_
  refine zb_istore_n X (lv' := [(1, .int (0 : Int32)), (0, .ref (ad 22))]) dX6_findSpans_25 rfl (by decide) rfl ?_
  refine zb_sub [1, 0] rfl ?_
  exact hK26 (0 : Int32) a3 h
set_option maxRecDepth 20000 in
theorem tX6_findSpans_26 {G : zG} {Z : zC} {r : Bool} {ad ln : Nat → Nat} (X : zX G Z cX6_findSpans 2 RX6 wsX6_findSpans) {K26 : Int32 → (Nat → Nat → Int32) → Prop} {post : (Nat → Nat → Int32) → Prop} (hR : zRv G Z rmX6_findSpans 2 (zTC r) ad ln cX6_findSpans post) (hK26 : ∀ x1 : Int32, ∀ al, K26 x1 al → zB G Z rmX6_findSpans 2 (zTC r) ad ln 0 0 26 [(0, .ref (ad 22)), (1, .int x1)] [] al) (x1 : Int32) (al : Nat → Nat → Int32) (h : vcX6_findSpans_26 G r ad ln K26 post x1 al) : zB G Z rmX6_findSpans 2 (zTC r) ad ln 0 0 26 [(0, .ref (ad 22)), (1, .int x1)] [] al := by
  unfold vcX6_findSpans_26 at h
  refine zb_iload_n X dX6_findSpans_26 rfl 1 rfl ?_
  refine zb_aload_n X dX6_findSpans_27 rfl 0 rfl ?_
  refine zb_getR X 22 (zTC_lt (by decide)) 6 [6, 20, 4, 25, 26, 27, 28, 29, 30, 0, 0, 0, 0] rfl (C := RX6) (Tt := TX6) (N := 13) rfl kX6_findSpans_1 0 (by decide) 4 rfl kX6_findSpans_4 rfl dX6_findSpans_28 ?_
  refine zb_getI X 4 (zTC_lt (by decide)) 0 [7, 0, 8] rfl (C := RX0) (Tt := TX0) (N := 3) rfl kX6_findSpans_6 1 (by decide) rfl kX6_findSpans_5 rfl dX6_findSpans_31 (al 4 1) rfl ?_
  refine zb_icmp_ge X 91 dX6_findSpans_34 (by decide) (fun c1 => ?_) (fun c1 => ?_)
  · have h := h.1 c1
    exact hR 91 _ _ dX6_findSpans_91 h
  · have h := h.2 c1
    refine zb_aload_n X dX6_findSpans_37 rfl 0 rfl ?_
    refine zb_aload_n X dX6_findSpans_38 rfl 0 rfl ?_
    refine zb_getR X 22 (zTC_lt (by decide)) 6 [6, 20, 4, 25, 26, 27, 28, 29, 30, 0, 0, 0, 0] rfl (C := RX6) (Tt := TX6) (N := 13) rfl kX6_findSpans_1 0 (by decide) 4 rfl kX6_findSpans_4 rfl dX6_findSpans_39 ?_
    refine zb_aload_n X dX6_findSpans_42 rfl 0 rfl ?_
    refine zb_getR X 22 (zTC_lt (by decide)) 6 [6, 20, 4, 25, 26, 27, 28, 29, 30, 0, 0, 0, 0] rfl (C := RX6) (Tt := TX6) (N := 13) rfl kX6_findSpans_1 0 (by decide) 4 rfl kX6_findSpans_4 rfl dX6_findSpans_43 ?_
    refine zb_getR X 4 (zTC_lt (by decide)) 0 [7, 0, 8] rfl (C := RX0) (Tt := TX0) (N := 3) rfl kX6_findSpans_6 0 (by decide) 5 rfl kX6_findSpans_7 rfl dX6_findSpans_46 ?_
    refine zb_iload_n X dX6_findSpans_49 rfl 1 rfl ?_
    obtain ⟨hq2, h⟩ := h
    refine zb_rald X 5 (zTC_lt (by decide)) 48 29 3 rfl hq2 dX6_findSpans_50 ?_
    refine zb_getR X (29 + 3 * x1.toNatClampNeg) (zTC_lt (zrow_lt (zvp_lt hq2))) 3 [0, 0, 0, 0, 0, 0, 0, (30 + 3 * x1.toNatClampNeg) + 2, (31 + 3 * x1.toNatClampNeg) + 2] (zTC_row r (zvp_lt hq2)) (C := RX3) (Tt := TX3) (N := 9) rfl kX6_findSpans_9 7 (by decide) (30 + 3 * x1.toNatClampNeg) rfl kX6_findSpans_8 rfl dX6_findSpans_51 ?_
    refine zb_callVi (n := 1) X 4 (zTC_lt (by decide)) 0 [7, 0, 8] rfl (C := RX0) (Tt := TX0) (N := 3) rfl h gX6_findSpans_X0_source rfl (by decide +kernel) (by decide) rfl rfl (Nat.le_of_ble_eq_true rfl) dX6_findSpans_54 (kc' := 0) (ks' := 0) rfl rfl (fun q3 a3 h => ?_)
    refine zb_iload_n X dX6_findSpans_57 rfl 1 rfl ?_
    refine zb_callVv (n := 2) X 22 (zTC_lt (by decide)) 6 [6, 20, 4, 25, 26, 27, 28, 29, 30, 0, 0, 0, 0] rfl (C := RX6) (Tt := TX6) (N := 13) rfl h gX6_findSpans_X6_stretch rfl (by decide +kernel) (by decide) rfl rfl (Nat.le_of_ble_eq_true rfl) dX6_findSpans_58 (kc' := 0) (ks' := 0) rfl rfl (fun a4 h => ?_)
    refine zb_aload_n X dX6_findSpans_61 rfl 0 rfl ?_
    refine zb_aload_n X dX6_findSpans_62 rfl 0 rfl ?_
    refine zb_getR X 22 (zTC_lt (by decide)) 6 [6, 20, 4, 25, 26, 27, 28, 29, 30, 0, 0, 0, 0] rfl (C := RX6) (Tt := TX6) (N := 13) rfl kX6_findSpans_1 0 (by decide) 4 rfl kX6_findSpans_4 rfl dX6_findSpans_63 ?_
    refine zb_aload_n X dX6_findSpans_66 rfl 0 rfl ?_
    refine zb_getR X 22 (zTC_lt (by decide)) 6 [6, 20, 4, 25, 26, 27, 28, 29, 30, 0, 0, 0, 0] rfl (C := RX6) (Tt := TX6) (N := 13) rfl kX6_findSpans_1 0 (by decide) 4 rfl kX6_findSpans_4 rfl dX6_findSpans_67 ?_
    refine zb_getR X 4 (zTC_lt (by decide)) 0 [7, 0, 8] rfl (C := RX0) (Tt := TX0) (N := 3) rfl kX6_findSpans_6 0 (by decide) 5 rfl kX6_findSpans_7 rfl dX6_findSpans_70 ?_
    refine zb_iload_n X dX6_findSpans_73 rfl 1 rfl ?_
    refine zb_rald X 5 (zTC_lt (by decide)) 48 29 3 rfl hq2 dX6_findSpans_74 ?_
    refine zb_getR X (29 + 3 * x1.toNatClampNeg) (zTC_lt (zrow_lt (zvp_lt hq2))) 3 [0, 0, 0, 0, 0, 0, 0, (30 + 3 * x1.toNatClampNeg) + 2, (31 + 3 * x1.toNatClampNeg) + 2] (zTC_row r (zvp_lt hq2)) (C := RX3) (Tt := TX3) (N := 9) rfl kX6_findSpans_9 8 (by decide) (31 + 3 * x1.toNatClampNeg) rfl kX6_findSpans_10 rfl dX6_findSpans_75 ?_
    refine zb_callVi (n := 1) X 4 (zTC_lt (by decide)) 0 [7, 0, 8] rfl (C := RX0) (Tt := TX0) (N := 3) rfl h gX6_findSpans_X0_source rfl (by decide +kernel) (by decide) rfl rfl (Nat.le_of_ble_eq_true rfl) dX6_findSpans_78 (kc' := 0) (ks' := 0) rfl rfl (fun q5 a5 h => ?_)
    refine zb_iload_n X dX6_findSpans_81 rfl 1 rfl ?_
    refine zb_callVv (n := 2) X 22 (zTC_lt (by decide)) 6 [6, 20, 4, 25, 26, 27, 28, 29, 30, 0, 0, 0, 0] rfl (C := RX6) (Tt := TX6) (N := 13) rfl h gX6_findSpans_X6_stretch rfl (by decide +kernel) (by decide) rfl rfl (Nat.le_of_ble_eq_true rfl) dX6_findSpans_82 (kc' := 0) (ks' := 0) rfl rfl (fun a6 h => ?_)
    refine zb_iinc X (lv' := [(1, .int (x1 + (1 : Int32))), (0, .ref (ad 22))]) (x1 + (1 : Int32)) dX6_findSpans_85 1 rfl rfl (by decide) rfl ?_
    refine zb_goto X 26 dX6_findSpans_88 (by decide) ?_
    refine zb_sub [1, 0] rfl ?_
    exact hK26 (x1 + (1 : Int32)) a6 h
theorem uX6_findSpans_0 {G : zG} {Z : zC} {r : Bool} {ad ln : Nat → Nat} (X : zX G Z cX6_findSpans 2 RX6 wsX6_findSpans) {post : (Nat → Nat → Int32) → Prop} (hR : zRv G Z rmX6_findSpans 2 (zTC r) ad ln cX6_findSpans post) (al : Nat → Nat → Int32) (h : vcX6_findSpans_0 G r ad ln (BX6_findSpans_26 G Z r ad ln) post  al) : zB G Z rmX6_findSpans 2 (zTC r) ad ln 0 0 0 [(0, .ref (ad 22))] [] al := tX6_findSpans_0 X hR (fun _ _ h => h)  al h
theorem uX6_findSpans_26 {G : zG} {Z : zC} {r : Bool} {ad ln : Nat → Nat} (X : zX G Z cX6_findSpans 2 RX6 wsX6_findSpans) {post : (Nat → Nat → Int32) → Prop} (hR : zRv G Z rmX6_findSpans 2 (zTC r) ad ln cX6_findSpans post) (x1 : Int32) (al : Nat → Nat → Int32) (h : vcX6_findSpans_26 G r ad ln (BX6_findSpans_26 G Z r ad ln) post x1 al) : zB G Z rmX6_findSpans 2 (zTC r) ad ln 0 0 26 [(0, .ref (ad 22)), (1, .int x1)] [] al := tX6_findSpans_26 X hR (fun _ _ h => h) x1 al h

abbrev rmX6_orderSpans : Room := { frames := 0, cells := 0, slots := 0, locals := 0 }
theorem kX6_orderSpans_0 : Cond.fieldLink RX6 112 RX6 "spans" "I" ∈ wsX6_orderSpans := by decide +kernel
theorem kX6_orderSpans_1 : zIn RX6 TX6 13 wsX6_orderSpans := by decide +kernel
theorem kX6_orderSpans_2 : Cond.fieldLink RX6 30 RX6 "loop" "LLoopForge$Loop;" ∈ wsX6_orderSpans := by decide +kernel
theorem kX6_orderSpans_3 : Cond.fieldLink RX6 77 RX0 "size" "I" ∈ wsX6_orderSpans := by decide +kernel
theorem kX6_orderSpans_4 : zIn RX0 TX0 3 wsX6_orderSpans := by decide +kernel
theorem kX6_orderSpans_5 : Cond.fieldLink RX6 9 RX6 "begin" "[I" ∈ wsX6_orderSpans := by decide +kernel
theorem kX6_orderSpans_6 : Cond.fieldLink RX6 21 RX6 "order" "[I" ∈ wsX6_orderSpans := by decide +kernel
abbrev BX6_orderSpans_32 (G : zG) (Z : zC) (r : Bool) (ad ln : Nat → Nat) (x1 x2 : Int32) (al : Nat → Nat → Int32) : Prop := zB G Z rmX6_orderSpans 3 (zTC r) ad ln 0 0 32 [(0, .ref (ad 22)), (1, .int x1), (2, .int x2)] [] al
abbrev BX6_orderSpans_7 (G : zG) (Z : zC) (r : Bool) (ad ln : Nat → Nat) (x1 : Int32) (al : Nat → Nat → Int32) : Prop := zB G Z rmX6_orderSpans 3 (zTC r) ad ln 0 0 7 [(0, .ref (ad 22)), (1, .int x1)] [] al
def vcX6_orderSpans_0 (G : zG) (r : Bool) (ad ln : Nat → Nat) (K7 : Int32 → (Nat → Nat → Int32) → Prop) (K32 : Int32 → Int32 → (Nat → Nat → Int32) → Prop) (post : (Nat → Nat → Int32) → Prop) (al : Nat → Nat → Int32) : Prop :=
  K7 (0 : Int32) (up2 al 22 10 (0 : Int32))
def vcX6_orderSpans_95 (G : zG) (r : Bool) (ad ln : Nat → Nat) (K7 : Int32 → (Nat → Nat → Int32) → Prop) (K32 : Int32 → Int32 → (Nat → Nat → Int32) → Prop) (post : (Nat → Nat → Int32) → Prop) (x1 : Int32) (al : Nat → Nat → Int32) : Prop :=
  K7 (x1 + (1 : Int32)) al
def vcX6_orderSpans_7 (G : zG) (r : Bool) (ad ln : Nat → Nat) (K7 : Int32 → (Nat → Nat → Int32) → Prop) (K32 : Int32 → Int32 → (Nat → Nat → Int32) → Prop) (post : (Nat → Nat → Int32) → Prop) (x1 : Int32) (al : Nat → Nat → Int32) : Prop :=
  ((al 4 1) ≤ x1 → post al) ∧ (¬ (al 4 1) ≤ x1 → (vp_in x1 48 ∧ ((al 23 x1.toNatClampNeg) < 0 → vcX6_orderSpans_95 G r ad ln K7 K32 post x1 al) ∧ (¬ (al 23 x1.toNatClampNeg) < 0 → K32 x1 (al 22 10) al)))
def vcX6_orderSpans_78 (G : zG) (r : Bool) (ad ln : Nat → Nat) (K7 : Int32 → (Nat → Nat → Int32) → Prop) (K32 : Int32 → Int32 → (Nat → Nat → Int32) → Prop) (post : (Nat → Nat → Int32) → Prop) (x1 x2 : Int32) (al : Nat → Nat → Int32) : Prop :=
  (vp_in x2 48 ∧ vcX6_orderSpans_95 G r ad ln K7 K32 post x1 (up2 (up2 al 26 x2.toNatClampNeg x1) 22 10 ((al 22 10) + (1 : Int32))))
def vcX6_orderSpans_32 (G : zG) (r : Bool) (ad ln : Nat → Nat) (K7 : Int32 → (Nat → Nat → Int32) → Prop) (K32 : Int32 → Int32 → (Nat → Nat → Int32) → Prop) (post : (Nat → Nat → Int32) → Prop) (x1 x2 : Int32) (al : Nat → Nat → Int32) : Prop :=
  (x2 ≤ 0 → vcX6_orderSpans_78 G r ad ln K7 K32 post x1 x2 al) ∧ (¬ x2 ≤ 0 → (vp_in (x2 - (1 : Int32)) 48 ∧ vp_in (al 26 ((x2 - (1 : Int32)).toNatClampNeg)) 48 ∧ vp_in x1 48 ∧ ((al 23 ((al 26 ((x2 - (1 : Int32)).toNatClampNeg)).toNatClampNeg)) ≤ (al 23 x1.toNatClampNeg) → vcX6_orderSpans_78 G r ad ln K7 K32 post x1 x2 al) ∧ (¬ (al 23 ((al 26 ((x2 - (1 : Int32)).toNatClampNeg)).toNatClampNeg)) ≤ (al 23 x1.toNatClampNeg) → (vp_in (x2 - (1 : Int32)) 48 ∧ vp_in x2 48 ∧ K32 x1 (x2 + (-1 : Int32)) (up2 al 26 x2.toNatClampNeg (al 26 ((x2 - (1 : Int32)).toNatClampNeg)))))))
set_option maxRecDepth 20000 in
theorem tX6_orderSpans_0 {G : zG} {Z : zC} {r : Bool} {ad ln : Nat → Nat} (X : zX G Z cX6_orderSpans 3 RX6 wsX6_orderSpans) {K7 : Int32 → (Nat → Nat → Int32) → Prop} {K32 : Int32 → Int32 → (Nat → Nat → Int32) → Prop} {post : (Nat → Nat → Int32) → Prop} (hR : zRv G Z rmX6_orderSpans 3 (zTC r) ad ln cX6_orderSpans post) (hK7 : ∀ x1 : Int32, ∀ al, K7 x1 al → zB G Z rmX6_orderSpans 3 (zTC r) ad ln 0 0 7 [(0, .ref (ad 22)), (1, .int x1)] [] al) (hK32 : ∀ x1 x2 : Int32, ∀ al, K32 x1 x2 al → zB G Z rmX6_orderSpans 3 (zTC r) ad ln 0 0 32 [(0, .ref (ad 22)), (1, .int x1), (2, .int x2)] [] al) (al : Nat → Nat → Int32) (h : vcX6_orderSpans_0 G r ad ln K7 K32 post  al) : zB G Z rmX6_orderSpans 3 (zTC r) ad ln 0 0 0 [(0, .ref (ad 22))] [] al := by
  unfold vcX6_orderSpans_0 at h
  refine zb_aload_n X dX6_orderSpans_0 rfl 0 rfl ?_
  refine zb_iconst X (0 : Int32) dX6_orderSpans_1 (by decide) ?_
  refine zb_putI X 22 (zTC_lt (by decide)) 6 [6, 20, 4, 25, 26, 27, 28, 29, 30, 0, 0, 0, 0] rfl (C := RX6) (Tt := TX6) (N := 13) rfl kX6_orderSpans_1 tyX6 tyX6_ok nmX6 10 (by decide) rfl kX6_orderSpans_0 rfl rfl rfl rfl dX6_orderSpans_2 ?_
  refine zb_iconst X (0 : Int32) dX6_orderSpans_5 (by decide) ?_
  refine zb_istore_n X (lv' := [(1, .int (0 : Int32)), (0, .ref (ad 22))]) dX6_orderSpans_6 rfl (by decide) rfl ?_
  refine zb_sub [1, 0] rfl ?_
  exact hK7 (0 : Int32) (up2 al 22 10 (0 : Int32)) h
set_option maxRecDepth 20000 in
theorem tX6_orderSpans_95 {G : zG} {Z : zC} {r : Bool} {ad ln : Nat → Nat} (X : zX G Z cX6_orderSpans 3 RX6 wsX6_orderSpans) {K7 : Int32 → (Nat → Nat → Int32) → Prop} {K32 : Int32 → Int32 → (Nat → Nat → Int32) → Prop} {post : (Nat → Nat → Int32) → Prop} (hR : zRv G Z rmX6_orderSpans 3 (zTC r) ad ln cX6_orderSpans post) (hK7 : ∀ x1 : Int32, ∀ al, K7 x1 al → zB G Z rmX6_orderSpans 3 (zTC r) ad ln 0 0 7 [(0, .ref (ad 22)), (1, .int x1)] [] al) (hK32 : ∀ x1 x2 : Int32, ∀ al, K32 x1 x2 al → zB G Z rmX6_orderSpans 3 (zTC r) ad ln 0 0 32 [(0, .ref (ad 22)), (1, .int x1), (2, .int x2)] [] al) (x1 : Int32) (al : Nat → Nat → Int32) (h : vcX6_orderSpans_95 G r ad ln K7 K32 post x1 al) : zB G Z rmX6_orderSpans 3 (zTC r) ad ln 0 0 95 [(0, .ref (ad 22)), (1, .int x1)] [] al := by
  unfold vcX6_orderSpans_95 at h
  refine zb_iinc X (lv' := [(1, .int (x1 + (1 : Int32))), (0, .ref (ad 22))]) (x1 + (1 : Int32)) dX6_orderSpans_95 1 rfl rfl (by decide) rfl ?_
  refine zb_goto X 7 dX6_orderSpans_98 (by decide) ?_
  refine zb_sub [1, 0] rfl ?_
  exact hK7 (x1 + (1 : Int32)) al h
set_option maxRecDepth 20000 in
theorem tX6_orderSpans_7 {G : zG} {Z : zC} {r : Bool} {ad ln : Nat → Nat} (X : zX G Z cX6_orderSpans 3 RX6 wsX6_orderSpans) {K7 : Int32 → (Nat → Nat → Int32) → Prop} {K32 : Int32 → Int32 → (Nat → Nat → Int32) → Prop} {post : (Nat → Nat → Int32) → Prop} (hR : zRv G Z rmX6_orderSpans 3 (zTC r) ad ln cX6_orderSpans post) (hK7 : ∀ x1 : Int32, ∀ al, K7 x1 al → zB G Z rmX6_orderSpans 3 (zTC r) ad ln 0 0 7 [(0, .ref (ad 22)), (1, .int x1)] [] al) (hK32 : ∀ x1 x2 : Int32, ∀ al, K32 x1 x2 al → zB G Z rmX6_orderSpans 3 (zTC r) ad ln 0 0 32 [(0, .ref (ad 22)), (1, .int x1), (2, .int x2)] [] al) (x1 : Int32) (al : Nat → Nat → Int32) (h : vcX6_orderSpans_7 G r ad ln K7 K32 post x1 al) : zB G Z rmX6_orderSpans 3 (zTC r) ad ln 0 0 7 [(0, .ref (ad 22)), (1, .int x1)] [] al := by
  unfold vcX6_orderSpans_7 at h
  refine zb_iload_n X dX6_orderSpans_7 rfl 1 rfl ?_
  refine zb_aload_n X dX6_orderSpans_8 rfl 0 rfl ?_
  refine zb_getR X 22 (zTC_lt (by decide)) 6 [6, 20, 4, 25, 26, 27, 28, 29, 30, 0, 0, 0, 0] rfl (C := RX6) (Tt := TX6) (N := 13) rfl kX6_orderSpans_1 0 (by decide) 4 rfl kX6_orderSpans_2 rfl dX6_orderSpans_9 ?_
  refine zb_getI X 4 (zTC_lt (by decide)) 0 [7, 0, 8] rfl (C := RX0) (Tt := TX0) (N := 3) rfl kX6_orderSpans_4 1 (by decide) rfl kX6_orderSpans_3 rfl dX6_orderSpans_12 (al 4 1) rfl ?_
  refine zb_icmp_ge X 101 dX6_orderSpans_15 (by decide) (fun c1 => ?_) (fun c1 => ?_)
  · have h := h.1 c1
    exact hR 101 _ _ dX6_orderSpans_101 h
  · have h := h.2 c1
    refine zb_aload_n X dX6_orderSpans_18 rfl 0 rfl ?_
    refine zb_getR X 22 (zTC_lt (by decide)) 6 [6, 20, 4, 25, 26, 27, 28, 29, 30, 0, 0, 0, 0] rfl (C := RX6) (Tt := TX6) (N := 13) rfl kX6_orderSpans_1 3 (by decide) 23 rfl kX6_orderSpans_5 rfl dX6_orderSpans_19 ?_
    refine zb_iload_n X dX6_orderSpans_22 rfl 1 rfl ?_
    obtain ⟨hz, h⟩ := h
    refine zb_iald X 23 (zTC_lt (by decide)) 1 48 0 0 rfl (Or.inl rfl) x1.toNatClampNeg rfl hz dX6_orderSpans_23 (al 23 x1.toNatClampNeg) rfl ?_
    refine zb_if_lt X 95 dX6_orderSpans_24 (by decide) (fun c2 => ?_) (fun c2 => ?_)
    · have h := h.1 c2
      refine zb_sub [0, 1] rfl ?_
      exact tX6_orderSpans_95 X hR hK7 hK32 x1 al h
    · have h := h.2 c2
      refine zb_aload_n X dX6_orderSpans_27 rfl 0 rfl ?_
      refine zb_getI X 22 (zTC_lt (by decide)) 6 [6, 20, 4, 25, 26, 27, 28, 29, 30, 0, 0, 0, 0] rfl (C := RX6) (Tt := TX6) (N := 13) rfl kX6_orderSpans_1 10 (by decide) rfl kX6_orderSpans_0 rfl dX6_orderSpans_28 (al 22 10) rfl ?_
      refine zb_istore_n X (lv' := [(2, .int (al 22 10)), (0, .ref (ad 22)), (1, .int x1)]) dX6_orderSpans_31 rfl (by decide) rfl ?_
      refine zb_sub [1, 2, 0] rfl ?_
      exact hK32 x1 (al 22 10) al h
set_option maxRecDepth 20000 in
theorem tX6_orderSpans_78 {G : zG} {Z : zC} {r : Bool} {ad ln : Nat → Nat} (X : zX G Z cX6_orderSpans 3 RX6 wsX6_orderSpans) {K7 : Int32 → (Nat → Nat → Int32) → Prop} {K32 : Int32 → Int32 → (Nat → Nat → Int32) → Prop} {post : (Nat → Nat → Int32) → Prop} (hR : zRv G Z rmX6_orderSpans 3 (zTC r) ad ln cX6_orderSpans post) (hK7 : ∀ x1 : Int32, ∀ al, K7 x1 al → zB G Z rmX6_orderSpans 3 (zTC r) ad ln 0 0 7 [(0, .ref (ad 22)), (1, .int x1)] [] al) (hK32 : ∀ x1 x2 : Int32, ∀ al, K32 x1 x2 al → zB G Z rmX6_orderSpans 3 (zTC r) ad ln 0 0 32 [(0, .ref (ad 22)), (1, .int x1), (2, .int x2)] [] al) (x1 x2 : Int32) (al : Nat → Nat → Int32) (h : vcX6_orderSpans_78 G r ad ln K7 K32 post x1 x2 al) : zB G Z rmX6_orderSpans 3 (zTC r) ad ln 0 0 78 [(0, .ref (ad 22)), (1, .int x1), (2, .int x2)] [] al := by
  unfold vcX6_orderSpans_78 at h
  refine zb_aload_n X dX6_orderSpans_78 rfl 0 rfl ?_
  refine zb_getR X 22 (zTC_lt (by decide)) 6 [6, 20, 4, 25, 26, 27, 28, 29, 30, 0, 0, 0, 0] rfl (C := RX6) (Tt := TX6) (N := 13) rfl kX6_orderSpans_1 6 (by decide) 26 rfl kX6_orderSpans_6 rfl dX6_orderSpans_79 ?_
  refine zb_iload_n X dX6_orderSpans_82 rfl 2 rfl ?_
  refine zb_iload_n X dX6_orderSpans_83 rfl 1 rfl ?_
  obtain ⟨hz, h⟩ := h
  refine zb_iast X 26 (zTC_lt (by decide)) 1 48 0 0 rfl (Or.inl rfl) x2.toNatClampNeg rfl hz dX6_orderSpans_84 ?_
  refine zb_aload_n X dX6_orderSpans_85 rfl 0 rfl ?_
  refine zb_dup X dX6_orderSpans_86 rfl ?_
  refine zb_getI X 22 (zTC_lt (by decide)) 6 [6, 20, 4, 25, 26, 27, 28, 29, 30, 0, 0, 0, 0] rfl (C := RX6) (Tt := TX6) (N := 13) rfl kX6_orderSpans_1 10 (by decide) rfl kX6_orderSpans_0 rfl dX6_orderSpans_87 (al 22 10) rfl ?_
  refine zb_iconst X (1 : Int32) dX6_orderSpans_90 (by decide) ?_
  refine zb_iadd X dX6_orderSpans_91 ?_
  refine zb_putI X 22 (zTC_lt (by decide)) 6 [6, 20, 4, 25, 26, 27, 28, 29, 30, 0, 0, 0, 0] rfl (C := RX6) (Tt := TX6) (N := 13) rfl kX6_orderSpans_1 tyX6 tyX6_ok nmX6 10 (by decide) rfl kX6_orderSpans_0 rfl rfl rfl rfl dX6_orderSpans_92 ?_
  refine zb_sub [0, 1] rfl ?_
  exact tX6_orderSpans_95 X hR hK7 hK32 x1 (up2 (up2 al 26 x2.toNatClampNeg x1) 22 10 ((al 22 10) + (1 : Int32))) h
set_option maxRecDepth 20000 in
theorem tX6_orderSpans_32 {G : zG} {Z : zC} {r : Bool} {ad ln : Nat → Nat} (X : zX G Z cX6_orderSpans 3 RX6 wsX6_orderSpans) {K7 : Int32 → (Nat → Nat → Int32) → Prop} {K32 : Int32 → Int32 → (Nat → Nat → Int32) → Prop} {post : (Nat → Nat → Int32) → Prop} (hR : zRv G Z rmX6_orderSpans 3 (zTC r) ad ln cX6_orderSpans post) (hK7 : ∀ x1 : Int32, ∀ al, K7 x1 al → zB G Z rmX6_orderSpans 3 (zTC r) ad ln 0 0 7 [(0, .ref (ad 22)), (1, .int x1)] [] al) (hK32 : ∀ x1 x2 : Int32, ∀ al, K32 x1 x2 al → zB G Z rmX6_orderSpans 3 (zTC r) ad ln 0 0 32 [(0, .ref (ad 22)), (1, .int x1), (2, .int x2)] [] al) (x1 x2 : Int32) (al : Nat → Nat → Int32) (h : vcX6_orderSpans_32 G r ad ln K7 K32 post x1 x2 al) : zB G Z rmX6_orderSpans 3 (zTC r) ad ln 0 0 32 [(0, .ref (ad 22)), (1, .int x1), (2, .int x2)] [] al := by
  unfold vcX6_orderSpans_32 at h
  refine zb_iload_n X dX6_orderSpans_32 rfl 2 rfl ?_
  refine zb_if_le X 78 dX6_orderSpans_33 (by decide) (fun c1 => ?_) (fun c1 => ?_)
  · have h := h.1 c1
    refine zb_sub [0, 1, 2] rfl ?_
    exact tX6_orderSpans_78 X hR hK7 hK32 x1 x2 al h
  · have h := h.2 c1
    refine zb_aload_n X dX6_orderSpans_36 rfl 0 rfl ?_
    refine zb_getR X 22 (zTC_lt (by decide)) 6 [6, 20, 4, 25, 26, 27, 28, 29, 30, 0, 0, 0, 0] rfl (C := RX6) (Tt := TX6) (N := 13) rfl kX6_orderSpans_1 3 (by decide) 23 rfl kX6_orderSpans_5 rfl dX6_orderSpans_37 ?_
    refine zb_aload_n X dX6_orderSpans_40 rfl 0 rfl ?_
    refine zb_getR X 22 (zTC_lt (by decide)) 6 [6, 20, 4, 25, 26, 27, 28, 29, 30, 0, 0, 0, 0] rfl (C := RX6) (Tt := TX6) (N := 13) rfl kX6_orderSpans_1 6 (by decide) 26 rfl kX6_orderSpans_6 rfl dX6_orderSpans_41 ?_
    refine zb_iload_n X dX6_orderSpans_44 rfl 2 rfl ?_
    refine zb_iconst X (1 : Int32) dX6_orderSpans_45 (by decide) ?_
    refine zb_isub X dX6_orderSpans_46 ?_
    obtain ⟨hz, h⟩ := h
    refine zb_iald X 26 (zTC_lt (by decide)) 1 48 0 0 rfl (Or.inl rfl) ((x2 - (1 : Int32)).toNatClampNeg) rfl hz dX6_orderSpans_47 (al 26 ((x2 - (1 : Int32)).toNatClampNeg)) rfl ?_
    obtain ⟨hz, h⟩ := h
    refine zb_iald X 23 (zTC_lt (by decide)) 1 48 0 0 rfl (Or.inl rfl) ((al 26 ((x2 - (1 : Int32)).toNatClampNeg)).toNatClampNeg) rfl hz dX6_orderSpans_48 (al 23 ((al 26 ((x2 - (1 : Int32)).toNatClampNeg)).toNatClampNeg)) rfl ?_
    refine zb_aload_n X dX6_orderSpans_49 rfl 0 rfl ?_
    refine zb_getR X 22 (zTC_lt (by decide)) 6 [6, 20, 4, 25, 26, 27, 28, 29, 30, 0, 0, 0, 0] rfl (C := RX6) (Tt := TX6) (N := 13) rfl kX6_orderSpans_1 3 (by decide) 23 rfl kX6_orderSpans_5 rfl dX6_orderSpans_50 ?_
    refine zb_iload_n X dX6_orderSpans_53 rfl 1 rfl ?_
    obtain ⟨hz, h⟩ := h
    refine zb_iald X 23 (zTC_lt (by decide)) 1 48 0 0 rfl (Or.inl rfl) x1.toNatClampNeg rfl hz dX6_orderSpans_54 (al 23 x1.toNatClampNeg) rfl ?_
    refine zb_icmp_le X 78 dX6_orderSpans_55 (by decide) (fun c2 => ?_) (fun c2 => ?_)
    · have h := h.1 c2
      refine zb_sub [0, 1, 2] rfl ?_
      exact tX6_orderSpans_78 X hR hK7 hK32 x1 x2 al h
    · have h := h.2 c2
      refine zb_aload_n X dX6_orderSpans_58 rfl 0 rfl ?_
      refine zb_getR X 22 (zTC_lt (by decide)) 6 [6, 20, 4, 25, 26, 27, 28, 29, 30, 0, 0, 0, 0] rfl (C := RX6) (Tt := TX6) (N := 13) rfl kX6_orderSpans_1 6 (by decide) 26 rfl kX6_orderSpans_6 rfl dX6_orderSpans_59 ?_
      refine zb_iload_n X dX6_orderSpans_62 rfl 2 rfl ?_
      refine zb_aload_n X dX6_orderSpans_63 rfl 0 rfl ?_
      refine zb_getR X 22 (zTC_lt (by decide)) 6 [6, 20, 4, 25, 26, 27, 28, 29, 30, 0, 0, 0, 0] rfl (C := RX6) (Tt := TX6) (N := 13) rfl kX6_orderSpans_1 6 (by decide) 26 rfl kX6_orderSpans_6 rfl dX6_orderSpans_64 ?_
      refine zb_iload_n X dX6_orderSpans_67 rfl 2 rfl ?_
      refine zb_iconst X (1 : Int32) dX6_orderSpans_68 (by decide) ?_
      refine zb_isub X dX6_orderSpans_69 ?_
      obtain ⟨hz, h⟩ := h
      refine zb_iald X 26 (zTC_lt (by decide)) 1 48 0 0 rfl (Or.inl rfl) ((x2 - (1 : Int32)).toNatClampNeg) rfl hz dX6_orderSpans_70 (al 26 ((x2 - (1 : Int32)).toNatClampNeg)) rfl ?_
      obtain ⟨hz, h⟩ := h
      refine zb_iast X 26 (zTC_lt (by decide)) 1 48 0 0 rfl (Or.inl rfl) x2.toNatClampNeg rfl hz dX6_orderSpans_71 ?_
      refine zb_iinc X (lv' := [(2, .int (x2 + (-1 : Int32))), (0, .ref (ad 22)), (1, .int x1)]) (x2 + (-1 : Int32)) dX6_orderSpans_72 2 rfl rfl (by decide) rfl ?_
      refine zb_goto X 32 dX6_orderSpans_75 (by decide) ?_
      refine zb_sub [1, 2, 0] rfl ?_
      exact hK32 x1 (x2 + (-1 : Int32)) (up2 al 26 x2.toNatClampNeg (al 26 ((x2 - (1 : Int32)).toNatClampNeg))) h
theorem uX6_orderSpans_0 {G : zG} {Z : zC} {r : Bool} {ad ln : Nat → Nat} (X : zX G Z cX6_orderSpans 3 RX6 wsX6_orderSpans) {post : (Nat → Nat → Int32) → Prop} (hR : zRv G Z rmX6_orderSpans 3 (zTC r) ad ln cX6_orderSpans post) (al : Nat → Nat → Int32) (h : vcX6_orderSpans_0 G r ad ln (BX6_orderSpans_7 G Z r ad ln) (BX6_orderSpans_32 G Z r ad ln) post  al) : zB G Z rmX6_orderSpans 3 (zTC r) ad ln 0 0 0 [(0, .ref (ad 22))] [] al := tX6_orderSpans_0 X hR (fun _ _ h => h) (fun _ _ _ h => h)  al h
theorem uX6_orderSpans_95 {G : zG} {Z : zC} {r : Bool} {ad ln : Nat → Nat} (X : zX G Z cX6_orderSpans 3 RX6 wsX6_orderSpans) {post : (Nat → Nat → Int32) → Prop} (hR : zRv G Z rmX6_orderSpans 3 (zTC r) ad ln cX6_orderSpans post) (x1 : Int32) (al : Nat → Nat → Int32) (h : vcX6_orderSpans_95 G r ad ln (BX6_orderSpans_7 G Z r ad ln) (BX6_orderSpans_32 G Z r ad ln) post x1 al) : zB G Z rmX6_orderSpans 3 (zTC r) ad ln 0 0 95 [(0, .ref (ad 22)), (1, .int x1)] [] al := tX6_orderSpans_95 X hR (fun _ _ h => h) (fun _ _ _ h => h) x1 al h
theorem uX6_orderSpans_7 {G : zG} {Z : zC} {r : Bool} {ad ln : Nat → Nat} (X : zX G Z cX6_orderSpans 3 RX6 wsX6_orderSpans) {post : (Nat → Nat → Int32) → Prop} (hR : zRv G Z rmX6_orderSpans 3 (zTC r) ad ln cX6_orderSpans post) (x1 : Int32) (al : Nat → Nat → Int32) (h : vcX6_orderSpans_7 G r ad ln (BX6_orderSpans_7 G Z r ad ln) (BX6_orderSpans_32 G Z r ad ln) post x1 al) : zB G Z rmX6_orderSpans 3 (zTC r) ad ln 0 0 7 [(0, .ref (ad 22)), (1, .int x1)] [] al := tX6_orderSpans_7 X hR (fun _ _ h => h) (fun _ _ _ h => h) x1 al h
theorem uX6_orderSpans_78 {G : zG} {Z : zC} {r : Bool} {ad ln : Nat → Nat} (X : zX G Z cX6_orderSpans 3 RX6 wsX6_orderSpans) {post : (Nat → Nat → Int32) → Prop} (hR : zRv G Z rmX6_orderSpans 3 (zTC r) ad ln cX6_orderSpans post) (x1 x2 : Int32) (al : Nat → Nat → Int32) (h : vcX6_orderSpans_78 G r ad ln (BX6_orderSpans_7 G Z r ad ln) (BX6_orderSpans_32 G Z r ad ln) post x1 x2 al) : zB G Z rmX6_orderSpans 3 (zTC r) ad ln 0 0 78 [(0, .ref (ad 22)), (1, .int x1), (2, .int x2)] [] al := tX6_orderSpans_78 X hR (fun _ _ h => h) (fun _ _ _ h => h) x1 x2 al h
theorem uX6_orderSpans_32 {G : zG} {Z : zC} {r : Bool} {ad ln : Nat → Nat} (X : zX G Z cX6_orderSpans 3 RX6 wsX6_orderSpans) {post : (Nat → Nat → Int32) → Prop} (hR : zRv G Z rmX6_orderSpans 3 (zTC r) ad ln cX6_orderSpans post) (x1 x2 : Int32) (al : Nat → Nat → Int32) (h : vcX6_orderSpans_32 G r ad ln (BX6_orderSpans_7 G Z r ad ln) (BX6_orderSpans_32 G Z r ad ln) post x1 x2 al) : zB G Z rmX6_orderSpans 3 (zTC r) ad ln 0 0 32 [(0, .ref (ad 22)), (1, .int x1), (2, .int x2)] [] al := tX6_orderSpans_32 X hR (fun _ _ h => h) (fun _ _ _ h => h) x1 x2 al h

abbrev rmX6_findNeed : Room := { frames := 2, cells := 0, slots := 0, locals := 43 }
theorem kX6_findNeed_0 : Cond.fieldLink RX6 24 RX6 "alive" "[I" ∈ wsX6_findNeed := by decide +kernel
theorem kX6_findNeed_1 : zIn RX6 TX6 13 wsX6_findNeed := by decide +kernel
theorem kX6_findNeed_2 : Cond.fieldLink RX6 112 RX6 "spans" "I" ∈ wsX6_findNeed := by decide +kernel
theorem kX6_findNeed_3 : Cond.fieldLink RX6 21 RX6 "order" "[I" ∈ wsX6_findNeed := by decide +kernel
theorem kX6_findNeed_4 : Cond.fieldLink RX6 9 RX6 "begin" "[I" ∈ wsX6_findNeed := by decide +kernel
theorem kX6_findNeed_5 : Cond.fieldLink RX6 15 RX6 "end" "[I" ∈ wsX6_findNeed := by decide +kernel
theorem kX6_findNeed_6 : Cond.fieldLink RX6 41 RX6 "distance" "I" ∈ wsX6_findNeed := by decide +kernel
theorem kX6_findNeed_7 : Cond.initialized RX9 ∈ wsX6_findNeed := by decide +kernel
theorem kX6_findNeed_8 : Cond.static yX9_rest ∈ wsX6_findNeed := by decide +kernel
theorem kX6_findNeed_9 : Cond.methodLink RX6 58 Lib.Math.max.name ∈ wsX6_findNeed := by decide +kernel
theorem kX6_findNeed_10 : Cond.static Lib.Math.max.name ∈ wsX6_findNeed := by decide +kernel
theorem kX6_findNeed_11 : Cond.initialized "java/lang/Math" ∈ wsX6_findNeed := by decide +kernel
theorem kX6_findNeed_12 : Cond.code Lib.Math.max.name Lib.Math.max.code 2 (some .int) ∈ wsX6_findNeed := by decide +kernel
abbrev BX6_findNeed_75 (G : zG) (Z : zC) (r : Bool) (ad ln : Nat → Nat) (x1 x2 : Int32) (al : Nat → Nat → Int32) : Prop := zB G Z rmX6_findNeed 4 (zTC r) ad ln 0 0 75 [(0, .ref (ad 22)), (1, .int x1), (2, .int x2)] [] al
abbrev BX6_findNeed_32 (G : zG) (Z : zC) (r : Bool) (ad ln : Nat → Nat) (x1 x2 x3 : Int32) (al : Nat → Nat → Int32) : Prop := zB G Z rmX6_findNeed 4 (zTC r) ad ln 0 0 32 [(0, .ref (ad 22)), (1, .int x1), (2, .int x2), (3, .int x3)] [] al
abbrev BX6_findNeed_10 (G : zG) (Z : zC) (r : Bool) (ad ln : Nat → Nat) (x1 : Int32) (al : Nat → Nat → Int32) : Prop := zB G Z rmX6_findNeed 4 (zTC r) ad ln 0 0 10 [(0, .ref (ad 22)), (1, .int x1)] [] al
def vcX6_findNeed_0 (G : zG) (r : Bool) (ad ln : Nat → Nat) (K10 : Int32 → (Nat → Nat → Int32) → Prop) (K32 : Int32 → Int32 → Int32 → (Nat → Nat → Int32) → Prop) (K75 : Int32 → Int32 → (Nat → Nat → Int32) → Prop) (post : Int32 → (Nat → Nat → Int32) → Prop) (al : Nat → Nat → Int32) : Prop :=
  zMv G yJ7_fill_53178 wsJ7_fill_53178 rmJ7_fill_53178 (zTC r) ad ln [.ref (ad 27), .int (0 : Int32)] al (fun a1 => K10 (0 : Int32) a1)
def vcX6_findNeed_10 (G : zG) (r : Bool) (ad ln : Nat → Nat) (K10 : Int32 → (Nat → Nat → Int32) → Prop) (K32 : Int32 → Int32 → Int32 → (Nat → Nat → Int32) → Prop) (K75 : Int32 → Int32 → (Nat → Nat → Int32) → Prop) (post : Int32 → (Nat → Nat → Int32) → Prop) (x1 : Int32) (al : Nat → Nat → Int32) : Prop :=
  ((al 22 10) ≤ x1 → K75 (0 : Int32) (0 : Int32) al) ∧ (¬ (al 22 10) ≤ x1 → (vp_in x1 48 ∧ vp_in (al 26 x1.toNatClampNeg) 48 ∧ K32 x1 (al 26 x1.toNatClampNeg) (al 23 ((al 26 x1.toNatClampNeg).toNatClampNeg)) al))
def vcX6_findNeed_32 (G : zG) (r : Bool) (ad ln : Nat → Nat) (K10 : Int32 → (Nat → Nat → Int32) → Prop) (K32 : Int32 → Int32 → Int32 → (Nat → Nat → Int32) → Prop) (K75 : Int32 → Int32 → (Nat → Nat → Int32) → Prop) (post : Int32 → (Nat → Nat → Int32) → Prop) (x1 x2 x3 : Int32) (al : Nat → Nat → Int32) : Prop :=
  (vp_in x2 48 ∧ ((al 24 x2.toNatClampNeg) < x3 → K10 (x1 + (1 : Int32)) al) ∧ (¬ (al 24 x2.toNatClampNeg) < x3 → zMi G yX9_rest wsX9_rest rmX9_rest (zTC r) ad ln [.int x3, .int (al 22 9)] al (fun q2 a2 => (vp_in q2 200 ∧ vp_in q2 200 ∧ K32 x1 x2 (x3 + (1 : Int32)) (up2 a2 27 q2.toNatClampNeg ((a2 27 q2.toNatClampNeg) + (1 : Int32)))))))
def vcX6_findNeed_75 (G : zG) (r : Bool) (ad ln : Nat → Nat) (K10 : Int32 → (Nat → Nat → Int32) → Prop) (K32 : Int32 → Int32 → Int32 → (Nat → Nat → Int32) → Prop) (K75 : Int32 → Int32 → (Nat → Nat → Int32) → Prop) (post : Int32 → (Nat → Nat → Int32) → Prop) (x1 x2 : Int32) (al : Nat → Nat → Int32) : Prop :=
  ((al 22 9) ≤ x2 → post x1 al) ∧ (¬ (al 22 9) ≤ x2 → (vp_in x2 200 ∧ K75 (if x1 < (al 27 x2.toNatClampNeg) then (al 27 x2.toNatClampNeg) else x1) (x2 + (1 : Int32)) al))
set_option maxRecDepth 20000 in
theorem tX6_findNeed_0 {G : zG} {Z : zC} {r : Bool} {ad ln : Nat → Nat} (X : zX G Z cX6_findNeed 4 RX6 wsX6_findNeed) {K10 : Int32 → (Nat → Nat → Int32) → Prop} {K32 : Int32 → Int32 → Int32 → (Nat → Nat → Int32) → Prop} {K75 : Int32 → Int32 → (Nat → Nat → Int32) → Prop} {post : Int32 → (Nat → Nat → Int32) → Prop} (hR : zRi G Z rmX6_findNeed 4 (zTC r) ad ln cX6_findNeed .int post) (hK10 : ∀ x1 : Int32, ∀ al, K10 x1 al → zB G Z rmX6_findNeed 4 (zTC r) ad ln 0 0 10 [(0, .ref (ad 22)), (1, .int x1)] [] al) (hK32 : ∀ x1 x2 x3 : Int32, ∀ al, K32 x1 x2 x3 al → zB G Z rmX6_findNeed 4 (zTC r) ad ln 0 0 32 [(0, .ref (ad 22)), (1, .int x1), (2, .int x2), (3, .int x3)] [] al) (hK75 : ∀ x1 x2 : Int32, ∀ al, K75 x1 x2 al → zB G Z rmX6_findNeed 4 (zTC r) ad ln 0 0 75 [(0, .ref (ad 22)), (1, .int x1), (2, .int x2)] [] al) (al : Nat → Nat → Int32) (h : vcX6_findNeed_0 G r ad ln K10 K32 K75 post  al) : zB G Z rmX6_findNeed 4 (zTC r) ad ln 0 0 0 [(0, .ref (ad 22))] [] al := by
  unfold vcX6_findNeed_0 at h
  refine zb_aload_n X dX6_findNeed_0 rfl 0 rfl ?_
  refine zb_getR X 22 (zTC_lt (by decide)) 6 [6, 20, 4, 25, 26, 27, 28, 29, 30, 0, 0, 0, 0] rfl (C := RX6) (Tt := TX6) (N := 13) rfl kX6_findNeed_1 7 (by decide) 27 rfl kX6_findNeed_0 rfl dX6_findNeed_1 ?_
  refine zb_iconst X (0 : Int32) dX6_findNeed_4 (by decide) ?_
  refine zb_callSv (n := 2) X h gX6_findNeed_J7_fill_53178 rfl (by decide +kernel) (by decide) rfl rfl (Nat.le_of_ble_eq_true rfl) dX6_findNeed_5 (kc' := 0) (ks' := 0) rfl rfl (fun a1 h => ?_)
  refine zb_iconst X (0 : Int32) dX6_findNeed_8 (by decide) ?_
  refine zb_istore_n X (lv' := [(1, .int (0 : Int32)), (0, .ref (ad 22))]) dX6_findNeed_9 rfl (by decide) rfl ?_
  refine zb_sub [1, 0] rfl ?_
  exact hK10 (0 : Int32) a1 h
set_option maxRecDepth 20000 in
theorem tX6_findNeed_10 {G : zG} {Z : zC} {r : Bool} {ad ln : Nat → Nat} (X : zX G Z cX6_findNeed 4 RX6 wsX6_findNeed) {K10 : Int32 → (Nat → Nat → Int32) → Prop} {K32 : Int32 → Int32 → Int32 → (Nat → Nat → Int32) → Prop} {K75 : Int32 → Int32 → (Nat → Nat → Int32) → Prop} {post : Int32 → (Nat → Nat → Int32) → Prop} (hR : zRi G Z rmX6_findNeed 4 (zTC r) ad ln cX6_findNeed .int post) (hK10 : ∀ x1 : Int32, ∀ al, K10 x1 al → zB G Z rmX6_findNeed 4 (zTC r) ad ln 0 0 10 [(0, .ref (ad 22)), (1, .int x1)] [] al) (hK32 : ∀ x1 x2 x3 : Int32, ∀ al, K32 x1 x2 x3 al → zB G Z rmX6_findNeed 4 (zTC r) ad ln 0 0 32 [(0, .ref (ad 22)), (1, .int x1), (2, .int x2), (3, .int x3)] [] al) (hK75 : ∀ x1 x2 : Int32, ∀ al, K75 x1 x2 al → zB G Z rmX6_findNeed 4 (zTC r) ad ln 0 0 75 [(0, .ref (ad 22)), (1, .int x1), (2, .int x2)] [] al) (x1 : Int32) (al : Nat → Nat → Int32) (h : vcX6_findNeed_10 G r ad ln K10 K32 K75 post x1 al) : zB G Z rmX6_findNeed 4 (zTC r) ad ln 0 0 10 [(0, .ref (ad 22)), (1, .int x1)] [] al := by
  unfold vcX6_findNeed_10 at h
  refine zb_iload_n X dX6_findNeed_10 rfl 1 rfl ?_
  refine zb_aload_n X dX6_findNeed_11 rfl 0 rfl ?_
  refine zb_getI X 22 (zTC_lt (by decide)) 6 [6, 20, 4, 25, 26, 27, 28, 29, 30, 0, 0, 0, 0] rfl (C := RX6) (Tt := TX6) (N := 13) rfl kX6_findNeed_1 10 (by decide) rfl kX6_findNeed_2 rfl dX6_findNeed_12 (al 22 10) rfl ?_
  refine zb_icmp_ge X 71 dX6_findNeed_15 (by decide) (fun c1 => ?_) (fun c1 => ?_)
  · have h := h.1 c1
    refine zb_iconst X (0 : Int32) dX6_findNeed_71 (by decide) ?_
    refine zb_istore_n X (lv' := [(1, .int (0 : Int32)), (0, .ref (ad 22))]) dX6_findNeed_72 rfl (by decide) rfl ?_
    refine zb_iconst X (0 : Int32) dX6_findNeed_73 (by decide) ?_
    refine zb_istore_n X (lv' := [(2, .int (0 : Int32)), (1, .int (0 : Int32)), (0, .ref (ad 22))]) dX6_findNeed_74 rfl (by decide) rfl ?_
    refine zb_sub [2, 1, 0] rfl ?_
    exact hK75 (0 : Int32) (0 : Int32) al h
  · have h := h.2 c1
    refine zb_aload_n X dX6_findNeed_18 rfl 0 rfl ?_
    refine zb_getR X 22 (zTC_lt (by decide)) 6 [6, 20, 4, 25, 26, 27, 28, 29, 30, 0, 0, 0, 0] rfl (C := RX6) (Tt := TX6) (N := 13) rfl kX6_findNeed_1 6 (by decide) 26 rfl kX6_findNeed_3 rfl dX6_findNeed_19 ?_
    refine zb_iload_n X dX6_findNeed_22 rfl 1 rfl ?_
    obtain ⟨hz, h⟩ := h
    refine zb_iald X 26 (zTC_lt (by decide)) 1 48 0 0 rfl (Or.inl rfl) x1.toNatClampNeg rfl hz dX6_findNeed_23 (al 26 x1.toNatClampNeg) rfl ?_
    refine zb_istore_n X (lv' := [(2, .int (al 26 x1.toNatClampNeg)), (0, .ref (ad 22)), (1, .int x1)]) dX6_findNeed_24 rfl (by decide) rfl ?_
    refine zb_aload_n X dX6_findNeed_25 rfl 1 rfl ?_
    refine zb_getR X 22 (zTC_lt (by decide)) 6 [6, 20, 4, 25, 26, 27, 28, 29, 30, 0, 0, 0, 0] rfl (C := RX6) (Tt := TX6) (N := 13) rfl kX6_findNeed_1 3 (by decide) 23 rfl kX6_findNeed_4 rfl dX6_findNeed_26 ?_
    refine zb_iload_n X dX6_findNeed_29 rfl 0 rfl ?_
    obtain ⟨hz, h⟩ := h
    refine zb_iald X 23 (zTC_lt (by decide)) 1 48 0 0 rfl (Or.inl rfl) ((al 26 x1.toNatClampNeg).toNatClampNeg) rfl hz dX6_findNeed_30 (al 23 ((al 26 x1.toNatClampNeg).toNatClampNeg)) rfl ?_
    refine zb_istore_n X (lv' := [(3, .int (al 23 ((al 26 x1.toNatClampNeg).toNatClampNeg))), (2, .int (al 26 x1.toNatClampNeg)), (0, .ref (ad 22)), (1, .int x1)]) dX6_findNeed_31 rfl (by decide) rfl ?_
    refine zb_sub [2, 3, 1, 0] rfl ?_
    exact hK32 x1 (al 26 x1.toNatClampNeg) (al 23 ((al 26 x1.toNatClampNeg).toNatClampNeg)) al h
set_option maxRecDepth 20000 in
theorem tX6_findNeed_32 {G : zG} {Z : zC} {r : Bool} {ad ln : Nat → Nat} (X : zX G Z cX6_findNeed 4 RX6 wsX6_findNeed) {K10 : Int32 → (Nat → Nat → Int32) → Prop} {K32 : Int32 → Int32 → Int32 → (Nat → Nat → Int32) → Prop} {K75 : Int32 → Int32 → (Nat → Nat → Int32) → Prop} {post : Int32 → (Nat → Nat → Int32) → Prop} (hR : zRi G Z rmX6_findNeed 4 (zTC r) ad ln cX6_findNeed .int post) (hK10 : ∀ x1 : Int32, ∀ al, K10 x1 al → zB G Z rmX6_findNeed 4 (zTC r) ad ln 0 0 10 [(0, .ref (ad 22)), (1, .int x1)] [] al) (hK32 : ∀ x1 x2 x3 : Int32, ∀ al, K32 x1 x2 x3 al → zB G Z rmX6_findNeed 4 (zTC r) ad ln 0 0 32 [(0, .ref (ad 22)), (1, .int x1), (2, .int x2), (3, .int x3)] [] al) (hK75 : ∀ x1 x2 : Int32, ∀ al, K75 x1 x2 al → zB G Z rmX6_findNeed 4 (zTC r) ad ln 0 0 75 [(0, .ref (ad 22)), (1, .int x1), (2, .int x2)] [] al) (x1 x2 x3 : Int32) (al : Nat → Nat → Int32) (h : vcX6_findNeed_32 G r ad ln K10 K32 K75 post x1 x2 x3 al) : zB G Z rmX6_findNeed 4 (zTC r) ad ln 0 0 32 [(0, .ref (ad 22)), (1, .int x1), (2, .int x2), (3, .int x3)] [] al := by
  unfold vcX6_findNeed_32 at h
  refine zb_iload_n X dX6_findNeed_32 rfl 3 rfl ?_
  refine zb_aload_n X dX6_findNeed_33 rfl 0 rfl ?_
  refine zb_getR X 22 (zTC_lt (by decide)) 6 [6, 20, 4, 25, 26, 27, 28, 29, 30, 0, 0, 0, 0] rfl (C := RX6) (Tt := TX6) (N := 13) rfl kX6_findNeed_1 4 (by decide) 24 rfl kX6_findNeed_5 rfl dX6_findNeed_34 ?_
  refine zb_iload_n X dX6_findNeed_37 rfl 2 rfl ?_
  obtain ⟨hz, h⟩ := h
  refine zb_iald X 24 (zTC_lt (by decide)) 1 48 0 0 rfl (Or.inl rfl) x2.toNatClampNeg rfl hz dX6_findNeed_38 (al 24 x2.toNatClampNeg) rfl ?_
  refine zb_icmp_gt X 65 dX6_findNeed_39 (by decide) (fun c1 => ?_) (fun c1 => ?_)
  · have h := h.1 c1
    refine zb_iinc X (lv' := [(1, .int (x1 + (1 : Int32))), (0, .ref (ad 22)), (2, .int x2), (3, .int x3)]) (x1 + (1 : Int32)) dX6_findNeed_65 1 rfl rfl (by decide) rfl ?_
    refine zb_goto X 10 dX6_findNeed_68 (by decide) ?_
    refine zb_sub [1, 0] rfl ?_
    exact hK10 (x1 + (1 : Int32)) al h
  · have h := h.2 c1
    refine zb_aload_n X dX6_findNeed_42 rfl 0 rfl ?_
    refine zb_getR X 22 (zTC_lt (by decide)) 6 [6, 20, 4, 25, 26, 27, 28, 29, 30, 0, 0, 0, 0] rfl (C := RX6) (Tt := TX6) (N := 13) rfl kX6_findNeed_1 7 (by decide) 27 rfl kX6_findNeed_0 rfl dX6_findNeed_43 ?_
    refine zb_iload_n X dX6_findNeed_46 rfl 3 rfl ?_
    refine zb_aload_n X dX6_findNeed_47 rfl 0 rfl ?_
    refine zb_getI X 22 (zTC_lt (by decide)) 6 [6, 20, 4, 25, 26, 27, 28, 29, 30, 0, 0, 0, 0] rfl (C := RX6) (Tt := TX6) (N := 13) rfl kX6_findNeed_1 9 (by decide) rfl kX6_findNeed_6 rfl dX6_findNeed_48 (al 22 9) rfl ?_
    refine zb_callNi (n := 2) X h gX6_findNeed_X9_rest_n115 (by decide +kernel) kX6_findNeed_7 kX6_findNeed_8 rfl (by decide +kernel) (by decide) rfl rfl (Nat.le_of_ble_eq_true rfl) dX6_findNeed_51 (kc' := 0) (ks' := 0) rfl rfl (fun q2 a2 h => ?_)
    refine zb_dup2 X dX6_findNeed_54 rfl rfl ?_
    obtain ⟨hz, h⟩ := h
    refine zb_iald X 27 (zTC_lt (by decide)) 1 200 0 0 rfl (Or.inl rfl) q2.toNatClampNeg rfl hz dX6_findNeed_55 (a2 27 q2.toNatClampNeg) rfl ?_
    refine zb_iconst X (1 : Int32) dX6_findNeed_56 (by decide) ?_
    refine zb_iadd X dX6_findNeed_57 ?_
    obtain ⟨hz, h⟩ := h
    refine zb_iast X 27 (zTC_lt (by decide)) 1 200 0 0 rfl (Or.inl rfl) q2.toNatClampNeg rfl hz dX6_findNeed_58 ?_
    refine zb_iinc X (lv' := [(3, .int (x3 + (1 : Int32))), (0, .ref (ad 22)), (1, .int x1), (2, .int x2)]) (x3 + (1 : Int32)) dX6_findNeed_59 3 rfl rfl (by decide) rfl ?_
    refine zb_goto X 32 dX6_findNeed_62 (by decide) ?_
    refine zb_sub [1, 2, 3, 0] rfl ?_
    exact hK32 x1 x2 (x3 + (1 : Int32)) (up2 a2 27 q2.toNatClampNeg ((a2 27 q2.toNatClampNeg) + (1 : Int32))) h
set_option maxRecDepth 20000 in
theorem tX6_findNeed_75 {G : zG} {Z : zC} {r : Bool} {ad ln : Nat → Nat} (X : zX G Z cX6_findNeed 4 RX6 wsX6_findNeed) {K10 : Int32 → (Nat → Nat → Int32) → Prop} {K32 : Int32 → Int32 → Int32 → (Nat → Nat → Int32) → Prop} {K75 : Int32 → Int32 → (Nat → Nat → Int32) → Prop} {post : Int32 → (Nat → Nat → Int32) → Prop} (hR : zRi G Z rmX6_findNeed 4 (zTC r) ad ln cX6_findNeed .int post) (hK10 : ∀ x1 : Int32, ∀ al, K10 x1 al → zB G Z rmX6_findNeed 4 (zTC r) ad ln 0 0 10 [(0, .ref (ad 22)), (1, .int x1)] [] al) (hK32 : ∀ x1 x2 x3 : Int32, ∀ al, K32 x1 x2 x3 al → zB G Z rmX6_findNeed 4 (zTC r) ad ln 0 0 32 [(0, .ref (ad 22)), (1, .int x1), (2, .int x2), (3, .int x3)] [] al) (hK75 : ∀ x1 x2 : Int32, ∀ al, K75 x1 x2 al → zB G Z rmX6_findNeed 4 (zTC r) ad ln 0 0 75 [(0, .ref (ad 22)), (1, .int x1), (2, .int x2)] [] al) (x1 x2 : Int32) (al : Nat → Nat → Int32) (h : vcX6_findNeed_75 G r ad ln K10 K32 K75 post x1 x2 al) : zB G Z rmX6_findNeed 4 (zTC r) ad ln 0 0 75 [(0, .ref (ad 22)), (1, .int x1), (2, .int x2)] [] al := by
  unfold vcX6_findNeed_75 at h
  refine zb_iload_n X dX6_findNeed_75 rfl 2 rfl ?_
  refine zb_aload_n X dX6_findNeed_76 rfl 0 rfl ?_
  refine zb_getI X 22 (zTC_lt (by decide)) 6 [6, 20, 4, 25, 26, 27, 28, 29, 30, 0, 0, 0, 0] rfl (C := RX6) (Tt := TX6) (N := 13) rfl kX6_findNeed_1 9 (by decide) rfl kX6_findNeed_6 rfl dX6_findNeed_77 (al 22 9) rfl ?_
  refine zb_icmp_ge X 100 dX6_findNeed_80 (by decide) (fun c1 => ?_) (fun c1 => ?_)
  · have h := h.1 c1
    refine zb_iload_n X dX6_findNeed_100 rfl 1 rfl ?_
    exact hR 101 _ _ _ dX6_findNeed_101 rfl h
  · have h := h.2 c1
    refine zb_iload_n X dX6_findNeed_83 rfl 1 rfl ?_
    refine zb_aload_n X dX6_findNeed_84 rfl 0 rfl ?_
    refine zb_getR X 22 (zTC_lt (by decide)) 6 [6, 20, 4, 25, 26, 27, 28, 29, 30, 0, 0, 0, 0] rfl (C := RX6) (Tt := TX6) (N := 13) rfl kX6_findNeed_1 7 (by decide) 27 rfl kX6_findNeed_0 rfl dX6_findNeed_85 ?_
    refine zb_iload_n X dX6_findNeed_88 rfl 2 rfl ?_
    obtain ⟨hz, h⟩ := h
    refine zb_iald X 27 (zTC_lt (by decide)) 1 200 0 0 rfl (Or.inl rfl) x2.toNatClampNeg rfl hz dX6_findNeed_89 (al 27 x2.toNatClampNeg) rfl ?_
    refine zb_mmax X kX6_findNeed_9 kX6_findNeed_10 kX6_findNeed_11 kX6_findNeed_12 ⟨⟨Nat.le_of_ble_eq_true rfl, Nat.le_of_ble_eq_true rfl⟩, Nat.le_of_ble_eq_true rfl, Nat.le_of_ble_eq_true rfl⟩ dX6_findNeed_90 ?_
    refine zb_istore_n X (lv' := [(1, .int (if x1 < (al 27 x2.toNatClampNeg) then (al 27 x2.toNatClampNeg) else x1)), (0, .ref (ad 22)), (2, .int x2)]) dX6_findNeed_93 rfl (by decide) rfl ?_
    refine zb_iinc X (lv' := [(2, .int (x2 + (1 : Int32))), (1, .int (if x1 < (al 27 x2.toNatClampNeg) then (al 27 x2.toNatClampNeg) else x1)), (0, .ref (ad 22))]) (x2 + (1 : Int32)) dX6_findNeed_94 2 rfl rfl (by decide) rfl ?_
    refine zb_goto X 75 dX6_findNeed_97 (by decide) ?_
    refine zb_sub [2, 1, 0] rfl ?_
    exact hK75 (if x1 < (al 27 x2.toNatClampNeg) then (al 27 x2.toNatClampNeg) else x1) (x2 + (1 : Int32)) al h
theorem uX6_findNeed_0 {G : zG} {Z : zC} {r : Bool} {ad ln : Nat → Nat} (X : zX G Z cX6_findNeed 4 RX6 wsX6_findNeed) {post : Int32 → (Nat → Nat → Int32) → Prop} (hR : zRi G Z rmX6_findNeed 4 (zTC r) ad ln cX6_findNeed .int post) (al : Nat → Nat → Int32) (h : vcX6_findNeed_0 G r ad ln (BX6_findNeed_10 G Z r ad ln) (BX6_findNeed_32 G Z r ad ln) (BX6_findNeed_75 G Z r ad ln) post  al) : zB G Z rmX6_findNeed 4 (zTC r) ad ln 0 0 0 [(0, .ref (ad 22))] [] al := tX6_findNeed_0 X hR (fun _ _ h => h) (fun _ _ _ _ h => h) (fun _ _ _ h => h)  al h
theorem uX6_findNeed_10 {G : zG} {Z : zC} {r : Bool} {ad ln : Nat → Nat} (X : zX G Z cX6_findNeed 4 RX6 wsX6_findNeed) {post : Int32 → (Nat → Nat → Int32) → Prop} (hR : zRi G Z rmX6_findNeed 4 (zTC r) ad ln cX6_findNeed .int post) (x1 : Int32) (al : Nat → Nat → Int32) (h : vcX6_findNeed_10 G r ad ln (BX6_findNeed_10 G Z r ad ln) (BX6_findNeed_32 G Z r ad ln) (BX6_findNeed_75 G Z r ad ln) post x1 al) : zB G Z rmX6_findNeed 4 (zTC r) ad ln 0 0 10 [(0, .ref (ad 22)), (1, .int x1)] [] al := tX6_findNeed_10 X hR (fun _ _ h => h) (fun _ _ _ _ h => h) (fun _ _ _ h => h) x1 al h
theorem uX6_findNeed_32 {G : zG} {Z : zC} {r : Bool} {ad ln : Nat → Nat} (X : zX G Z cX6_findNeed 4 RX6 wsX6_findNeed) {post : Int32 → (Nat → Nat → Int32) → Prop} (hR : zRi G Z rmX6_findNeed 4 (zTC r) ad ln cX6_findNeed .int post) (x1 x2 x3 : Int32) (al : Nat → Nat → Int32) (h : vcX6_findNeed_32 G r ad ln (BX6_findNeed_10 G Z r ad ln) (BX6_findNeed_32 G Z r ad ln) (BX6_findNeed_75 G Z r ad ln) post x1 x2 x3 al) : zB G Z rmX6_findNeed 4 (zTC r) ad ln 0 0 32 [(0, .ref (ad 22)), (1, .int x1), (2, .int x2), (3, .int x3)] [] al := tX6_findNeed_32 X hR (fun _ _ h => h) (fun _ _ _ _ h => h) (fun _ _ _ h => h) x1 x2 x3 al h
theorem uX6_findNeed_75 {G : zG} {Z : zC} {r : Bool} {ad ln : Nat → Nat} (X : zX G Z cX6_findNeed 4 RX6 wsX6_findNeed) {post : Int32 → (Nat → Nat → Int32) → Prop} (hR : zRi G Z rmX6_findNeed 4 (zTC r) ad ln cX6_findNeed .int post) (x1 x2 : Int32) (al : Nat → Nat → Int32) (h : vcX6_findNeed_75 G r ad ln (BX6_findNeed_10 G Z r ad ln) (BX6_findNeed_32 G Z r ad ln) (BX6_findNeed_75 G Z r ad ln) post x1 x2 al) : zB G Z rmX6_findNeed 4 (zTC r) ad ln 0 0 75 [(0, .ref (ad 22)), (1, .int x1), (2, .int x2)] [] al := tX6_findNeed_75 X hR (fun _ _ h => h) (fun _ _ _ _ h => h) (fun _ _ _ h => h) x1 x2 al h

abbrev rmX6_markMeetings : Room := { frames := 2, cells := 0, slots := 0, locals := 43 }
theorem kX6_markMeetings_0 : Cond.fieldLink RX6 15 RX6 "end" "[I" ∈ wsX6_markMeetings := by decide +kernel
theorem kX6_markMeetings_1 : zIn RX6 TX6 13 wsX6_markMeetings := by decide +kernel
theorem kX6_markMeetings_2 : Cond.fieldLink RX6 9 RX6 "begin" "[I" ∈ wsX6_markMeetings := by decide +kernel
theorem kX6_markMeetings_3 : Cond.fieldLink RX6 41 RX6 "distance" "I" ∈ wsX6_markMeetings := by decide +kernel
theorem kX6_markMeetings_4 : Cond.initialized RX9 ∈ wsX6_markMeetings := by decide +kernel
theorem kX6_markMeetings_5 : Cond.static yX9_quotient ∈ wsX6_markMeetings := by decide +kernel
theorem kX6_markMeetings_6 : Cond.fieldLink RX6 27 RX6 "taken" "[I" ∈ wsX6_markMeetings := by decide +kernel
theorem kX6_markMeetings_7 : Cond.fieldLink RX6 18 RX6 "offset" "[I" ∈ wsX6_markMeetings := by decide +kernel
theorem kX6_markMeetings_8 : Cond.fieldLink RX6 64 RX6 "size" "I" ∈ wsX6_markMeetings := by decide +kernel
theorem kX6_markMeetings_9 : Cond.static yX9_rest ∈ wsX6_markMeetings := by decide +kernel
abbrev BX6_markMeetings_47 (G : zG) (Z : zC) (r : Bool) (ad ln : Nat → Nat) (p1 : Int32) (p2 : Int32) (x4 x5 : Int32) (al : Nat → Nat → Int32) : Prop := zB G Z rmX6_markMeetings 6 (zTC r) ad ln 0 0 47 [(0, .ref (ad 22)), (1, .int p1), (4, .int x4), (5, .int x5)] [] al
def vcX6_markMeetings_0 (G : zG) (r : Bool) (ad ln : Nat → Nat) (p1 : Int32) (p2 : Int32) (K47 : Int32 → Int32 → (Nat → Nat → Int32) → Prop) (post : (Nat → Nat → Int32) → Prop) (al : Nat → Nat → Int32) : Prop :=
  (vp_in p2 48 ∧ vp_in p1 48 ∧ zMi G yX9_quotient wsX9_quotient rmX9_quotient (zTC r) ad ln [.int ((al 24 p2.toNatClampNeg) - (al 23 p1.toNatClampNeg)), .int (al 22 9)] al (fun q1 a1 => (vp_in p1 48 ∧ vp_in p2 48 ∧ zMi G yX9_quotient wsX9_quotient rmX9_quotient (zTC r) ad ln [.int ((a1 24 p1.toNatClampNeg) - (a1 23 p2.toNatClampNeg)), .int (a1 22 9)] a1 (fun q2 a2 => K47 q2 (-q1) a2))))
def vcX6_markMeetings_47 (G : zG) (r : Bool) (ad ln : Nat → Nat) (p1 : Int32) (p2 : Int32) (K47 : Int32 → Int32 → (Nat → Nat → Int32) → Prop) (post : (Nat → Nat → Int32) → Prop) (x4 x5 : Int32) (al : Nat → Nat → Int32) : Prop :=
  (x4 < x5 → post al) ∧ (¬ x4 < x5 → (vp_in p1 48 ∧ zMi G yX9_rest wsX9_rest rmX9_rest (zTC r) ad ln [.int ((al 25 p1.toNatClampNeg) + x5), .int (al 22 12)] al (fun q2 a2 => (vp_in q2 128 ∧ K47 x4 (x5 + (1 : Int32)) (up2 a2 28 q2.toNatClampNeg (1 : Int32))))))
set_option maxRecDepth 20000 in
theorem tX6_markMeetings_0 {G : zG} {Z : zC} {r : Bool} {ad ln : Nat → Nat} (X : zX G Z cX6_markMeetings 6 RX6 wsX6_markMeetings) (p1 : Int32) (p2 : Int32) {K47 : Int32 → Int32 → (Nat → Nat → Int32) → Prop} {post : (Nat → Nat → Int32) → Prop} (hR : zRv G Z rmX6_markMeetings 6 (zTC r) ad ln cX6_markMeetings post) (hK47 : ∀ x4 x5 : Int32, ∀ al, K47 x4 x5 al → zB G Z rmX6_markMeetings 6 (zTC r) ad ln 0 0 47 [(0, .ref (ad 22)), (1, .int p1), (4, .int x4), (5, .int x5)] [] al) (al : Nat → Nat → Int32) (h : vcX6_markMeetings_0 G r ad ln p1 p2 K47 post  al) : zB G Z rmX6_markMeetings 6 (zTC r) ad ln 0 0 0 [(0, .ref (ad 22)), (1, .int p1), (2, .int p2)] [] al := by
  unfold vcX6_markMeetings_0 at h
  refine zb_aload_n X dX6_markMeetings_0 rfl 0 rfl ?_
  refine zb_getR X 22 (zTC_lt (by decide)) 6 [6, 20, 4, 25, 26, 27, 28, 29, 30, 0, 0, 0, 0] rfl (C := RX6) (Tt := TX6) (N := 13) rfl kX6_markMeetings_1 4 (by decide) 24 rfl kX6_markMeetings_0 rfl dX6_markMeetings_1 ?_
  refine zb_iload_n X dX6_markMeetings_4 rfl 2 rfl ?_
  obtain ⟨hz, h⟩ := h
  refine zb_iald X 24 (zTC_lt (by decide)) 1 48 0 0 rfl (Or.inl rfl) p2.toNatClampNeg rfl hz dX6_markMeetings_5 (al 24 p2.toNatClampNeg) rfl ?_
  refine zb_aload_n X dX6_markMeetings_6 rfl 0 rfl ?_
  refine zb_getR X 22 (zTC_lt (by decide)) 6 [6, 20, 4, 25, 26, 27, 28, 29, 30, 0, 0, 0, 0] rfl (C := RX6) (Tt := TX6) (N := 13) rfl kX6_markMeetings_1 3 (by decide) 23 rfl kX6_markMeetings_2 rfl dX6_markMeetings_7 ?_
  refine zb_iload_n X dX6_markMeetings_10 rfl 1 rfl ?_
  obtain ⟨hz, h⟩ := h
  refine zb_iald X 23 (zTC_lt (by decide)) 1 48 0 0 rfl (Or.inl rfl) p1.toNatClampNeg rfl hz dX6_markMeetings_11 (al 23 p1.toNatClampNeg) rfl ?_
  refine zb_isub X dX6_markMeetings_12 ?_
  refine zb_aload_n X dX6_markMeetings_13 rfl 0 rfl ?_
  refine zb_getI X 22 (zTC_lt (by decide)) 6 [6, 20, 4, 25, 26, 27, 28, 29, 30, 0, 0, 0, 0] rfl (C := RX6) (Tt := TX6) (N := 13) rfl kX6_markMeetings_1 9 (by decide) rfl kX6_markMeetings_3 rfl dX6_markMeetings_14 (al 22 9) rfl ?_
  refine zb_callNi (n := 2) X h gX6_markMeetings_X9_quotient_n125 (by decide +kernel) kX6_markMeetings_4 kX6_markMeetings_5 rfl (by decide +kernel) (by decide) rfl rfl (Nat.le_of_ble_eq_true rfl) dX6_markMeetings_17 (kc' := 0) (ks' := 0) rfl rfl (fun q1 a1 h => ?_)
  refine zb_ineg X dX6_markMeetings_20 ?_
  refine zb_istore_n X (lv' := [(3, .int (-q1)), (0, .ref (ad 22)), (1, .int p1), (2, .int p2)]) dX6_markMeetings_21 rfl (by decide) rfl ?_
  refine zb_aload_n X dX6_markMeetings_22 rfl 1 rfl ?_
  refine zb_getR X 22 (zTC_lt (by decide)) 6 [6, 20, 4, 25, 26, 27, 28, 29, 30, 0, 0, 0, 0] rfl (C := RX6) (Tt := TX6) (N := 13) rfl kX6_markMeetings_1 4 (by decide) 24 rfl kX6_markMeetings_0 rfl dX6_markMeetings_23 ?_
  refine zb_iload_n X dX6_markMeetings_26 rfl 2 rfl ?_
  obtain ⟨hz, h⟩ := h
  refine zb_iald X 24 (zTC_lt (by decide)) 1 48 0 0 rfl (Or.inl rfl) p1.toNatClampNeg rfl hz dX6_markMeetings_27 (a1 24 p1.toNatClampNeg) rfl ?_
  refine zb_aload_n X dX6_markMeetings_28 rfl 1 rfl ?_
  refine zb_getR X 22 (zTC_lt (by decide)) 6 [6, 20, 4, 25, 26, 27, 28, 29, 30, 0, 0, 0, 0] rfl (C := RX6) (Tt := TX6) (N := 13) rfl kX6_markMeetings_1 3 (by decide) 23 rfl kX6_markMeetings_2 rfl dX6_markMeetings_29 ?_
  refine zb_iload_n X dX6_markMeetings_32 rfl 3 rfl ?_
  obtain ⟨hz, h⟩ := h
  refine zb_iald X 23 (zTC_lt (by decide)) 1 48 0 0 rfl (Or.inl rfl) p2.toNatClampNeg rfl hz dX6_markMeetings_33 (a1 23 p2.toNatClampNeg) rfl ?_
  refine zb_isub X dX6_markMeetings_34 ?_
  refine zb_aload_n X dX6_markMeetings_35 rfl 1 rfl ?_
  refine zb_getI X 22 (zTC_lt (by decide)) 6 [6, 20, 4, 25, 26, 27, 28, 29, 30, 0, 0, 0, 0] rfl (C := RX6) (Tt := TX6) (N := 13) rfl kX6_markMeetings_1 9 (by decide) rfl kX6_markMeetings_3 rfl dX6_markMeetings_36 (a1 22 9) rfl ?_
  refine zb_callNi (n := 2) X h gX6_markMeetings_X9_quotient_n125 (by decide +kernel) kX6_markMeetings_4 kX6_markMeetings_5 rfl (by decide +kernel) (by decide) rfl rfl (Nat.le_of_ble_eq_true rfl) dX6_markMeetings_39 (kc' := 0) (ks' := 0) rfl rfl (fun q2 a2 h => ?_)
  refine zb_istore X (lv' := [(4, .int q2), (3, .int (-q1)), (0, .ref (ad 22)), (1, .int p1), (2, .int p2)]) dX6_markMeetings_42 (by decide) rfl ?_
  refine zb_iload_n X dX6_markMeetings_44 rfl 1 rfl ?_
  refine zb_istore X (lv' := [(5, .int (-q1)), (4, .int q2), (3, .int (-q1)), (0, .ref (ad 22)), (1, .int p1), (2, .int p2)]) dX6_markMeetings_45 (by decide) rfl ?_
  refine zb_sub [3, 4, 1, 0] rfl ?_
  exact hK47 q2 (-q1) a2 h
set_option maxRecDepth 20000 in
theorem tX6_markMeetings_47 {G : zG} {Z : zC} {r : Bool} {ad ln : Nat → Nat} (X : zX G Z cX6_markMeetings 6 RX6 wsX6_markMeetings) (p1 : Int32) (p2 : Int32) {K47 : Int32 → Int32 → (Nat → Nat → Int32) → Prop} {post : (Nat → Nat → Int32) → Prop} (hR : zRv G Z rmX6_markMeetings 6 (zTC r) ad ln cX6_markMeetings post) (hK47 : ∀ x4 x5 : Int32, ∀ al, K47 x4 x5 al → zB G Z rmX6_markMeetings 6 (zTC r) ad ln 0 0 47 [(0, .ref (ad 22)), (1, .int p1), (4, .int x4), (5, .int x5)] [] al) (x4 x5 : Int32) (al : Nat → Nat → Int32) (h : vcX6_markMeetings_47 G r ad ln p1 p2 K47 post x4 x5 al) : zB G Z rmX6_markMeetings 6 (zTC r) ad ln 0 0 47 [(0, .ref (ad 22)), (1, .int p1), (4, .int x4), (5, .int x5)] [] al := by
  unfold vcX6_markMeetings_47 at h
  refine zb_iload X dX6_markMeetings_47 3 rfl ?_
  refine zb_iload X dX6_markMeetings_49 2 rfl ?_
  refine zb_icmp_gt X 82 dX6_markMeetings_51 (by decide) (fun c1 => ?_) (fun c1 => ?_)
  · have h := h.1 c1
    exact hR 82 _ _ dX6_markMeetings_82 h
  · have h := h.2 c1
    refine zb_aload_n X dX6_markMeetings_54 rfl 0 rfl ?_
    refine zb_getR X 22 (zTC_lt (by decide)) 6 [6, 20, 4, 25, 26, 27, 28, 29, 30, 0, 0, 0, 0] rfl (C := RX6) (Tt := TX6) (N := 13) rfl kX6_markMeetings_1 8 (by decide) 28 rfl kX6_markMeetings_6 rfl dX6_markMeetings_55 ?_
    refine zb_aload_n X dX6_markMeetings_58 rfl 0 rfl ?_
    refine zb_getR X 22 (zTC_lt (by decide)) 6 [6, 20, 4, 25, 26, 27, 28, 29, 30, 0, 0, 0, 0] rfl (C := RX6) (Tt := TX6) (N := 13) rfl kX6_markMeetings_1 5 (by decide) 25 rfl kX6_markMeetings_7 rfl dX6_markMeetings_59 ?_
    refine zb_iload_n X dX6_markMeetings_62 rfl 1 rfl ?_
    obtain ⟨hz, h⟩ := h
    refine zb_iald X 25 (zTC_lt (by decide)) 1 48 0 0 rfl (Or.inl rfl) p1.toNatClampNeg rfl hz dX6_markMeetings_63 (al 25 p1.toNatClampNeg) rfl ?_
    refine zb_iload X dX6_markMeetings_64 3 rfl ?_
    refine zb_iadd X dX6_markMeetings_66 ?_
    refine zb_aload_n X dX6_markMeetings_67 rfl 0 rfl ?_
    refine zb_getI X 22 (zTC_lt (by decide)) 6 [6, 20, 4, 25, 26, 27, 28, 29, 30, 0, 0, 0, 0] rfl (C := RX6) (Tt := TX6) (N := 13) rfl kX6_markMeetings_1 12 (by decide) rfl kX6_markMeetings_8 rfl dX6_markMeetings_68 (al 22 12) rfl ?_
    refine zb_callNi (n := 2) X h gX6_markMeetings_X9_rest_n115 (by decide +kernel) kX6_markMeetings_4 kX6_markMeetings_9 rfl (by decide +kernel) (by decide) rfl rfl (Nat.le_of_ble_eq_true rfl) dX6_markMeetings_71 (kc' := 0) (ks' := 0) rfl rfl (fun q2 a2 h => ?_)
    refine zb_iconst X (1 : Int32) dX6_markMeetings_74 (by decide) ?_
    obtain ⟨hz, h⟩ := h
    refine zb_iast X 28 (zTC_lt (by decide)) 1 128 0 0 rfl (Or.inl rfl) q2.toNatClampNeg rfl hz dX6_markMeetings_75 ?_
    refine zb_iinc X (lv' := [(5, .int (x5 + (1 : Int32))), (0, .ref (ad 22)), (1, .int p1), (4, .int x4)]) (x5 + (1 : Int32)) dX6_markMeetings_76 3 rfl rfl (by decide) rfl ?_
    refine zb_goto X 47 dX6_markMeetings_79 (by decide) ?_
    refine zb_sub [1, 2, 3, 0] rfl ?_
    exact hK47 x4 (x5 + (1 : Int32)) (up2 a2 28 q2.toNatClampNeg (1 : Int32)) h
theorem uX6_markMeetings_0 {G : zG} {Z : zC} {r : Bool} {ad ln : Nat → Nat} (X : zX G Z cX6_markMeetings 6 RX6 wsX6_markMeetings) (p1 : Int32) (p2 : Int32) {post : (Nat → Nat → Int32) → Prop} (hR : zRv G Z rmX6_markMeetings 6 (zTC r) ad ln cX6_markMeetings post) (al : Nat → Nat → Int32) (h : vcX6_markMeetings_0 G r ad ln p1 p2 (BX6_markMeetings_47 G Z r ad ln p1 p2) post  al) : zB G Z rmX6_markMeetings 6 (zTC r) ad ln 0 0 0 [(0, .ref (ad 22)), (1, .int p1), (2, .int p2)] [] al := tX6_markMeetings_0 X p1 p2 hR (fun _ _ _ h => h)  al h
theorem uX6_markMeetings_47 {G : zG} {Z : zC} {r : Bool} {ad ln : Nat → Nat} (X : zX G Z cX6_markMeetings 6 RX6 wsX6_markMeetings) (p1 : Int32) (p2 : Int32) {post : (Nat → Nat → Int32) → Prop} (hR : zRv G Z rmX6_markMeetings 6 (zTC r) ad ln cX6_markMeetings post) (x4 x5 : Int32) (al : Nat → Nat → Int32) (h : vcX6_markMeetings_47 G r ad ln p1 p2 (BX6_markMeetings_47 G Z r ad ln p1 p2) post x4 x5 al) : zB G Z rmX6_markMeetings 6 (zTC r) ad ln 0 0 47 [(0, .ref (ad 22)), (1, .int p1), (4, .int x4), (5, .int x5)] [] al := tX6_markMeetings_47 X p1 p2 hR (fun _ _ _ h => h) x4 x5 al h

abbrev rmX6_leastFree : Room := { frames := 3, cells := 0, slots := 0, locals := 68 }
theorem kX6_leastFree_0 : Cond.fieldLink RX6 27 RX6 "taken" "[I" ∈ wsX6_leastFree := by decide +kernel
theorem kX6_leastFree_1 : zIn RX6 TX6 13 wsX6_leastFree := by decide +kernel
theorem kX6_leastFree_2 : Cond.fieldLink RX6 21 RX6 "order" "[I" ∈ wsX6_leastFree := by decide +kernel
theorem kX6_leastFree_3 : Cond.fieldLink RX6 64 RX6 "size" "I" ∈ wsX6_leastFree := by decide +kernel
abbrev BX6_leastFree_39 (G : zG) (Z : zC) (r : Bool) (ad ln : Nat → Nat) (p1 : Int32) (x2 : Int32) (al : Nat → Nat → Int32) : Prop := zB G Z rmX6_leastFree 3 (zTC r) ad ln 0 0 39 [(0, .ref (ad 22)), (2, .int x2)] [] al
abbrev BX6_leastFree_10 (G : zG) (Z : zC) (r : Bool) (ad ln : Nat → Nat) (p1 : Int32) (x2 : Int32) (al : Nat → Nat → Int32) : Prop := zB G Z rmX6_leastFree 3 (zTC r) ad ln 0 0 10 [(0, .ref (ad 22)), (1, .int p1), (2, .int x2)] [] al
def vcX6_leastFree_0 (G : zG) (r : Bool) (ad ln : Nat → Nat) (p1 : Int32) (K10 : Int32 → (Nat → Nat → Int32) → Prop) (K39 : Int32 → (Nat → Nat → Int32) → Prop) (post : Int32 → (Nat → Nat → Int32) → Prop) (al : Nat → Nat → Int32) : Prop :=
  zMv G yJ7_fill_53178 wsJ7_fill_53178 rmJ7_fill_53178 (zTC r) ad ln [.ref (ad 28), .int (0 : Int32)] al (fun a1 => K10 (0 : Int32) a1)
def vcX6_leastFree_10 (G : zG) (r : Bool) (ad ln : Nat → Nat) (p1 : Int32) (K10 : Int32 → (Nat → Nat → Int32) → Prop) (K39 : Int32 → (Nat → Nat → Int32) → Prop) (post : Int32 → (Nat → Nat → Int32) → Prop) (x2 : Int32) (al : Nat → Nat → Int32) : Prop :=
  (p1 ≤ x2 → K39 (0 : Int32) al) ∧ (¬ p1 ≤ x2 → (vp_in x2 48 ∧ vp_in p1 48 ∧ zMv G yX6_markMeetings wsX6_markMeetings rmX6_markMeetings (zTC r) ad ln [.ref (ad 22), .int (al 26 x2.toNatClampNeg), .int (al 26 p1.toNatClampNeg)] al (fun a2 => K10 (x2 + (1 : Int32)) a2)))
def vcX6_leastFree_39 (G : zG) (r : Bool) (ad ln : Nat → Nat) (p1 : Int32) (K10 : Int32 → (Nat → Nat → Int32) → Prop) (K39 : Int32 → (Nat → Nat → Int32) → Prop) (post : Int32 → (Nat → Nat → Int32) → Prop) (x2 : Int32) (al : Nat → Nat → Int32) : Prop :=
  ((al 22 12) ≤ x2 → post (-1 : Int32) al) ∧ (¬ (al 22 12) ≤ x2 → (vp_in x2 128 ∧ (¬ (al 28 x2.toNatClampNeg) = 0 → K39 (x2 + (1 : Int32)) al) ∧ ((al 28 x2.toNatClampNeg) = 0 → post x2 al)))
set_option maxRecDepth 20000 in
theorem tX6_leastFree_0 {G : zG} {Z : zC} {r : Bool} {ad ln : Nat → Nat} (X : zX G Z cX6_leastFree 3 RX6 wsX6_leastFree) (p1 : Int32) {K10 : Int32 → (Nat → Nat → Int32) → Prop} {K39 : Int32 → (Nat → Nat → Int32) → Prop} {post : Int32 → (Nat → Nat → Int32) → Prop} (hR : zRi G Z rmX6_leastFree 3 (zTC r) ad ln cX6_leastFree .int post) (hK10 : ∀ x2 : Int32, ∀ al, K10 x2 al → zB G Z rmX6_leastFree 3 (zTC r) ad ln 0 0 10 [(0, .ref (ad 22)), (1, .int p1), (2, .int x2)] [] al) (hK39 : ∀ x2 : Int32, ∀ al, K39 x2 al → zB G Z rmX6_leastFree 3 (zTC r) ad ln 0 0 39 [(0, .ref (ad 22)), (2, .int x2)] [] al) (al : Nat → Nat → Int32) (h : vcX6_leastFree_0 G r ad ln p1 K10 K39 post  al) : zB G Z rmX6_leastFree 3 (zTC r) ad ln 0 0 0 [(0, .ref (ad 22)), (1, .int p1)] [] al := by
  unfold vcX6_leastFree_0 at h
  refine zb_aload_n X dX6_leastFree_0 rfl 0 rfl ?_
  refine zb_getR X 22 (zTC_lt (by decide)) 6 [6, 20, 4, 25, 26, 27, 28, 29, 30, 0, 0, 0, 0] rfl (C := RX6) (Tt := TX6) (N := 13) rfl kX6_leastFree_1 8 (by decide) 28 rfl kX6_leastFree_0 rfl dX6_leastFree_1 ?_
  refine zb_iconst X (0 : Int32) dX6_leastFree_4 (by decide) ?_
  refine zb_callSv (n := 2) X h gX6_leastFree_J7_fill_53178 rfl (by decide +kernel) (by decide) rfl rfl (Nat.le_of_ble_eq_true rfl) dX6_leastFree_5 (kc' := 0) (ks' := 0) rfl rfl (fun a1 h => ?_)
  refine zb_iconst X (0 : Int32) dX6_leastFree_8 (by decide) ?_
  refine zb_istore_n X (lv' := [(2, .int (0 : Int32)), (0, .ref (ad 22)), (1, .int p1)]) dX6_leastFree_9 rfl (by decide) rfl ?_
  refine zb_sub [1, 2, 0] rfl ?_
  exact hK10 (0 : Int32) a1 h
set_option maxRecDepth 20000 in
theorem tX6_leastFree_10 {G : zG} {Z : zC} {r : Bool} {ad ln : Nat → Nat} (X : zX G Z cX6_leastFree 3 RX6 wsX6_leastFree) (p1 : Int32) {K10 : Int32 → (Nat → Nat → Int32) → Prop} {K39 : Int32 → (Nat → Nat → Int32) → Prop} {post : Int32 → (Nat → Nat → Int32) → Prop} (hR : zRi G Z rmX6_leastFree 3 (zTC r) ad ln cX6_leastFree .int post) (hK10 : ∀ x2 : Int32, ∀ al, K10 x2 al → zB G Z rmX6_leastFree 3 (zTC r) ad ln 0 0 10 [(0, .ref (ad 22)), (1, .int p1), (2, .int x2)] [] al) (hK39 : ∀ x2 : Int32, ∀ al, K39 x2 al → zB G Z rmX6_leastFree 3 (zTC r) ad ln 0 0 39 [(0, .ref (ad 22)), (2, .int x2)] [] al) (x2 : Int32) (al : Nat → Nat → Int32) (h : vcX6_leastFree_10 G r ad ln p1 K10 K39 post x2 al) : zB G Z rmX6_leastFree 3 (zTC r) ad ln 0 0 10 [(0, .ref (ad 22)), (1, .int p1), (2, .int x2)] [] al := by
  unfold vcX6_leastFree_10 at h
  refine zb_iload_n X dX6_leastFree_10 rfl 2 rfl ?_
  refine zb_iload_n X dX6_leastFree_11 rfl 1 rfl ?_
  refine zb_icmp_ge X 37 dX6_leastFree_12 (by decide) (fun c1 => ?_) (fun c1 => ?_)
  · have h := h.1 c1
    refine zb_iconst X (0 : Int32) dX6_leastFree_37 (by decide) ?_
    refine zb_istore_n X (lv' := [(2, .int (0 : Int32)), (0, .ref (ad 22)), (1, .int p1)]) dX6_leastFree_38 rfl (by decide) rfl ?_
    refine zb_sub [1, 0] rfl ?_
    exact hK39 (0 : Int32) al h
  · have h := h.2 c1
    refine zb_aload_n X dX6_leastFree_15 rfl 0 rfl ?_
    refine zb_aload_n X dX6_leastFree_16 rfl 0 rfl ?_
    refine zb_getR X 22 (zTC_lt (by decide)) 6 [6, 20, 4, 25, 26, 27, 28, 29, 30, 0, 0, 0, 0] rfl (C := RX6) (Tt := TX6) (N := 13) rfl kX6_leastFree_1 6 (by decide) 26 rfl kX6_leastFree_2 rfl dX6_leastFree_17 ?_
    refine zb_iload_n X dX6_leastFree_20 rfl 2 rfl ?_
    obtain ⟨hz, h⟩ := h
    refine zb_iald X 26 (zTC_lt (by decide)) 1 48 0 0 rfl (Or.inl rfl) x2.toNatClampNeg rfl hz dX6_leastFree_21 (al 26 x2.toNatClampNeg) rfl ?_
    refine zb_aload_n X dX6_leastFree_22 rfl 0 rfl ?_
    refine zb_getR X 22 (zTC_lt (by decide)) 6 [6, 20, 4, 25, 26, 27, 28, 29, 30, 0, 0, 0, 0] rfl (C := RX6) (Tt := TX6) (N := 13) rfl kX6_leastFree_1 6 (by decide) 26 rfl kX6_leastFree_2 rfl dX6_leastFree_23 ?_
    refine zb_iload_n X dX6_leastFree_26 rfl 1 rfl ?_
    obtain ⟨hz, h⟩ := h
    refine zb_iald X 26 (zTC_lt (by decide)) 1 48 0 0 rfl (Or.inl rfl) p1.toNatClampNeg rfl hz dX6_leastFree_27 (al 26 p1.toNatClampNeg) rfl ?_
    refine zb_callVv (n := 2) X 22 (zTC_lt (by decide)) 6 [6, 20, 4, 25, 26, 27, 28, 29, 30, 0, 0, 0, 0] rfl (C := RX6) (Tt := TX6) (N := 13) rfl h gX6_leastFree_X6_markMeetings rfl (by decide +kernel) (by decide) rfl rfl (Nat.le_of_ble_eq_true rfl) dX6_leastFree_28 (kc' := 0) (ks' := 0) rfl rfl (fun a2 h => ?_)
    refine zb_iinc X (lv' := [(2, .int (x2 + (1 : Int32))), (0, .ref (ad 22)), (1, .int p1)]) (x2 + (1 : Int32)) dX6_leastFree_31 2 rfl rfl (by decide) rfl ?_
    refine zb_goto X 10 dX6_leastFree_34 (by decide) ?_
    refine zb_sub [1, 2, 0] rfl ?_
    exact hK10 (x2 + (1 : Int32)) a2 h
set_option maxRecDepth 20000 in
theorem tX6_leastFree_39 {G : zG} {Z : zC} {r : Bool} {ad ln : Nat → Nat} (X : zX G Z cX6_leastFree 3 RX6 wsX6_leastFree) (p1 : Int32) {K10 : Int32 → (Nat → Nat → Int32) → Prop} {K39 : Int32 → (Nat → Nat → Int32) → Prop} {post : Int32 → (Nat → Nat → Int32) → Prop} (hR : zRi G Z rmX6_leastFree 3 (zTC r) ad ln cX6_leastFree .int post) (hK10 : ∀ x2 : Int32, ∀ al, K10 x2 al → zB G Z rmX6_leastFree 3 (zTC r) ad ln 0 0 10 [(0, .ref (ad 22)), (1, .int p1), (2, .int x2)] [] al) (hK39 : ∀ x2 : Int32, ∀ al, K39 x2 al → zB G Z rmX6_leastFree 3 (zTC r) ad ln 0 0 39 [(0, .ref (ad 22)), (2, .int x2)] [] al) (x2 : Int32) (al : Nat → Nat → Int32) (h : vcX6_leastFree_39 G r ad ln p1 K10 K39 post x2 al) : zB G Z rmX6_leastFree 3 (zTC r) ad ln 0 0 39 [(0, .ref (ad 22)), (2, .int x2)] [] al := by
  unfold vcX6_leastFree_39 at h
  refine zb_iload_n X dX6_leastFree_39 rfl 1 rfl ?_
  refine zb_aload_n X dX6_leastFree_40 rfl 0 rfl ?_
  refine zb_getI X 22 (zTC_lt (by decide)) 6 [6, 20, 4, 25, 26, 27, 28, 29, 30, 0, 0, 0, 0] rfl (C := RX6) (Tt := TX6) (N := 13) rfl kX6_leastFree_1 12 (by decide) rfl kX6_leastFree_3 rfl dX6_leastFree_41 (al 22 12) rfl ?_
  refine zb_icmp_ge X 64 dX6_leastFree_44 (by decide) (fun c1 => ?_) (fun c1 => ?_)
  · have h := h.1 c1
    refine zb_iconst X (-1 : Int32) dX6_leastFree_64 (by decide) ?_
    exact hR 65 _ _ _ dX6_leastFree_65 rfl h
  · have h := h.2 c1
    refine zb_aload_n X dX6_leastFree_47 rfl 0 rfl ?_
    refine zb_getR X 22 (zTC_lt (by decide)) 6 [6, 20, 4, 25, 26, 27, 28, 29, 30, 0, 0, 0, 0] rfl (C := RX6) (Tt := TX6) (N := 13) rfl kX6_leastFree_1 8 (by decide) 28 rfl kX6_leastFree_0 rfl dX6_leastFree_48 ?_
    refine zb_iload_n X dX6_leastFree_51 rfl 1 rfl ?_
    obtain ⟨hz, h⟩ := h
    refine zb_iald X 28 (zTC_lt (by decide)) 1 128 0 0 rfl (Or.inl rfl) x2.toNatClampNeg rfl hz dX6_leastFree_52 (al 28 x2.toNatClampNeg) rfl ?_
    refine zb_if_ne X 58 dX6_leastFree_53 (by decide) (fun c2 => ?_) (fun c2 => ?_)
    · have h := h.1 c2
      refine zb_iinc X (lv' := [(2, .int (x2 + (1 : Int32))), (0, .ref (ad 22))]) (x2 + (1 : Int32)) dX6_leastFree_58 1 rfl rfl (by decide) rfl ?_
      refine zb_goto X 39 dX6_leastFree_61 (by decide) ?_
      refine zb_sub [1, 0] rfl ?_
      exact hK39 (x2 + (1 : Int32)) al h
    · have h := h.2 c2
      refine zb_iload_n X dX6_leastFree_56 rfl 1 rfl ?_
      exact hR 57 _ _ _ dX6_leastFree_57 rfl h
theorem uX6_leastFree_0 {G : zG} {Z : zC} {r : Bool} {ad ln : Nat → Nat} (X : zX G Z cX6_leastFree 3 RX6 wsX6_leastFree) (p1 : Int32) {post : Int32 → (Nat → Nat → Int32) → Prop} (hR : zRi G Z rmX6_leastFree 3 (zTC r) ad ln cX6_leastFree .int post) (al : Nat → Nat → Int32) (h : vcX6_leastFree_0 G r ad ln p1 (BX6_leastFree_10 G Z r ad ln p1) (BX6_leastFree_39 G Z r ad ln p1) post  al) : zB G Z rmX6_leastFree 3 (zTC r) ad ln 0 0 0 [(0, .ref (ad 22)), (1, .int p1)] [] al := tX6_leastFree_0 X p1 hR (fun _ _ h => h) (fun _ _ h => h)  al h
theorem uX6_leastFree_10 {G : zG} {Z : zC} {r : Bool} {ad ln : Nat → Nat} (X : zX G Z cX6_leastFree 3 RX6 wsX6_leastFree) (p1 : Int32) {post : Int32 → (Nat → Nat → Int32) → Prop} (hR : zRi G Z rmX6_leastFree 3 (zTC r) ad ln cX6_leastFree .int post) (x2 : Int32) (al : Nat → Nat → Int32) (h : vcX6_leastFree_10 G r ad ln p1 (BX6_leastFree_10 G Z r ad ln p1) (BX6_leastFree_39 G Z r ad ln p1) post x2 al) : zB G Z rmX6_leastFree 3 (zTC r) ad ln 0 0 10 [(0, .ref (ad 22)), (1, .int p1), (2, .int x2)] [] al := tX6_leastFree_10 X p1 hR (fun _ _ h => h) (fun _ _ h => h) x2 al h
theorem uX6_leastFree_39 {G : zG} {Z : zC} {r : Bool} {ad ln : Nat → Nat} (X : zX G Z cX6_leastFree 3 RX6 wsX6_leastFree) (p1 : Int32) {post : Int32 → (Nat → Nat → Int32) → Prop} (hR : zRi G Z rmX6_leastFree 3 (zTC r) ad ln cX6_leastFree .int post) (x2 : Int32) (al : Nat → Nat → Int32) (h : vcX6_leastFree_39 G r ad ln p1 (BX6_leastFree_10 G Z r ad ln p1) (BX6_leastFree_39 G Z r ad ln p1) post x2 al) : zB G Z rmX6_leastFree 3 (zTC r) ad ln 0 0 39 [(0, .ref (ad 22)), (2, .int x2)] [] al := tX6_leastFree_39 X p1 hR (fun _ _ h => h) (fun _ _ h => h) x2 al h

abbrev rmX6_colourAll : Room := { frames := 4, cells := 0, slots := 0, locals := 90 }
theorem kX6_colourAll_0 : Cond.fieldLink RX6 112 RX6 "spans" "I" ∈ wsX6_colourAll := by decide +kernel
theorem kX6_colourAll_1 : zIn RX6 TX6 13 wsX6_colourAll := by decide +kernel
theorem kX6_colourAll_2 : Cond.fieldLink RX6 18 RX6 "offset" "[I" ∈ wsX6_colourAll := by decide +kernel
theorem kX6_colourAll_3 : Cond.fieldLink RX6 21 RX6 "order" "[I" ∈ wsX6_colourAll := by decide +kernel
abbrev BX6_colourAll_2 (G : zG) (Z : zC) (r : Bool) (ad ln : Nat → Nat) (x1 : Int32) (al : Nat → Nat → Int32) : Prop := zB G Z rmX6_colourAll 3 (zTC r) ad ln 0 0 2 [(0, .ref (ad 22)), (1, .int x1)] [] al
def vcX6_colourAll_0 (G : zG) (r : Bool) (ad ln : Nat → Nat) (K2 : Int32 → (Nat → Nat → Int32) → Prop) (post : Int32 → (Nat → Nat → Int32) → Prop) (al : Nat → Nat → Int32) : Prop :=
  K2 (0 : Int32) al
def vcX6_colourAll_2 (G : zG) (r : Bool) (ad ln : Nat → Nat) (K2 : Int32 → (Nat → Nat → Int32) → Prop) (post : Int32 → (Nat → Nat → Int32) → Prop) (x1 : Int32) (al : Nat → Nat → Int32) : Prop :=
  ((al 22 10) ≤ x1 → post (1 : Int32) al) ∧ (¬ (al 22 10) ≤ x1 → zMi G yX6_leastFree wsX6_leastFree rmX6_leastFree (zTC r) ad ln [.ref (ad 22), .int x1] al (fun q2 a2 => (0 ≤ q2 → (vp_in x1 48 ∧ vp_in (a2 26 x1.toNatClampNeg) 48 ∧ K2 (x1 + (1 : Int32)) (up2 a2 25 ((a2 26 x1.toNatClampNeg).toNatClampNeg) q2))) ∧ (¬ 0 ≤ q2 → post (0 : Int32) a2)))
set_option maxRecDepth 20000 in
theorem tX6_colourAll_0 {G : zG} {Z : zC} {r : Bool} {ad ln : Nat → Nat} (X : zX G Z cX6_colourAll 3 RX6 wsX6_colourAll) {K2 : Int32 → (Nat → Nat → Int32) → Prop} {post : Int32 → (Nat → Nat → Int32) → Prop} (hR : zRi G Z rmX6_colourAll 3 (zTC r) ad ln cX6_colourAll .boolean post) (hK2 : ∀ x1 : Int32, ∀ al, K2 x1 al → zB G Z rmX6_colourAll 3 (zTC r) ad ln 0 0 2 [(0, .ref (ad 22)), (1, .int x1)] [] al) (al : Nat → Nat → Int32) (h : vcX6_colourAll_0 G r ad ln K2 post  al) : zB G Z rmX6_colourAll 3 (zTC r) ad ln 0 0 0 [(0, .ref (ad 22))] [] al := by
  unfold vcX6_colourAll_0 at h
  refine zb_iconst X (0 : Int32) dX6_colourAll_0 (by decide) ?_
  refine zb_istore_n X (lv' := [(1, .int (0 : Int32)), (0, .ref (ad 22))]) dX6_colourAll_1 rfl (by decide) rfl ?_
  refine zb_sub [1, 0] rfl ?_
  exact hK2 (0 : Int32) al h
set_option maxRecDepth 20000 in
theorem tX6_colourAll_2 {G : zG} {Z : zC} {r : Bool} {ad ln : Nat → Nat} (X : zX G Z cX6_colourAll 3 RX6 wsX6_colourAll) {K2 : Int32 → (Nat → Nat → Int32) → Prop} {post : Int32 → (Nat → Nat → Int32) → Prop} (hR : zRi G Z rmX6_colourAll 3 (zTC r) ad ln cX6_colourAll .boolean post) (hK2 : ∀ x1 : Int32, ∀ al, K2 x1 al → zB G Z rmX6_colourAll 3 (zTC r) ad ln 0 0 2 [(0, .ref (ad 22)), (1, .int x1)] [] al) (x1 : Int32) (al : Nat → Nat → Int32) (h : vcX6_colourAll_2 G r ad ln K2 post x1 al) : zB G Z rmX6_colourAll 3 (zTC r) ad ln 0 0 2 [(0, .ref (ad 22)), (1, .int x1)] [] al := by
  unfold vcX6_colourAll_2 at h
  refine zb_iload_n X dX6_colourAll_2 rfl 1 rfl ?_
  refine zb_aload_n X dX6_colourAll_3 rfl 0 rfl ?_
  refine zb_getI X 22 (zTC_lt (by decide)) 6 [6, 20, 4, 25, 26, 27, 28, 29, 30, 0, 0, 0, 0] rfl (C := RX6) (Tt := TX6) (N := 13) rfl kX6_colourAll_1 10 (by decide) rfl kX6_colourAll_0 rfl dX6_colourAll_4 (al 22 10) rfl ?_
  refine zb_icmp_ge X 40 dX6_colourAll_7 (by decide) (fun c1 => ?_) (fun c1 => ?_)
  · have h := h.1 c1
    refine zb_iconst X (1 : Int32) dX6_colourAll_40 (by decide) ?_
    exact hR 41 _ _ _ dX6_colourAll_41 rfl h
  · have h := h.2 c1
    refine zb_aload_n X dX6_colourAll_10 rfl 0 rfl ?_
    refine zb_iload_n X dX6_colourAll_11 rfl 1 rfl ?_
    refine zb_callVi (n := 1) X 22 (zTC_lt (by decide)) 6 [6, 20, 4, 25, 26, 27, 28, 29, 30, 0, 0, 0, 0] rfl (C := RX6) (Tt := TX6) (N := 13) rfl h gX6_colourAll_X6_leastFree rfl (by decide +kernel) (by decide) rfl rfl (Nat.le_of_ble_eq_true rfl) dX6_colourAll_12 (kc' := 0) (ks' := 0) rfl rfl (fun q2 a2 h => ?_)
    refine zb_istore_n X (lv' := [(2, .int q2), (0, .ref (ad 22)), (1, .int x1)]) dX6_colourAll_15 rfl (by decide) rfl ?_
    refine zb_iload_n X dX6_colourAll_16 rfl 0 rfl ?_
    refine zb_if_ge X 22 dX6_colourAll_17 (by decide) (fun c3 => ?_) (fun c3 => ?_)
    · have h := h.1 c3
      refine zb_aload_n X dX6_colourAll_22 rfl 1 rfl ?_
      refine zb_getR X 22 (zTC_lt (by decide)) 6 [6, 20, 4, 25, 26, 27, 28, 29, 30, 0, 0, 0, 0] rfl (C := RX6) (Tt := TX6) (N := 13) rfl kX6_colourAll_1 5 (by decide) 25 rfl kX6_colourAll_2 rfl dX6_colourAll_23 ?_
      refine zb_aload_n X dX6_colourAll_26 rfl 1 rfl ?_
      refine zb_getR X 22 (zTC_lt (by decide)) 6 [6, 20, 4, 25, 26, 27, 28, 29, 30, 0, 0, 0, 0] rfl (C := RX6) (Tt := TX6) (N := 13) rfl kX6_colourAll_1 6 (by decide) 26 rfl kX6_colourAll_3 rfl dX6_colourAll_27 ?_
      refine zb_iload_n X dX6_colourAll_30 rfl 2 rfl ?_
      obtain ⟨hz, h⟩ := h
      refine zb_iald X 26 (zTC_lt (by decide)) 1 48 0 0 rfl (Or.inl rfl) x1.toNatClampNeg rfl hz dX6_colourAll_31 (a2 26 x1.toNatClampNeg) rfl ?_
      refine zb_iload_n X dX6_colourAll_32 rfl 0 rfl ?_
      obtain ⟨hz, h⟩ := h
      refine zb_iast X 25 (zTC_lt (by decide)) 1 48 0 0 rfl (Or.inl rfl) ((a2 26 x1.toNatClampNeg).toNatClampNeg) rfl hz dX6_colourAll_33 ?_
      refine zb_iinc X (lv' := [(1, .int (x1 + (1 : Int32))), (2, .int q2), (0, .ref (ad 22))]) (x1 + (1 : Int32)) dX6_colourAll_34 2 rfl rfl (by decide) rfl ?_
      refine zb_goto X 2 dX6_colourAll_37 (by decide) ?_
      refine zb_sub [2, 0] rfl ?_
      exact hK2 (x1 + (1 : Int32)) (up2 a2 25 ((a2 26 x1.toNatClampNeg).toNatClampNeg) q2) h
    · have h := h.2 c3
      refine zb_iconst X (0 : Int32) dX6_colourAll_20 (by decide) ?_
      exact hR 21 _ _ _ dX6_colourAll_21 rfl h
theorem uX6_colourAll_0 {G : zG} {Z : zC} {r : Bool} {ad ln : Nat → Nat} (X : zX G Z cX6_colourAll 3 RX6 wsX6_colourAll) {post : Int32 → (Nat → Nat → Int32) → Prop} (hR : zRi G Z rmX6_colourAll 3 (zTC r) ad ln cX6_colourAll .boolean post) (al : Nat → Nat → Int32) (h : vcX6_colourAll_0 G r ad ln (BX6_colourAll_2 G Z r ad ln) post  al) : zB G Z rmX6_colourAll 3 (zTC r) ad ln 0 0 0 [(0, .ref (ad 22))] [] al := tX6_colourAll_0 X hR (fun _ _ h => h)  al h
theorem uX6_colourAll_2 {G : zG} {Z : zC} {r : Bool} {ad ln : Nat → Nat} (X : zX G Z cX6_colourAll 3 RX6 wsX6_colourAll) {post : Int32 → (Nat → Nat → Int32) → Prop} (hR : zRi G Z rmX6_colourAll 3 (zTC r) ad ln cX6_colourAll .boolean post) (x1 : Int32) (al : Nat → Nat → Int32) (h : vcX6_colourAll_2 G r ad ln (BX6_colourAll_2 G Z r ad ln) post x1 al) : zB G Z rmX6_colourAll 3 (zTC r) ad ln 0 0 2 [(0, .ref (ad 22)), (1, .int x1)] [] al := tX6_colourAll_2 X hR (fun _ _ h => h) x1 al h

abbrev rmX6_fit : Room := { frames := 5, cells := 0, slots := 0, locals := 112 }
theorem kX6_fit_0 : Cond.fieldLink RX6 41 RX6 "distance" "I" ∈ wsX6_fit := by decide +kernel
theorem kX6_fit_1 : zIn RX6 TX6 13 wsX6_fit := by decide +kernel
theorem kX6_fit_2 : Cond.fieldLink RX6 55 RX6 "need" "I" ∈ wsX6_fit := by decide +kernel
theorem kX6_fit_3 : Cond.methodLink RX6 58 Lib.Math.max.name ∈ wsX6_fit := by decide +kernel
theorem kX6_fit_4 : Cond.static Lib.Math.max.name ∈ wsX6_fit := by decide +kernel
theorem kX6_fit_5 : Cond.initialized "java/lang/Math" ∈ wsX6_fit := by decide +kernel
theorem kX6_fit_6 : Cond.code Lib.Math.max.name Lib.Math.max.code 2 (some .int) ∈ wsX6_fit := by decide +kernel
theorem kX6_fit_7 : Cond.fieldLink RX6 64 RX6 "size" "I" ∈ wsX6_fit := by decide +kernel
abbrev BX6_fit_58 (G : zG) (Z : zC) (r : Bool) (ad ln : Nat → Nat) (p1 : Int32) (al : Nat → Nat → Int32) : Prop := zB G Z rmX6_fit 2 (zTC r) ad ln 0 0 58 [(0, .ref (ad 22))] [] al
def vcX6_fit_12 (G : zG) (r : Bool) (ad ln : Nat → Nat) (p1 : Int32) (K58 : (Nat → Nat → Int32) → Prop) (post : Int32 → (Nat → Nat → Int32) → Prop) (al : Nat → Nat → Int32) : Prop :=
  post (0 : Int32) al
def vcX6_fit_0 (G : zG) (r : Bool) (ad ln : Nat → Nat) (p1 : Int32) (K58 : (Nat → Nat → Int32) → Prop) (post : Int32 → (Nat → Nat → Int32) → Prop) (al : Nat → Nat → Int32) : Prop :=
  (p1 < (1 : Int32) → vcX6_fit_12 G r ad ln p1 K58 post  al) ∧ (¬ p1 < (1 : Int32) → (p1 ≤ (200 : Int32) → zMv G yX6_findSpans wsX6_findSpans rmX6_findSpans (zTC r) ad ln [.ref (ad 22)] (up2 al 22 9 p1) (fun a3 => zMv G yX6_orderSpans wsX6_orderSpans rmX6_orderSpans (zTC r) ad ln [.ref (ad 22)] a3 (fun a4 => zMi G yX6_findNeed wsX6_findNeed rmX6_findNeed (zTC r) ad ln [.ref (ad 22)] a4 (fun q5 a5 => (q5 ≤ (96 : Int32) → K58  (up2 (up2 a5 22 11 q5) 22 12 (if q5 < (1 : Int32) then (1 : Int32) else q5))) ∧ (¬ q5 ≤ (96 : Int32) → post (0 : Int32) (up2 a5 22 11 q5)))))) ∧ (¬ p1 ≤ (200 : Int32) → vcX6_fit_12 G r ad ln p1 K58 post  al))
def vcX6_fit_58 (G : zG) (r : Bool) (ad ln : Nat → Nat) (p1 : Int32) (K58 : (Nat → Nat → Int32) → Prop) (post : Int32 → (Nat → Nat → Int32) → Prop) (al : Nat → Nat → Int32) : Prop :=
  ((128 : Int32) < (al 22 12) → post (0 : Int32) al) ∧ (¬ (128 : Int32) < (al 22 12) → zMi G yX6_colourAll wsX6_colourAll rmX6_colourAll (zTC r) ad ln [.ref (ad 22)] al (fun q2 a2 => (q2 = 0 → K58  (up2 a2 22 12 ((a2 22 12) + (1 : Int32)))) ∧ (¬ q2 = 0 → post (1 : Int32) a2)))
set_option maxRecDepth 20000 in
theorem tX6_fit_12 {G : zG} {Z : zC} {r : Bool} {ad ln : Nat → Nat} (X : zX G Z cX6_fit 2 RX6 wsX6_fit) (p1 : Int32) {K58 : (Nat → Nat → Int32) → Prop} {post : Int32 → (Nat → Nat → Int32) → Prop} (hR : zRi G Z rmX6_fit 2 (zTC r) ad ln cX6_fit .boolean post) (hK58 : ∀ al, K58  al → zB G Z rmX6_fit 2 (zTC r) ad ln 0 0 58 [(0, .ref (ad 22))] [] al) (al : Nat → Nat → Int32) (h : vcX6_fit_12 G r ad ln p1 K58 post  al) : zB G Z rmX6_fit 2 (zTC r) ad ln 0 0 12 [] [] al := by
  unfold vcX6_fit_12 at h
  refine zb_iconst X (0 : Int32) dX6_fit_12 (by decide) ?_
  exact hR 13 _ _ _ dX6_fit_13 rfl h
set_option maxRecDepth 20000 in
theorem tX6_fit_0 {G : zG} {Z : zC} {r : Bool} {ad ln : Nat → Nat} (X : zX G Z cX6_fit 2 RX6 wsX6_fit) (p1 : Int32) {K58 : (Nat → Nat → Int32) → Prop} {post : Int32 → (Nat → Nat → Int32) → Prop} (hR : zRi G Z rmX6_fit 2 (zTC r) ad ln cX6_fit .boolean post) (hK58 : ∀ al, K58  al → zB G Z rmX6_fit 2 (zTC r) ad ln 0 0 58 [(0, .ref (ad 22))] [] al) (al : Nat → Nat → Int32) (h : vcX6_fit_0 G r ad ln p1 K58 post  al) : zB G Z rmX6_fit 2 (zTC r) ad ln 0 0 0 [(0, .ref (ad 22)), (1, .int p1)] [] al := by
  unfold vcX6_fit_0 at h
  refine zb_iload_n X dX6_fit_0 rfl 1 rfl ?_
  refine zb_iconst X (1 : Int32) dX6_fit_1 (by decide) ?_
  refine zb_icmp_lt X 12 dX6_fit_2 (by decide) (fun c1 => ?_) (fun c1 => ?_)
  · have h := h.1 c1
    refine zb_sub [] rfl ?_
    exact tX6_fit_12 X p1 hR hK58  al h
  · have h := h.2 c1
    refine zb_iload_n X dX6_fit_5 rfl 1 rfl ?_
    refine zb_sipush X (200 : Int32) dX6_fit_6 (by decide) ?_
    refine zb_icmp_le X 14 dX6_fit_9 (by decide) (fun c2 => ?_) (fun c2 => ?_)
    · have h := h.1 c2
      refine zb_aload_n X dX6_fit_14 rfl 0 rfl ?_
      refine zb_iload_n X dX6_fit_15 rfl 1 rfl ?_
      refine zb_putI X 22 (zTC_lt (by decide)) 6 [6, 20, 4, 25, 26, 27, 28, 29, 30, 0, 0, 0, 0] rfl (C := RX6) (Tt := TX6) (N := 13) rfl kX6_fit_1 tyX6 tyX6_ok nmX6 9 (by decide) rfl kX6_fit_0 rfl rfl rfl rfl dX6_fit_16 ?_
      refine zb_aload_n X dX6_fit_19 rfl 0 rfl ?_
      refine zb_callVv (n := 0) X 22 (zTC_lt (by decide)) 6 [6, 20, 4, 25, 26, 27, 28, 29, 30, 0, 0, 0, 0] rfl (C := RX6) (Tt := TX6) (N := 13) rfl h gX6_fit_X6_findSpans rfl (by decide +kernel) (by decide) rfl rfl (Nat.le_of_ble_eq_true rfl) dX6_fit_20 (kc' := 0) (ks' := 0) rfl rfl (fun a3 h => ?_)
      refine zb_aload_n X dX6_fit_23 rfl 0 rfl ?_
      refine zb_callVv (n := 0) X 22 (zTC_lt (by decide)) 6 [6, 20, 4, 25, 26, 27, 28, 29, 30, 0, 0, 0, 0] rfl (C := RX6) (Tt := TX6) (N := 13) rfl h gX6_fit_X6_orderSpans rfl (by decide +kernel) (by decide) rfl rfl (Nat.le_of_ble_eq_true rfl) dX6_fit_24 (kc' := 0) (ks' := 0) rfl rfl (fun a4 h => ?_)
      refine zb_aload_n X dX6_fit_27 rfl 0 rfl ?_
      refine zb_aload_n X dX6_fit_28 rfl 0 rfl ?_
      refine zb_callVi (n := 0) X 22 (zTC_lt (by decide)) 6 [6, 20, 4, 25, 26, 27, 28, 29, 30, 0, 0, 0, 0] rfl (C := RX6) (Tt := TX6) (N := 13) rfl h gX6_fit_X6_findNeed rfl (by decide +kernel) (by decide) rfl rfl (Nat.le_of_ble_eq_true rfl) dX6_fit_29 (kc' := 0) (ks' := 0) rfl rfl (fun q5 a5 h => ?_)
      refine zb_putI X 22 (zTC_lt (by decide)) 6 [6, 20, 4, 25, 26, 27, 28, 29, 30, 0, 0, 0, 0] rfl (C := RX6) (Tt := TX6) (N := 13) rfl kX6_fit_1 tyX6 tyX6_ok nmX6 11 (by decide) rfl kX6_fit_2 rfl rfl rfl rfl dX6_fit_32 ?_
      refine zb_aload_n X dX6_fit_35 rfl 0 rfl ?_
      refine zb_getI X 22 (zTC_lt (by decide)) 6 [6, 20, 4, 25, 26, 27, 28, 29, 30, 0, 0, 0, 0] rfl (C := RX6) (Tt := TX6) (N := 13) rfl kX6_fit_1 11 (by decide) rfl kX6_fit_2 rfl dX6_fit_36 (q5) rfl ?_
      refine zb_bipush X (96 : Int32) dX6_fit_39 (by decide) ?_
      refine zb_icmp_le X 46 dX6_fit_41 (by decide) (fun c6 => ?_) (fun c6 => ?_)
      · have h := h.1 c6
        refine zb_aload_n X dX6_fit_46 rfl 0 rfl ?_
        refine zb_aload_n X dX6_fit_47 rfl 0 rfl ?_
        refine zb_getI X 22 (zTC_lt (by decide)) 6 [6, 20, 4, 25, 26, 27, 28, 29, 30, 0, 0, 0, 0] rfl (C := RX6) (Tt := TX6) (N := 13) rfl kX6_fit_1 11 (by decide) rfl kX6_fit_2 rfl dX6_fit_48 (q5) rfl ?_
        refine zb_iconst X (1 : Int32) dX6_fit_51 (by decide) ?_
        refine zb_mmax X kX6_fit_3 kX6_fit_4 kX6_fit_5 kX6_fit_6 ⟨⟨Nat.le_of_ble_eq_true rfl, Nat.le_of_ble_eq_true rfl⟩, Nat.le_of_ble_eq_true rfl, Nat.le_of_ble_eq_true rfl⟩ dX6_fit_52 ?_
        refine zb_putI X 22 (zTC_lt (by decide)) 6 [6, 20, 4, 25, 26, 27, 28, 29, 30, 0, 0, 0, 0] rfl (C := RX6) (Tt := TX6) (N := 13) rfl kX6_fit_1 tyX6 tyX6_ok nmX6 12 (by decide) rfl kX6_fit_7 rfl rfl rfl rfl dX6_fit_55 ?_
        refine zb_sub [0] rfl ?_
        exact hK58  (up2 (up2 a5 22 11 q5) 22 12 (if q5 < (1 : Int32) then (1 : Int32) else q5)) h
      · have h := h.2 c6
        refine zb_iconst X (0 : Int32) dX6_fit_44 (by decide) ?_
        exact hR 45 _ _ _ dX6_fit_45 rfl h
    · have h := h.2 c2
      refine zb_sub [] rfl ?_
      exact tX6_fit_12 X p1 hR hK58  al h
set_option maxRecDepth 20000 in
theorem tX6_fit_58 {G : zG} {Z : zC} {r : Bool} {ad ln : Nat → Nat} (X : zX G Z cX6_fit 2 RX6 wsX6_fit) (p1 : Int32) {K58 : (Nat → Nat → Int32) → Prop} {post : Int32 → (Nat → Nat → Int32) → Prop} (hR : zRi G Z rmX6_fit 2 (zTC r) ad ln cX6_fit .boolean post) (hK58 : ∀ al, K58  al → zB G Z rmX6_fit 2 (zTC r) ad ln 0 0 58 [(0, .ref (ad 22))] [] al) (al : Nat → Nat → Int32) (h : vcX6_fit_58 G r ad ln p1 K58 post  al) : zB G Z rmX6_fit 2 (zTC r) ad ln 0 0 58 [(0, .ref (ad 22))] [] al := by
  unfold vcX6_fit_58 at h
  refine zb_aload_n X dX6_fit_58 rfl 0 rfl ?_
  refine zb_getI X 22 (zTC_lt (by decide)) 6 [6, 20, 4, 25, 26, 27, 28, 29, 30, 0, 0, 0, 0] rfl (C := RX6) (Tt := TX6) (N := 13) rfl kX6_fit_1 12 (by decide) rfl kX6_fit_7 rfl dX6_fit_59 (al 22 12) rfl ?_
  refine zb_sipush X (128 : Int32) dX6_fit_62 (by decide) ?_
  refine zb_icmp_gt X 90 dX6_fit_65 (by decide) (fun c1 => ?_) (fun c1 => ?_)
  · have h := h.1 c1
    refine zb_iconst X (0 : Int32) dX6_fit_90 (by decide) ?_
    exact hR 91 _ _ _ dX6_fit_91 rfl h
  · have h := h.2 c1
    refine zb_aload_n X dX6_fit_68 rfl 0 rfl ?_
    refine zb_callVi (n := 0) X 22 (zTC_lt (by decide)) 6 [6, 20, 4, 25, 26, 27, 28, 29, 30, 0, 0, 0, 0] rfl (C := RX6) (Tt := TX6) (N := 13) rfl h gX6_fit_X6_colourAll rfl (by decide +kernel) (by decide) rfl rfl (Nat.le_of_ble_eq_true rfl) dX6_fit_69 (kc' := 0) (ks' := 0) rfl rfl (fun q2 a2 h => ?_)
    refine zb_if_eq X 77 dX6_fit_72 (by decide) (fun c3 => ?_) (fun c3 => ?_)
    · have h := h.1 c3
      refine zb_aload_n X dX6_fit_77 rfl 0 rfl ?_
      refine zb_dup X dX6_fit_78 rfl ?_
      refine zb_getI X 22 (zTC_lt (by decide)) 6 [6, 20, 4, 25, 26, 27, 28, 29, 30, 0, 0, 0, 0] rfl (C := RX6) (Tt := TX6) (N := 13) rfl kX6_fit_1 12 (by decide) rfl kX6_fit_7 rfl dX6_fit_79 (a2 22 12) rfl ?_
      refine zb_iconst X (1 : Int32) dX6_fit_82 (by decide) ?_
      refine zb_iadd X dX6_fit_83 ?_
      refine zb_putI X 22 (zTC_lt (by decide)) 6 [6, 20, 4, 25, 26, 27, 28, 29, 30, 0, 0, 0, 0] rfl (C := RX6) (Tt := TX6) (N := 13) rfl kX6_fit_1 tyX6 tyX6_ok nmX6 12 (by decide) rfl kX6_fit_7 rfl rfl rfl rfl dX6_fit_84 ?_
      refine zb_goto X 58 dX6_fit_87 (by decide) ?_
      refine zb_sub [0] rfl ?_
      exact hK58  (up2 a2 22 12 ((a2 22 12) + (1 : Int32))) h
    · have h := h.2 c3
      refine zb_iconst X (1 : Int32) dX6_fit_75 (by decide) ?_
      exact hR 76 _ _ _ dX6_fit_76 rfl h
theorem uX6_fit_12 {G : zG} {Z : zC} {r : Bool} {ad ln : Nat → Nat} (X : zX G Z cX6_fit 2 RX6 wsX6_fit) (p1 : Int32) {post : Int32 → (Nat → Nat → Int32) → Prop} (hR : zRi G Z rmX6_fit 2 (zTC r) ad ln cX6_fit .boolean post) (al : Nat → Nat → Int32) (h : vcX6_fit_12 G r ad ln p1 (BX6_fit_58 G Z r ad ln p1) post  al) : zB G Z rmX6_fit 2 (zTC r) ad ln 0 0 12 [] [] al := tX6_fit_12 X p1 hR (fun _ h => h)  al h
theorem uX6_fit_0 {G : zG} {Z : zC} {r : Bool} {ad ln : Nat → Nat} (X : zX G Z cX6_fit 2 RX6 wsX6_fit) (p1 : Int32) {post : Int32 → (Nat → Nat → Int32) → Prop} (hR : zRi G Z rmX6_fit 2 (zTC r) ad ln cX6_fit .boolean post) (al : Nat → Nat → Int32) (h : vcX6_fit_0 G r ad ln p1 (BX6_fit_58 G Z r ad ln p1) post  al) : zB G Z rmX6_fit 2 (zTC r) ad ln 0 0 0 [(0, .ref (ad 22)), (1, .int p1)] [] al := tX6_fit_0 X p1 hR (fun _ h => h)  al h
theorem uX6_fit_58 {G : zG} {Z : zC} {r : Bool} {ad ln : Nat → Nat} (X : zX G Z cX6_fit 2 RX6 wsX6_fit) (p1 : Int32) {post : Int32 → (Nat → Nat → Int32) → Prop} (hR : zRi G Z rmX6_fit 2 (zTC r) ad ln cX6_fit .boolean post) (al : Nat → Nat → Int32) (h : vcX6_fit_58 G r ad ln p1 (BX6_fit_58 G Z r ad ln p1) post  al) : zB G Z rmX6_fit 2 (zTC r) ad ln 0 0 58 [(0, .ref (ad 22))] [] al := tX6_fit_58 X p1 hR (fun _ h => h)  al h
