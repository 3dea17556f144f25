abbrev rmX8_add (zc zs : Nat) : Room := { frames := 2, cells := zc, slots := zs, locals := 62 }
theorem kX8_add_0 : Cond.fieldLink RX8 9 RX8 "from" "[I" ∈ wsX8_add := by decide +kernel
theorem kX8_add_1 : zIn RX8 TX8 10 wsX8_add := by decide +kernel
theorem kX8_add_2 : Cond.fieldLink RX8 34 RX8 "size" "I" ∈ wsX8_add := by decide +kernel
theorem kX8_add_3 : Cond.fieldLink RX8 15 RX8 "to" "[I" ∈ wsX8_add := by decide +kernel
theorem kX8_add_4 : Cond.fieldLink RX8 18 RX8 "over" "[I" ∈ wsX8_add := by decide +kernel
theorem kX8_add_5 : Cond.fieldLink RX8 21 RX8 "delay" "[I" ∈ wsX8_add := by decide +kernel
def vcX8_add_80 (G : zG) (r : Bool) (ad ln : Nat → Nat) (zc zs kc ks : Nat) (hkc : kc ≤ zc) (hks : ks ≤ zs) (p1 : Int32) (p2 : Int32) (p3 : Int32) (p4 : Int32)  (post : (Nat → Nat → Int32) → Prop) (al : Nat → Nat → Int32) : Prop :=
  (vp_in (al 12 2) (ln 13) ∧ vp_in (al 12 2) (ln 14) ∧ vp_in (al 12 2) (ln 15) ∧ vp_in (al 12 2) (ln 16) ∧ post (up2 (up2 (up2 (up2 (up2 al 13 ((al 12 2).toNatClampNeg) p1) 14 ((al 12 2).toNatClampNeg) p2) 15 ((al 12 2).toNatClampNeg) p3) 16 ((al 12 2).toNatClampNeg) p4) 12 2 ((al 12 2) + (1 : Int32))))
set_option maxRecDepth 20000 in
theorem tX8_add_80 {G : zG} {Z : zC} {r : Bool} {ad ln : Nat → Nat} (X : zX G Z cX8_add 5 RX8 wsX8_add) (zc zs kc ks : Nat) (hkc : kc ≤ zc) (hks : ks ≤ zs) (p1 : Int32) (p2 : Int32) (p3 : Int32) (p4 : Int32)  {post : (Nat → Nat → Int32) → Prop} (hR : zRv G Z (rmX8_add zc zs) 5 (zTC r) ad ln cX8_add post)  (al : Nat → Nat → Int32) (h : vcX8_add_80 G r ad ln zc zs kc ks hkc hks p1 p2 p3 p4  post  al) : zB G Z (rmX8_add zc zs) 5 (zTC r) ad ln kc ks 80 [(0, .ref (ad 12)), (1, .int p1), (2, .int p2), (3, .int p3), (4, .int p4)] [] al := by
  unfold vcX8_add_80 at h
  refine zb_aload_n X dX8_add_80 rfl 0 rfl ?_
  refine zb_getR X 12 (zTC_lt (by decide)) 8 [6, 4, 0, 15, 16, 17, 18, 19, 0, 0] rfl (C := RX8) (Tt := TX8) (N := 10) rfl kX8_add_1 3 (by decide) 13 rfl kX8_add_0 rfl dX8_add_81 ?_
  refine zb_aload_n X dX8_add_84 rfl 0 rfl ?_
  refine zb_getI X 12 (zTC_lt (by decide)) 8 [6, 4, 0, 15, 16, 17, 18, 19, 0, 0] rfl (C := RX8) (Tt := TX8) (N := 10) rfl kX8_add_1 2 (by decide) rfl kX8_add_2 rfl dX8_add_85 (al 12 2) rfl ?_
  refine zb_iload_n X dX8_add_88 rfl 1 rfl ?_
  obtain ⟨hz, h⟩ := h
  refine zb_iast X 13 (zTC_lt (by decide)) 2 0 0 0 rfl (Or.inr rfl) ((al 12 2).toNatClampNeg) rfl hz dX8_add_89 ?_
  refine zb_aload_n X dX8_add_90 rfl 0 rfl ?_
  refine zb_getR X 12 (zTC_lt (by decide)) 8 [6, 4, 0, 15, 16, 17, 18, 19, 0, 0] rfl (C := RX8) (Tt := TX8) (N := 10) rfl kX8_add_1 4 (by decide) 14 rfl kX8_add_3 rfl dX8_add_91 ?_
  refine zb_aload_n X dX8_add_94 rfl 0 rfl ?_
  refine zb_getI X 12 (zTC_lt (by decide)) 8 [6, 4, 0, 15, 16, 17, 18, 19, 0, 0] rfl (C := RX8) (Tt := TX8) (N := 10) rfl kX8_add_1 2 (by decide) rfl kX8_add_2 rfl dX8_add_95 (al 12 2) rfl ?_
  refine zb_iload_n X dX8_add_98 rfl 2 rfl ?_
  obtain ⟨hz, h⟩ := h
  refine zb_iast X 14 (zTC_lt (by decide)) 2 0 0 0 rfl (Or.inr rfl) ((al 12 2).toNatClampNeg) rfl hz dX8_add_99 ?_
  refine zb_aload_n X dX8_add_100 rfl 0 rfl ?_
  refine zb_getR X 12 (zTC_lt (by decide)) 8 [6, 4, 0, 15, 16, 17, 18, 19, 0, 0] rfl (C := RX8) (Tt := TX8) (N := 10) rfl kX8_add_1 5 (by decide) 15 rfl kX8_add_4 rfl dX8_add_101 ?_
  refine zb_aload_n X dX8_add_104 rfl 0 rfl ?_
  refine zb_getI X 12 (zTC_lt (by decide)) 8 [6, 4, 0, 15, 16, 17, 18, 19, 0, 0] rfl (C := RX8) (Tt := TX8) (N := 10) rfl kX8_add_1 2 (by decide) rfl kX8_add_2 rfl dX8_add_105 (al 12 2) rfl ?_
  refine zb_iload_n X dX8_add_108 rfl 3 rfl ?_
  obtain ⟨hz, h⟩ := h
  refine zb_iast X 15 (zTC_lt (by decide)) 2 0 0 0 rfl (Or.inr rfl) ((al 12 2).toNatClampNeg) rfl hz dX8_add_109 ?_
  refine zb_aload_n X dX8_add_110 rfl 0 rfl ?_
  refine zb_getR X 12 (zTC_lt (by decide)) 8 [6, 4, 0, 15, 16, 17, 18, 19, 0, 0] rfl (C := RX8) (Tt := TX8) (N := 10) rfl kX8_add_1 6 (by decide) 16 rfl kX8_add_5 rfl dX8_add_111 ?_
  refine zb_aload_n X dX8_add_114 rfl 0 rfl ?_
  refine zb_getI X 12 (zTC_lt (by decide)) 8 [6, 4, 0, 15, 16, 17, 18, 19, 0, 0] rfl (C := RX8) (Tt := TX8) (N := 10) rfl kX8_add_1 2 (by decide) rfl kX8_add_2 rfl dX8_add_115 (al 12 2) rfl ?_
  refine zb_iload X dX8_add_118 4 rfl ?_
  obtain ⟨hz, h⟩ := h
  refine zb_iast X 16 (zTC_lt (by decide)) 2 0 0 0 rfl (Or.inr rfl) ((al 12 2).toNatClampNeg) rfl hz dX8_add_120 ?_
  refine zb_aload_n X dX8_add_121 rfl 0 rfl ?_
  refine zb_dup X dX8_add_122 rfl ?_
  refine zb_getI X 12 (zTC_lt (by decide)) 8 [6, 4, 0, 15, 16, 17, 18, 19, 0, 0] rfl (C := RX8) (Tt := TX8) (N := 10) rfl kX8_add_1 2 (by decide) rfl kX8_add_2 rfl dX8_add_123 (al 12 2) rfl ?_
  refine zb_iconst X (1 : Int32) dX8_add_126 (by decide) ?_
  refine zb_iadd X dX8_add_127 ?_
  refine zb_putI X 12 (zTC_lt (by decide)) 8 [6, 4, 0, 15, 16, 17, 18, 19, 0, 0] rfl (C := RX8) (Tt := TX8) (N := 10) rfl kX8_add_1 tyX8 tyX8_ok nmX8 2 (by decide) rfl kX8_add_2 rfl rfl rfl rfl dX8_add_128 ?_
  exact zb_widen hkc hks (hR 131 _ _ dX8_add_131 h)
abbrev rmX8_addPair (zc zs : Nat) : Room := { frames := 3, cells := zc, slots := zs, locals := 86 }
theorem kX8_addPair_0 : Cond.fieldLink RX8 27 RX8 "loop" "LLoopForge$Loop;" ∈ wsX8_addPair := by decide +kernel
theorem kX8_addPair_1 : zIn RX8 TX8 10 wsX8_addPair := by decide +kernel
theorem kX8_addPair_2 : Cond.fieldLink RX8 68 RX0 "rows" "[LLoopForge$Row;" ∈ wsX8_addPair := by decide +kernel
theorem kX8_addPair_3 : zIn RX0 TX0 3 wsX8_addPair := by decide +kernel
theorem kX8_addPair_4 : Cond.fieldLink RX8 31 RX8 "settings" "[I" ∈ wsX8_addPair := by decide +kernel
theorem kX8_addPair_5 : Cond.fieldLink RX8 72 RX3 "kind" "I" ∈ wsX8_addPair := by decide +kernel
theorem kX8_addPair_6 : zIn RX3 TX3 9 wsX8_addPair := by decide +kernel
theorem kX8_addPair_7 : Cond.fieldLink RX8 77 RX3 "left" "LLoopForge$Operand;" ∈ wsX8_addPair := by decide +kernel
theorem kX8_addPair_8 : Cond.initialized RX9 ∈ wsX8_addPair := by decide +kernel
theorem kX8_addPair_9 : Cond.static yX9_roundsOfUse ∈ wsX8_addPair := by decide +kernel
theorem kX8_addPair_10 : Cond.methodLink RX8 99 Lib.Math.max.name ∈ wsX8_addPair := by decide +kernel
theorem kX8_addPair_11 : Cond.static Lib.Math.max.name ∈ wsX8_addPair := by decide +kernel
theorem kX8_addPair_12 : Cond.initialized "java/lang/Math" ∈ wsX8_addPair := by decide +kernel
theorem kX8_addPair_13 : Cond.code Lib.Math.max.name Lib.Math.max.code 2 (some .int) ∈ wsX8_addPair := by decide +kernel
theorem kX8_addPair_14 : Cond.fieldLink RX8 85 RX3 "right" "LLoopForge$Operand;" ∈ wsX8_addPair := by decide +kernel
abbrev BX8_addPair_171 (G : zG) (Z : zC) (r : Bool) (ad ln : Nat → Nat) (zc zs kc ks : Nat) (hkc : kc ≤ zc) (hks : ks ≤ zs) (p1 : Int32) (p2 : Int32) (s0 s1 s2 s3 : Int32) (al : Nat → Nat → Int32) : Prop := zB G Z (rmX8_addPair zc zs) 10 (zTC r) ad ln kc ks 171 [] [.int s0, .int s1, .int s2, .int s3, .ref (ad 12)] al
abbrev BX8_addPair_156 (G : zG) (Z : zC) (r : Bool) (ad ln : Nat → Nat) (zc zs kc ks : Nat) (hkc : kc ≤ zc) (hks : ks ≤ zs) (p1 : Int32) (p2 : Int32) (x8 x9 s0 s1 s2 s3 : Int32) (al : Nat → Nat → Int32) : Prop := zB G Z (rmX8_addPair zc zs) 10 (zTC r) ad ln kc ks 156 [(0, .ref (ad 12)), (1, .int p1), (2, .int p2), (8, .int x8), (9, .int x9)] [.int s0, .int s1, .int s2, .int s3, .ref (ad 12)] al
abbrev BX8_addPair_140 (G : zG) (Z : zC) (r : Bool) (ad ln : Nat → Nat) (zc zs kc ks : Nat) (hkc : kc ≤ zc) (hks : ks ≤ zs) (p1 : Int32) (p2 : Int32) (s0 s1 s2 s3 : Int32) (al : Nat → Nat → Int32) : Prop := zB G Z (rmX8_addPair zc zs) 10 (zTC r) ad ln kc ks 140 [] [.int s0, .int s1, .int s2, .int s3, .ref (ad 12)] al
def vcX8_addPair_159 (G : zG) (r : Bool) (ad ln : Nat → Nat) (zc zs kc ks : Nat) (hkc : kc ≤ zc) (hks : ks ≤ zs) (p1 : Int32) (p2 : Int32) (K140 : Int32 → Int32 → Int32 → Int32 → (Nat → Nat → Int32) → Prop) (K156 : Int32 → Int32 → Int32 → Int32 → Int32 → Int32 → (Nat → Nat → Int32) → Prop) (K171 : Int32 → Int32 → Int32 → Int32 → (Nat → Nat → Int32) → Prop) (post : (Nat → Nat → Int32) → Prop) (x8 x9 : Int32) (al : Nat → Nat → Int32) : Prop :=
  (x8 < 0 → post al) ∧ (¬ x8 < 0 → K171 x9 x8 p2 p1 al)
def vcX8_addPair_0 (G : zG) (r : Bool) (ad ln : Nat → Nat) (zc zs kc ks : Nat) (hkc : kc ≤ zc) (hks : ks ≤ zs) (p1 : Int32) (p2 : Int32) (K140 : Int32 → Int32 → Int32 → Int32 → (Nat → Nat → Int32) → Prop) (K156 : Int32 → Int32 → Int32 → Int32 → Int32 → Int32 → (Nat → Nat → Int32) → Prop) (K171 : Int32 → Int32 → Int32 → Int32 → (Nat → Nat → Int32) → Prop) (post : (Nat → Nat → Int32) → Prop) (al : Nat → Nat → Int32) : Prop :=
  (vp_in p1 48 ∧ vp_in p2 48 ∧ vp_in (al (29 + 3 * p1.toNatClampNeg) 0) 9 ∧ zMi G yX0_source wsX0_source rmX0_source (zTC r) ad ln [.ref (ad 4), .ref (ad (30 + 3 * p2.toNatClampNeg))] al (fun q3 a3 => (q3 = p1 → zMi G yX9_roundsOfUse wsX9_roundsOfUse rmX9_roundsOfUse (zTC r) ad ln [.int p1, .int p2] a3 (fun q6 a6 => (p2 ≤ p1 → zMi G yX8_placesOver wsX8_placesOver rmX8_placesOver (zTC r) ad ln [.ref (ad 12), .ref (ad (29 + 3 * p1.toNatClampNeg)), .ref (ad (29 + 3 * p2.toNatClampNeg)), .int (1 : Int32)] a6 (fun q8 a8 => zMi G yX8_placesDelay wsX8_placesDelay rmX8_placesDelay (zTC r) ad ln [.ref (ad (29 + 3 * p1.toNatClampNeg)), .ref (ad (29 + 3 * p2.toNatClampNeg)), .int (al 2 ((al (29 + 3 * p1.toNatClampNeg) 0).toNatClampNeg))] a8 (fun q9 a9 => (¬ q6 = q8 → K156 q8 q9 (al 2 ((al (29 + 3 * p1.toNatClampNeg) 0).toNatClampNeg)) q6 p2 p1 a9) ∧ (q6 = q8 → K140 (if (al 2 ((al (29 + 3 * p1.toNatClampNeg) 0).toNatClampNeg)) < q9 then q9 else (al 2 ((al (29 + 3 * p1.toNatClampNeg) 0).toNatClampNeg))) q6 p2 p1 a9)))) ∧ (¬ p2 ≤ p1 → zMi G yX8_placesOver wsX8_placesOver rmX8_placesOver (zTC r) ad ln [.ref (ad 12), .ref (ad (29 + 3 * p1.toNatClampNeg)), .ref (ad (29 + 3 * p2.toNatClampNeg)), .int (0 : Int32)] a6 (fun q8 a8 => zMi G yX8_placesDelay wsX8_placesDelay rmX8_placesDelay (zTC r) ad ln [.ref (ad (29 + 3 * p1.toNatClampNeg)), .ref (ad (29 + 3 * p2.toNatClampNeg)), .int (al 2 ((al (29 + 3 * p1.toNatClampNeg) 0).toNatClampNeg))] a8 (fun q9 a9 => (¬ q6 = q8 → K156 q8 q9 (al 2 ((al (29 + 3 * p1.toNatClampNeg) 0).toNatClampNeg)) q6 p2 p1 a9) ∧ (q6 = q8 → K140 (if (al 2 ((al (29 + 3 * p1.toNatClampNeg) 0).toNatClampNeg)) < q9 then q9 else (al 2 ((al (29 + 3 * p1.toNatClampNeg) 0).toNatClampNeg))) q6 p2 p1 a9)))))) ∧ (¬ q3 = p1 → zMi G yX0_source wsX0_source rmX0_source (zTC r) ad ln [.ref (ad 4), .ref (ad (31 + 3 * p2.toNatClampNeg))] a3 (fun q5 a5 => (¬ q5 = p1 → (p2 ≤ p1 → zMi G yX8_placesOver wsX8_placesOver rmX8_placesOver (zTC r) ad ln [.ref (ad 12), .ref (ad (29 + 3 * p1.toNatClampNeg)), .ref (ad (29 + 3 * p2.toNatClampNeg)), .int (1 : Int32)] a5 (fun q9 a9 => zMi G yX8_placesDelay wsX8_placesDelay rmX8_placesDelay (zTC r) ad ln [.ref (ad (29 + 3 * p1.toNatClampNeg)), .ref (ad (29 + 3 * p2.toNatClampNeg)), .int (al 2 ((al (29 + 3 * p1.toNatClampNeg) 0).toNatClampNeg))] a9 (fun q10 a10 => vcX8_addPair_159 G r ad ln zc zs kc ks hkc hks p1 p2 K140 K156 K171 post q9 q10 a10))) ∧ (¬ p2 ≤ p1 → zMi G yX8_placesOver wsX8_placesOver rmX8_placesOver (zTC r) ad ln [.ref (ad 12), .ref (ad (29 + 3 * p1.toNatClampNeg)), .ref (ad (29 + 3 * p2.toNatClampNeg)), .int (0 : Int32)] a5 (fun q9 a9 => zMi G yX8_placesDelay wsX8_placesDelay rmX8_placesDelay (zTC r) ad ln [.ref (ad (29 + 3 * p1.toNatClampNeg)), .ref (ad (29 + 3 * p2.toNatClampNeg)), .int (al 2 ((al (29 + 3 * p1.toNatClampNeg) 0).toNatClampNeg))] a9 (fun q10 a10 => vcX8_addPair_159 G r ad ln zc zs kc ks hkc hks p1 p2 K140 K156 K171 post q9 q10 a10)))) ∧ (q5 = p1 → zMi G yX9_roundsOfUse wsX9_roundsOfUse rmX9_roundsOfUse (zTC r) ad ln [.int p1, .int p2] a5 (fun q8 a8 => (p2 ≤ p1 → zMi G yX8_placesOver wsX8_placesOver rmX8_placesOver (zTC r) ad ln [.ref (ad 12), .ref (ad (29 + 3 * p1.toNatClampNeg)), .ref (ad (29 + 3 * p2.toNatClampNeg)), .int (1 : Int32)] a8 (fun q10 a10 => zMi G yX8_placesDelay wsX8_placesDelay rmX8_placesDelay (zTC r) ad ln [.ref (ad (29 + 3 * p1.toNatClampNeg)), .ref (ad (29 + 3 * p2.toNatClampNeg)), .int (al 2 ((al (29 + 3 * p1.toNatClampNeg) 0).toNatClampNeg))] a10 (fun q11 a11 => (¬ q8 = q10 → K156 q10 q11 (al 2 ((al (29 + 3 * p1.toNatClampNeg) 0).toNatClampNeg)) q8 p2 p1 a11) ∧ (q8 = q10 → K140 (if (al 2 ((al (29 + 3 * p1.toNatClampNeg) 0).toNatClampNeg)) < q11 then q11 else (al 2 ((al (29 + 3 * p1.toNatClampNeg) 0).toNatClampNeg))) q8 p2 p1 a11)))) ∧ (¬ p2 ≤ p1 → zMi G yX8_placesOver wsX8_placesOver rmX8_placesOver (zTC r) ad ln [.ref (ad 12), .ref (ad (29 + 3 * p1.toNatClampNeg)), .ref (ad (29 + 3 * p2.toNatClampNeg)), .int (0 : Int32)] a8 (fun q10 a10 => zMi G yX8_placesDelay wsX8_placesDelay rmX8_placesDelay (zTC r) ad ln [.ref (ad (29 + 3 * p1.toNatClampNeg)), .ref (ad (29 + 3 * p2.toNatClampNeg)), .int (al 2 ((al (29 + 3 * p1.toNatClampNeg) 0).toNatClampNeg))] a10 (fun q11 a11 => (¬ q8 = q10 → K156 q10 q11 (al 2 ((al (29 + 3 * p1.toNatClampNeg) 0).toNatClampNeg)) q8 p2 p1 a11) ∧ (q8 = q10 → K140 (if (al 2 ((al (29 + 3 * p1.toNatClampNeg) 0).toNatClampNeg)) < q11 then q11 else (al 2 ((al (29 + 3 * p1.toNatClampNeg) 0).toNatClampNeg))) q8 p2 p1 a11))))))))))
set_option maxRecDepth 20000 in
theorem tX8_addPair_159 {G : zG} {Z : zC} {r : Bool} {ad ln : Nat → Nat} (X : zX G Z cX8_addPair 10 RX8 wsX8_addPair) (zc zs kc ks : Nat) (hkc : kc ≤ zc) (hks : ks ≤ zs) (p1 : Int32) (p2 : Int32) {K140 : Int32 → Int32 → Int32 → Int32 → (Nat → Nat → Int32) → Prop} {K156 : Int32 → Int32 → Int32 → Int32 → Int32 → Int32 → (Nat → Nat → Int32) → Prop} {K171 : Int32 → Int32 → Int32 → Int32 → (Nat → Nat → Int32) → Prop} {post : (Nat → Nat → Int32) → Prop} (hR : zRv G Z (rmX8_addPair zc zs) 10 (zTC r) ad ln cX8_addPair post) (hK140 : ∀ s0 s1 s2 s3 : Int32, ∀ al, K140 s0 s1 s2 s3 al → zB G Z (rmX8_addPair zc zs) 10 (zTC r) ad ln kc ks 140 [] [.int s0, .int s1, .int s2, .int s3, .ref (ad 12)] al) (hK156 : ∀ x8 x9 s0 s1 s2 s3 : Int32, ∀ al, K156 x8 x9 s0 s1 s2 s3 al → zB G Z (rmX8_addPair zc zs) 10 (zTC r) ad ln kc ks 156 [(0, .ref (ad 12)), (1, .int p1), (2, .int p2), (8, .int x8), (9, .int x9)] [.int s0, .int s1, .int s2, .int s3, .ref (ad 12)] al) (hK171 : ∀ s0 s1 s2 s3 : Int32, ∀ al, K171 s0 s1 s2 s3 al → zB G Z (rmX8_addPair zc zs) 10 (zTC r) ad ln kc ks 171 [] [.int s0, .int s1, .int s2, .int s3, .ref (ad 12)] al) (x8 x9 : Int32) (al : Nat → Nat → Int32) (h : vcX8_addPair_159 G r ad ln zc zs kc ks hkc hks p1 p2 K140 K156 K171 post x8 x9 al) : zB G Z (rmX8_addPair zc zs) 10 (zTC r) ad ln kc ks 159 [(0, .ref (ad 12)), (1, .int p1), (2, .int p2), (8, .int x8), (9, .int x9)] [] al := by
  unfold vcX8_addPair_159 at h
  refine zb_iload X dX8_addPair_159 3 rfl ?_
  refine zb_if_lt X 174 dX8_addPair_161 (by decide) (fun c1 => ?_) (fun c1 => ?_)
  · have h := h.1 c1
    exact zb_widen hkc hks (hR 174 _ _ dX8_addPair_174 h)
  · have h := h.2 c1
    refine zb_aload_n X dX8_addPair_164 rfl 0 rfl ?_
    refine zb_iload_n X dX8_addPair_165 rfl 1 rfl ?_
    refine zb_iload_n X dX8_addPair_166 rfl 2 rfl ?_
    refine zb_iload X dX8_addPair_167 3 rfl ?_
    refine zb_iload X dX8_addPair_169 4 rfl ?_
    refine zb_sub [] rfl ?_
    exact hK171 x9 x8 p2 p1 al h
set_option maxRecDepth 20000 in
theorem tX8_addPair_0 {G : zG} {Z : zC} {r : Bool} {ad ln : Nat → Nat} (X : zX G Z cX8_addPair 10 RX8 wsX8_addPair) (zc zs kc ks : Nat) (hkc : kc ≤ zc) (hks : ks ≤ zs) (p1 : Int32) (p2 : Int32) {K140 : Int32 → Int32 → Int32 → Int32 → (Nat → Nat → Int32) → Prop} {K156 : Int32 → Int32 → Int32 → Int32 → Int32 → Int32 → (Nat → Nat → Int32) → Prop} {K171 : Int32 → Int32 → Int32 → Int32 → (Nat → Nat → Int32) → Prop} {post : (Nat → Nat → Int32) → Prop} (hR : zRv G Z (rmX8_addPair zc zs) 10 (zTC r) ad ln cX8_addPair post) (hK140 : ∀ s0 s1 s2 s3 : Int32, ∀ al, K140 s0 s1 s2 s3 al → zB G Z (rmX8_addPair zc zs) 10 (zTC r) ad ln kc ks 140 [] [.int s0, .int s1, .int s2, .int s3, .ref (ad 12)] al) (hK156 : ∀ x8 x9 s0 s1 s2 s3 : Int32, ∀ al, K156 x8 x9 s0 s1 s2 s3 al → zB G Z (rmX8_addPair zc zs) 10 (zTC r) ad ln kc ks 156 [(0, .ref (ad 12)), (1, .int p1), (2, .int p2), (8, .int x8), (9, .int x9)] [.int s0, .int s1, .int s2, .int s3, .ref (ad 12)] al) (hK171 : ∀ s0 s1 s2 s3 : Int32, ∀ al, K171 s0 s1 s2 s3 al → zB G Z (rmX8_addPair zc zs) 10 (zTC r) ad ln kc ks 171 [] [.int s0, .int s1, .int s2, .int s3, .ref (ad 12)] al) (al : Nat → Nat → Int32) (h : vcX8_addPair_0 G r ad ln zc zs kc ks hkc hks p1 p2 K140 K156 K171 post  al) : zB G Z (rmX8_addPair zc zs) 10 (zTC r) ad ln kc ks 0 [(0, .ref (ad 12)), (1, .int p1), (2, .int p2)] [] al := by
  unfold vcX8_addPair_0 at h
  refine zb_aload_n X dX8_addPair_0 rfl 0 rfl ?_
  refine zb_getR X 12 (zTC_lt (by decide)) 8 [6, 4, 0, 15, 16, 17, 18, 19, 0, 0] rfl (C := RX8) (Tt := TX8) (N := 10) rfl kX8_addPair_1 0 (by decide) 4 rfl kX8_addPair_0 rfl dX8_addPair_1 ?_
  refine zb_getR X 4 (zTC_lt (by decide)) 0 [7, 0, 8] rfl (C := RX0) (Tt := TX0) (N := 3) rfl kX8_addPair_3 0 (by decide) 5 rfl kX8_addPair_2 rfl dX8_addPair_4 ?_
  refine zb_iload_n X dX8_addPair_7 rfl 1 rfl ?_
  obtain ⟨hq1, h⟩ := h
  refine zb_rald X 5 (zTC_lt (by decide)) 48 29 3 rfl hq1 dX8_addPair_8 ?_
  refine zb_astore_n X (lv' := [(3, .ref (ad (29 + 3 * p1.toNatClampNeg))), (0, .ref (ad 12)), (1, .int p1), (2, .int p2)]) dX8_addPair_9 rfl (by decide) rfl ?_
  refine zb_aload_n X dX8_addPair_10 rfl 1 rfl ?_
  refine zb_getR X 12 (zTC_lt (by decide)) 8 [6, 4, 0, 15, 16, 17, 18, 19, 0, 0] rfl (C := RX8) (Tt := TX8) (N := 10) rfl kX8_addPair_1 0 (by decide) 4 rfl kX8_addPair_0 rfl dX8_addPair_11 ?_
  refine zb_getR X 4 (zTC_lt (by decide)) 0 [7, 0, 8] rfl (C := RX0) (Tt := TX0) (N := 3) rfl kX8_addPair_3 0 (by decide) 5 rfl kX8_addPair_2 rfl dX8_addPair_14 ?_
  refine zb_iload_n X dX8_addPair_17 rfl 3 rfl ?_
  obtain ⟨hq2, h⟩ := h
  refine zb_rald X 5 (zTC_lt (by decide)) 48 29 3 rfl hq2 dX8_addPair_18 ?_
  refine zb_astore X (lv' := [(4, .ref (ad (29 + 3 * p2.toNatClampNeg))), (3, .ref (ad (29 + 3 * p1.toNatClampNeg))), (0, .ref (ad 12)), (1, .int p1), (2, .int p2)]) dX8_addPair_19 (by decide) rfl ?_
  refine zb_aload_n X dX8_addPair_21 rfl 2 rfl ?_
  refine zb_getR X 12 (zTC_lt (by decide)) 8 [6, 4, 0, 15, 16, 17, 18, 19, 0, 0] rfl (C := RX8) (Tt := TX8) (N := 10) rfl kX8_addPair_1 1 (by decide) 2 rfl kX8_addPair_4 rfl dX8_addPair_22 ?_
  refine zb_aload_n X dX8_addPair_25 rfl 1 rfl ?_
  refine zb_getI X (29 + 3 * p1.toNatClampNeg) (zTC_lt (zrow_lt (zvp_lt hq1))) 3 [0, 0, 0, 0, 0, 0, 0, (30 + 3 * p1.toNatClampNeg) + 2, (31 + 3 * p1.toNatClampNeg) + 2] (zTC_row r (zvp_lt hq1)) (C := RX3) (Tt := TX3) (N := 9) rfl kX8_addPair_6 0 (by decide) rfl kX8_addPair_5 rfl dX8_addPair_26 (al (29 + 3 * p1.toNatClampNeg) 0) rfl ?_
  obtain ⟨hz, h⟩ := h
  refine zb_iald X 2 (zTC_lt (by decide)) 1 9 0 0 rfl (Or.inl rfl) ((al (29 + 3 * p1.toNatClampNeg) 0).toNatClampNeg) rfl hz dX8_addPair_29 (al 2 ((al (29 + 3 * p1.toNatClampNeg) 0).toNatClampNeg)) rfl ?_
  refine zb_istore X (lv' := [(5, .int (al 2 ((al (29 + 3 * p1.toNatClampNeg) 0).toNatClampNeg))), (4, .ref (ad (29 + 3 * p2.toNatClampNeg))), (3, .ref (ad (29 + 3 * p1.toNatClampNeg))), (0, .ref (ad 12)), (1, .int p1), (2, .int p2)]) dX8_addPair_30 (by decide) rfl ?_
  refine zb_aload_n X dX8_addPair_32 rfl 3 rfl ?_
  refine zb_getR X 12 (zTC_lt (by decide)) 8 [6, 4, 0, 15, 16, 17, 18, 19, 0, 0] rfl (C := RX8) (Tt := TX8) (N := 10) rfl kX8_addPair_1 0 (by decide) 4 rfl kX8_addPair_0 rfl dX8_addPair_33 ?_
  refine zb_aload X dX8_addPair_36 1 rfl ?_
  refine zb_getR X (29 + 3 * p2.toNatClampNeg) (zTC_lt (zrow_lt (zvp_lt hq2))) 3 [0, 0, 0, 0, 0, 0, 0, (30 + 3 * p2.toNatClampNeg) + 2, (31 + 3 * p2.toNatClampNeg) + 2] (zTC_row r (zvp_lt hq2)) (C := RX3) (Tt := TX3) (N := 9) rfl kX8_addPair_6 7 (by decide) (30 + 3 * p2.toNatClampNeg) rfl kX8_addPair_7 rfl dX8_addPair_38 ?_
  refine zb_callVi (n := 1) X 4 (zTC_lt (by decide)) 0 [7, 0, 8] rfl (C := RX0) (Tt := TX0) (N := 3) rfl h gX8_addPair_X0_source rfl (by decide +kernel) ⟨⟨Nat.le_of_ble_eq_true rfl, Nat.le_of_ble_eq_true rfl⟩, hkc, hks⟩ rfl rfl (Nat.le_of_ble_eq_true rfl) dX8_addPair_41 (kc' := kc) (ks' := ks) rfl rfl (fun q3 a3 h => ?_)
  refine zb_iload_n X dX8_addPair_44 rfl 4 rfl ?_
  refine zb_icmp_eq X 64 dX8_addPair_45 (by decide) (fun c4 => ?_) (fun c4 => ?_)
  · have h := h.1 c4
    refine zb_iconst X (1 : Int32) dX8_addPair_64 (by decide) ?_
    refine zb_goto X 69 dX8_addPair_65 (by decide) ?_
    refine zb_istore X (lv' := [(6, .int (1 : Int32)), (5, .int (al 2 ((al (29 + 3 * p1.toNatClampNeg) 0).toNatClampNeg))), (4, .ref (ad (29 + 3 * p2.toNatClampNeg))), (3, .ref (ad (29 + 3 * p1.toNatClampNeg))), (0, .ref (ad 12)), (1, .int p1), (2, .int p2)]) dX8_addPair_69 (by decide) rfl ?_
    refine zb_iload X dX8_addPair_71 0 rfl ?_
    refine zb_if_eq X 84 dX8_addPair_73 (by decide) (fun c5 => absurd c5 (by decide)) (fun _ => ?_)
    refine zb_iload_n X dX8_addPair_76 rfl 5 rfl ?_
    refine zb_iload_n X dX8_addPair_77 rfl 6 rfl ?_
    refine zb_callNi (n := 2) X h gX8_addPair_X9_roundsOfUse_n88 (by decide +kernel) kX8_addPair_8 kX8_addPair_9 rfl (by decide +kernel) ⟨⟨Nat.le_of_ble_eq_true rfl, Nat.le_of_ble_eq_true rfl⟩, hkc, hks⟩ rfl rfl (Nat.le_of_ble_eq_true rfl) dX8_addPair_78 (kc' := kc) (ks' := ks) rfl rfl (fun q6 a6 h => ?_)
    refine zb_goto X 85 dX8_addPair_81 (by decide) ?_
    refine zb_istore X (lv' := [(7, .int q6), (6, .int (1 : Int32)), (5, .int (al 2 ((al (29 + 3 * p1.toNatClampNeg) 0).toNatClampNeg))), (4, .ref (ad (29 + 3 * p2.toNatClampNeg))), (3, .ref (ad (29 + 3 * p1.toNatClampNeg))), (0, .ref (ad 12)), (1, .int p1), (2, .int p2)]) dX8_addPair_85 (by decide) rfl ?_
    refine zb_aload_n X dX8_addPair_87 rfl 5 rfl ?_
    refine zb_aload_n X dX8_addPair_88 rfl 4 rfl ?_
    refine zb_aload X dX8_addPair_89 3 rfl ?_
    refine zb_iload_n X dX8_addPair_91 rfl 7 rfl ?_
    refine zb_iload_n X dX8_addPair_92 rfl 6 rfl ?_
    refine zb_icmp_le X 100 dX8_addPair_93 (by decide) (fun c7 => ?_) (fun c7 => ?_)
    · have h := h.1 c7
      refine zb_iconst X (1 : Int32) dX8_addPair_100 (by decide) ?_
      refine zb_callVi (n := 3) X 12 (zTC_lt (by decide)) 8 [6, 4, 0, 15, 16, 17, 18, 19, 0, 0] rfl (C := RX8) (Tt := TX8) (N := 10) rfl h gX8_addPair_X8_placesOver rfl (by decide +kernel) ⟨⟨Nat.le_of_ble_eq_true rfl, Nat.le_of_ble_eq_true rfl⟩, hkc, hks⟩ rfl rfl (Nat.le_of_ble_eq_true rfl) dX8_addPair_101 (kc' := kc) (ks' := ks) rfl rfl (fun q8 a8 h => ?_)
      refine zb_istore X (lv' := [(8, .int q8), (7, .int q6), (6, .int (1 : Int32)), (5, .int (al 2 ((al (29 + 3 * p1.toNatClampNeg) 0).toNatClampNeg))), (4, .ref (ad (29 + 3 * p2.toNatClampNeg))), (3, .ref (ad (29 + 3 * p1.toNatClampNeg))), (0, .ref (ad 12)), (1, .int p1), (2, .int p2)]) dX8_addPair_104 (by decide) rfl ?_
      refine zb_aload_n X dX8_addPair_106 rfl 5 rfl ?_
      refine zb_aload X dX8_addPair_107 4 rfl ?_
      refine zb_iload X dX8_addPair_109 3 rfl ?_
      refine zb_callSi (n := 3) X h gX8_addPair_X8_placesDelay rfl (by decide +kernel) ⟨⟨Nat.le_of_ble_eq_true rfl, Nat.le_of_ble_eq_true rfl⟩, hkc, hks⟩ rfl rfl (Nat.le_of_ble_eq_true rfl) dX8_addPair_111 (kc' := kc) (ks' := ks) rfl rfl (fun q9 a9 h => ?_)
      refine zb_istore X (lv' := [(9, .int q9), (8, .int q8), (7, .int q6), (6, .int (1 : Int32)), (5, .int (al 2 ((al (29 + 3 * p1.toNatClampNeg) 0).toNatClampNeg))), (4, .ref (ad (29 + 3 * p2.toNatClampNeg))), (3, .ref (ad (29 + 3 * p1.toNatClampNeg))), (0, .ref (ad 12)), (1, .int p1), (2, .int p2)]) dX8_addPair_114 (by decide) rfl ?_
      refine zb_iload X dX8_addPair_116 3 rfl ?_
      refine zb_if_eq X 144 dX8_addPair_118 (by decide) (fun c10 => absurd c10 (by decide)) (fun _ => ?_)
      refine zb_iload X dX8_addPair_121 2 rfl ?_
      refine zb_iload X dX8_addPair_123 1 rfl ?_
      refine zb_icmp_ne X 144 dX8_addPair_125 (by decide) (fun c11 => ?_) (fun c11 => ?_)
      · have h := h.1 c11
        refine zb_iload X dX8_addPair_144 3 rfl ?_
        refine zb_if_eq X 159 dX8_addPair_146 (by decide) (fun c12 => absurd c12 (by decide)) (fun _ => ?_)
        refine zb_aload_n X dX8_addPair_149 rfl 7 rfl ?_
        refine zb_iload_n X dX8_addPair_150 rfl 8 rfl ?_
        refine zb_iload_n X dX8_addPair_151 rfl 9 rfl ?_
        refine zb_iload X dX8_addPair_152 2 rfl ?_
        refine zb_iload X dX8_addPair_154 4 rfl ?_
        refine zb_sub [7, 8, 9, 1, 0] rfl ?_
        exact hK156 q8 q9 (al 2 ((al (29 + 3 * p1.toNatClampNeg) 0).toNatClampNeg)) q6 p2 p1 a9 h
      · have h := h.2 c11
        refine zb_aload_n X dX8_addPair_128 rfl 7 rfl ?_
        refine zb_iload_n X dX8_addPair_129 rfl 8 rfl ?_
        refine zb_iload_n X dX8_addPair_130 rfl 9 rfl ?_
        refine zb_iload X dX8_addPair_131 2 rfl ?_
        refine zb_iload X dX8_addPair_133 4 rfl ?_
        refine zb_iload X dX8_addPair_135 0 rfl ?_
        refine zb_mmax X kX8_addPair_10 kX8_addPair_11 kX8_addPair_12 kX8_addPair_13 ⟨⟨Nat.le_of_ble_eq_true rfl, Nat.le_of_ble_eq_true rfl⟩, hkc, hks⟩ dX8_addPair_137 ?_
        refine zb_sub [] rfl ?_
        exact hK140 (if (al 2 ((al (29 + 3 * p1.toNatClampNeg) 0).toNatClampNeg)) < q9 then q9 else (al 2 ((al (29 + 3 * p1.toNatClampNeg) 0).toNatClampNeg))) q6 p2 p1 a9 h
    · have h := h.2 c7
      refine zb_iconst X (0 : Int32) dX8_addPair_96 (by decide) ?_
      refine zb_goto X 101 dX8_addPair_97 (by decide) ?_
      refine zb_callVi (n := 3) X 12 (zTC_lt (by decide)) 8 [6, 4, 0, 15, 16, 17, 18, 19, 0, 0] rfl (C := RX8) (Tt := TX8) (N := 10) rfl h gX8_addPair_X8_placesOver rfl (by decide +kernel) ⟨⟨Nat.le_of_ble_eq_true rfl, Nat.le_of_ble_eq_true rfl⟩, hkc, hks⟩ rfl rfl (Nat.le_of_ble_eq_true rfl) dX8_addPair_101 (kc' := kc) (ks' := ks) rfl rfl (fun q8 a8 h => ?_)
      refine zb_istore X (lv' := [(8, .int q8), (7, .int q6), (6, .int (1 : Int32)), (5, .int (al 2 ((al (29 + 3 * p1.toNatClampNeg) 0).toNatClampNeg))), (4, .ref (ad (29 + 3 * p2.toNatClampNeg))), (3, .ref (ad (29 + 3 * p1.toNatClampNeg))), (0, .ref (ad 12)), (1, .int p1), (2, .int p2)]) dX8_addPair_104 (by decide) rfl ?_
      refine zb_aload_n X dX8_addPair_106 rfl 5 rfl ?_
      refine zb_aload X dX8_addPair_107 4 rfl ?_
      refine zb_iload X dX8_addPair_109 3 rfl ?_
      refine zb_callSi (n := 3) X h gX8_addPair_X8_placesDelay rfl (by decide +kernel) ⟨⟨Nat.le_of_ble_eq_true rfl, Nat.le_of_ble_eq_true rfl⟩, hkc, hks⟩ rfl rfl (Nat.le_of_ble_eq_true rfl) dX8_addPair_111 (kc' := kc) (ks' := ks) rfl rfl (fun q9 a9 h => ?_)
      refine zb_istore X (lv' := [(9, .int q9), (8, .int q8), (7, .int q6), (6, .int (1 : Int32)), (5, .int (al 2 ((al (29 + 3 * p1.toNatClampNeg) 0).toNatClampNeg))), (4, .ref (ad (29 + 3 * p2.toNatClampNeg))), (3, .ref (ad (29 + 3 * p1.toNatClampNeg))), (0, .ref (ad 12)), (1, .int p1), (2, .int p2)]) dX8_addPair_114 (by decide) rfl ?_
      refine zb_iload X dX8_addPair_116 3 rfl ?_
      refine zb_if_eq X 144 dX8_addPair_118 (by decide) (fun c10 => absurd c10 (by decide)) (fun _ => ?_)
      refine zb_iload X dX8_addPair_121 2 rfl ?_
      refine zb_iload X dX8_addPair_123 1 rfl ?_
      refine zb_icmp_ne X 144 dX8_addPair_125 (by decide) (fun c11 => ?_) (fun c11 => ?_)
      · have h := h.1 c11
        refine zb_iload X dX8_addPair_144 3 rfl ?_
        refine zb_if_eq X 159 dX8_addPair_146 (by decide) (fun c12 => absurd c12 (by decide)) (fun _ => ?_)
        refine zb_aload_n X dX8_addPair_149 rfl 7 rfl ?_
        refine zb_iload_n X dX8_addPair_150 rfl 8 rfl ?_
        refine zb_iload_n X dX8_addPair_151 rfl 9 rfl ?_
        refine zb_iload X dX8_addPair_152 2 rfl ?_
        refine zb_iload X dX8_addPair_154 4 rfl ?_
        refine zb_sub [7, 8, 9, 1, 0] rfl ?_
        exact hK156 q8 q9 (al 2 ((al (29 + 3 * p1.toNatClampNeg) 0).toNatClampNeg)) q6 p2 p1 a9 h
      · have h := h.2 c11
        refine zb_aload_n X dX8_addPair_128 rfl 7 rfl ?_
        refine zb_iload_n X dX8_addPair_129 rfl 8 rfl ?_
        refine zb_iload_n X dX8_addPair_130 rfl 9 rfl ?_
        refine zb_iload X dX8_addPair_131 2 rfl ?_
        refine zb_iload X dX8_addPair_133 4 rfl ?_
        refine zb_iload X dX8_addPair_135 0 rfl ?_
        refine zb_mmax X kX8_addPair_10 kX8_addPair_11 kX8_addPair_12 kX8_addPair_13 ⟨⟨Nat.le_of_ble_eq_true rfl, Nat.le_of_ble_eq_true rfl⟩, hkc, hks⟩ dX8_addPair_137 ?_
        refine zb_sub [] rfl ?_
        exact hK140 (if (al 2 ((al (29 + 3 * p1.toNatClampNeg) 0).toNatClampNeg)) < q9 then q9 else (al 2 ((al (29 + 3 * p1.toNatClampNeg) 0).toNatClampNeg))) q6 p2 p1 a9 h
  · have h := h.2 c4
    refine zb_aload_n X dX8_addPair_48 rfl 3 rfl ?_
    refine zb_getR X 12 (zTC_lt (by decide)) 8 [6, 4, 0, 15, 16, 17, 18, 19, 0, 0] rfl (C := RX8) (Tt := TX8) (N := 10) rfl kX8_addPair_1 0 (by decide) 4 rfl kX8_addPair_0 rfl dX8_addPair_49 ?_
    refine zb_aload X dX8_addPair_52 1 rfl ?_
    refine zb_getR X (29 + 3 * p2.toNatClampNeg) (zTC_lt (zrow_lt (zvp_lt hq2))) 3 [0, 0, 0, 0, 0, 0, 0, (30 + 3 * p2.toNatClampNeg) + 2, (31 + 3 * p2.toNatClampNeg) + 2] (zTC_row r (zvp_lt hq2)) (C := RX3) (Tt := TX3) (N := 9) rfl kX8_addPair_6 8 (by decide) (31 + 3 * p2.toNatClampNeg) rfl kX8_addPair_14 rfl dX8_addPair_54 ?_
    refine zb_callVi (n := 1) X 4 (zTC_lt (by decide)) 0 [7, 0, 8] rfl (C := RX0) (Tt := TX0) (N := 3) rfl h gX8_addPair_X0_source rfl (by decide +kernel) ⟨⟨Nat.le_of_ble_eq_true rfl, Nat.le_of_ble_eq_true rfl⟩, hkc, hks⟩ rfl rfl (Nat.le_of_ble_eq_true rfl) dX8_addPair_57 (kc' := kc) (ks' := ks) rfl rfl (fun q5 a5 h => ?_)
    refine zb_iload_n X dX8_addPair_60 rfl 4 rfl ?_
    refine zb_icmp_ne X 68 dX8_addPair_61 (by decide) (fun c6 => ?_) (fun c6 => ?_)
    · have h := h.1 c6
      refine zb_iconst X (0 : Int32) dX8_addPair_68 (by decide) ?_
      refine zb_istore X (lv' := [(6, .int (0 : Int32)), (5, .int (al 2 ((al (29 + 3 * p1.toNatClampNeg) 0).toNatClampNeg))), (4, .ref (ad (29 + 3 * p2.toNatClampNeg))), (3, .ref (ad (29 + 3 * p1.toNatClampNeg))), (0, .ref (ad 12)), (1, .int p1), (2, .int p2)]) dX8_addPair_69 (by decide) rfl ?_
      refine zb_iload X dX8_addPair_71 0 rfl ?_
      refine zb_if_eq X 84 dX8_addPair_73 (by decide) (fun _ => ?_) (fun c7 => absurd c7 (by decide))
      refine zb_iconst X (-1 : Int32) dX8_addPair_84 (by decide) ?_
      refine zb_istore X (lv' := [(7, .int (-1 : Int32)), (6, .int (0 : Int32)), (5, .int (al 2 ((al (29 + 3 * p1.toNatClampNeg) 0).toNatClampNeg))), (4, .ref (ad (29 + 3 * p2.toNatClampNeg))), (3, .ref (ad (29 + 3 * p1.toNatClampNeg))), (0, .ref (ad 12)), (1, .int p1), (2, .int p2)]) dX8_addPair_85 (by decide) rfl ?_
      refine zb_aload_n X dX8_addPair_87 rfl 5 rfl ?_
      refine zb_aload_n X dX8_addPair_88 rfl 4 rfl ?_
      refine zb_aload X dX8_addPair_89 3 rfl ?_
      refine zb_iload_n X dX8_addPair_91 rfl 7 rfl ?_
      refine zb_iload_n X dX8_addPair_92 rfl 6 rfl ?_
      refine zb_icmp_le X 100 dX8_addPair_93 (by decide) (fun c8 => ?_) (fun c8 => ?_)
      · have h := h.1 c8
        refine zb_iconst X (1 : Int32) dX8_addPair_100 (by decide) ?_
        refine zb_callVi (n := 3) X 12 (zTC_lt (by decide)) 8 [6, 4, 0, 15, 16, 17, 18, 19, 0, 0] rfl (C := RX8) (Tt := TX8) (N := 10) rfl h gX8_addPair_X8_placesOver rfl (by decide +kernel) ⟨⟨Nat.le_of_ble_eq_true rfl, Nat.le_of_ble_eq_true rfl⟩, hkc, hks⟩ rfl rfl (Nat.le_of_ble_eq_true rfl) dX8_addPair_101 (kc' := kc) (ks' := ks) rfl rfl (fun q9 a9 h => ?_)
        refine zb_istore X (lv' := [(8, .int q9), (7, .int (-1 : Int32)), (6, .int (0 : Int32)), (5, .int (al 2 ((al (29 + 3 * p1.toNatClampNeg) 0).toNatClampNeg))), (4, .ref (ad (29 + 3 * p2.toNatClampNeg))), (3, .ref (ad (29 + 3 * p1.toNatClampNeg))), (0, .ref (ad 12)), (1, .int p1), (2, .int p2)]) dX8_addPair_104 (by decide) rfl ?_
        refine zb_aload_n X dX8_addPair_106 rfl 5 rfl ?_
        refine zb_aload X dX8_addPair_107 4 rfl ?_
        refine zb_iload X dX8_addPair_109 3 rfl ?_
        refine zb_callSi (n := 3) X h gX8_addPair_X8_placesDelay rfl (by decide +kernel) ⟨⟨Nat.le_of_ble_eq_true rfl, Nat.le_of_ble_eq_true rfl⟩, hkc, hks⟩ rfl rfl (Nat.le_of_ble_eq_true rfl) dX8_addPair_111 (kc' := kc) (ks' := ks) rfl rfl (fun q10 a10 h => ?_)
        refine zb_istore X (lv' := [(9, .int q10), (8, .int q9), (7, .int (-1 : Int32)), (6, .int (0 : Int32)), (5, .int (al 2 ((al (29 + 3 * p1.toNatClampNeg) 0).toNatClampNeg))), (4, .ref (ad (29 + 3 * p2.toNatClampNeg))), (3, .ref (ad (29 + 3 * p1.toNatClampNeg))), (0, .ref (ad 12)), (1, .int p1), (2, .int p2)]) dX8_addPair_114 (by decide) rfl ?_
        refine zb_iload X dX8_addPair_116 3 rfl ?_
        refine zb_if_eq X 144 dX8_addPair_118 (by decide) (fun _ => ?_) (fun c11 => absurd c11 (by decide))
        refine zb_iload X dX8_addPair_144 3 rfl ?_
        refine zb_if_eq X 159 dX8_addPair_146 (by decide) (fun _ => ?_) (fun c12 => absurd c12 (by decide))
        refine zb_sub [7, 8, 9, 1, 0] rfl ?_
        exact tX8_addPair_159 X zc zs kc ks hkc hks p1 p2 hR hK140 hK156 hK171 q9 q10 a10 h
      · have h := h.2 c8
        refine zb_iconst X (0 : Int32) dX8_addPair_96 (by decide) ?_
        refine zb_goto X 101 dX8_addPair_97 (by decide) ?_
        refine zb_callVi (n := 3) X 12 (zTC_lt (by decide)) 8 [6, 4, 0, 15, 16, 17, 18, 19, 0, 0] rfl (C := RX8) (Tt := TX8) (N := 10) rfl h gX8_addPair_X8_placesOver rfl (by decide +kernel) ⟨⟨Nat.le_of_ble_eq_true rfl, Nat.le_of_ble_eq_true rfl⟩, hkc, hks⟩ rfl rfl (Nat.le_of_ble_eq_true rfl) dX8_addPair_101 (kc' := kc) (ks' := ks) rfl rfl (fun q9 a9 h => ?_)
        refine zb_istore X (lv' := [(8, .int q9), (7, .int (-1 : Int32)), (6, .int (0 : Int32)), (5, .int (al 2 ((al (29 + 3 * p1.toNatClampNeg) 0).toNatClampNeg))), (4, .ref (ad (29 + 3 * p2.toNatClampNeg))), (3, .ref (ad (29 + 3 * p1.toNatClampNeg))), (0, .ref (ad 12)), (1, .int p1), (2, .int p2)]) dX8_addPair_104 (by decide) rfl ?_
        refine zb_aload_n X dX8_addPair_106 rfl 5 rfl ?_
        refine zb_aload X dX8_addPair_107 4 rfl ?_
        refine zb_iload X dX8_addPair_109 3 rfl ?_
        refine zb_callSi (n := 3) X h gX8_addPair_X8_placesDelay rfl (by decide +kernel) ⟨⟨Nat.le_of_ble_eq_true rfl, Nat.le_of_ble_eq_true rfl⟩, hkc, hks⟩ rfl rfl (Nat.le_of_ble_eq_true rfl) dX8_addPair_111 (kc' := kc) (ks' := ks) rfl rfl (fun q10 a10 h => ?_)
        refine zb_istore X (lv' := [(9, .int q10), (8, .int q9), (7, .int (-1 : Int32)), (6, .int (0 : Int32)), (5, .int (al 2 ((al (29 + 3 * p1.toNatClampNeg) 0).toNatClampNeg))), (4, .ref (ad (29 + 3 * p2.toNatClampNeg))), (3, .ref (ad (29 + 3 * p1.toNatClampNeg))), (0, .ref (ad 12)), (1, .int p1), (2, .int p2)]) dX8_addPair_114 (by decide) rfl ?_
        refine zb_iload X dX8_addPair_116 3 rfl ?_
        refine zb_if_eq X 144 dX8_addPair_118 (by decide) (fun _ => ?_) (fun c11 => absurd c11 (by decide))
        refine zb_iload X dX8_addPair_144 3 rfl ?_
        refine zb_if_eq X 159 dX8_addPair_146 (by decide) (fun _ => ?_) (fun c12 => absurd c12 (by decide))
        refine zb_sub [7, 8, 9, 1, 0] rfl ?_
        exact tX8_addPair_159 X zc zs kc ks hkc hks p1 p2 hR hK140 hK156 hK171 q9 q10 a10 h
    · have h := h.2 c6
      refine zb_iconst X (1 : Int32) dX8_addPair_64 (by decide) ?_
      refine zb_goto X 69 dX8_addPair_65 (by decide) ?_
      refine zb_istore X (lv' := [(6, .int (1 : Int32)), (5, .int (al 2 ((al (29 + 3 * p1.toNatClampNeg) 0).toNatClampNeg))), (4, .ref (ad (29 + 3 * p2.toNatClampNeg))), (3, .ref (ad (29 + 3 * p1.toNatClampNeg))), (0, .ref (ad 12)), (1, .int p1), (2, .int p2)]) dX8_addPair_69 (by decide) rfl ?_
      refine zb_iload X dX8_addPair_71 0 rfl ?_
      refine zb_if_eq X 84 dX8_addPair_73 (by decide) (fun c7 => absurd c7 (by decide)) (fun _ => ?_)
      refine zb_iload_n X dX8_addPair_76 rfl 5 rfl ?_
      refine zb_iload_n X dX8_addPair_77 rfl 6 rfl ?_
      refine zb_callNi (n := 2) X h gX8_addPair_X9_roundsOfUse_n88 (by decide +kernel) kX8_addPair_8 kX8_addPair_9 rfl (by decide +kernel) ⟨⟨Nat.le_of_ble_eq_true rfl, Nat.le_of_ble_eq_true rfl⟩, hkc, hks⟩ rfl rfl (Nat.le_of_ble_eq_true rfl) dX8_addPair_78 (kc' := kc) (ks' := ks) rfl rfl (fun q8 a8 h => ?_)
      refine zb_goto X 85 dX8_addPair_81 (by decide) ?_
      refine zb_istore X (lv' := [(7, .int q8), (6, .int (1 : Int32)), (5, .int (al 2 ((al (29 + 3 * p1.toNatClampNeg) 0).toNatClampNeg))), (4, .ref (ad (29 + 3 * p2.toNatClampNeg))), (3, .ref (ad (29 + 3 * p1.toNatClampNeg))), (0, .ref (ad 12)), (1, .int p1), (2, .int p2)]) dX8_addPair_85 (by decide) rfl ?_
      refine zb_aload_n X dX8_addPair_87 rfl 5 rfl ?_
      refine zb_aload_n X dX8_addPair_88 rfl 4 rfl ?_
      refine zb_aload X dX8_addPair_89 3 rfl ?_
      refine zb_iload_n X dX8_addPair_91 rfl 7 rfl ?_
      refine zb_iload_n X dX8_addPair_92 rfl 6 rfl ?_
      refine zb_icmp_le X 100 dX8_addPair_93 (by decide) (fun c9 => ?_) (fun c9 => ?_)
      · have h := h.1 c9
        refine zb_iconst X (1 : Int32) dX8_addPair_100 (by decide) ?_
        refine zb_callVi (n := 3) X 12 (zTC_lt (by decide)) 8 [6, 4, 0, 15, 16, 17, 18, 19, 0, 0] rfl (C := RX8) (Tt := TX8) (N := 10) rfl h gX8_addPair_X8_placesOver rfl (by decide +kernel) ⟨⟨Nat.le_of_ble_eq_true rfl, Nat.le_of_ble_eq_true rfl⟩, hkc, hks⟩ rfl rfl (Nat.le_of_ble_eq_true rfl) dX8_addPair_101 (kc' := kc) (ks' := ks) rfl rfl (fun q10 a10 h => ?_)
        refine zb_istore X (lv' := [(8, .int q10), (7, .int q8), (6, .int (1 : Int32)), (5, .int (al 2 ((al (29 + 3 * p1.toNatClampNeg) 0).toNatClampNeg))), (4, .ref (ad (29 + 3 * p2.toNatClampNeg))), (3, .ref (ad (29 + 3 * p1.toNatClampNeg))), (0, .ref (ad 12)), (1, .int p1), (2, .int p2)]) dX8_addPair_104 (by decide) rfl ?_
        refine zb_aload_n X dX8_addPair_106 rfl 5 rfl ?_
        refine zb_aload X dX8_addPair_107 4 rfl ?_
        refine zb_iload X dX8_addPair_109 3 rfl ?_
        refine zb_callSi (n := 3) X h gX8_addPair_X8_placesDelay rfl (by decide +kernel) ⟨⟨Nat.le_of_ble_eq_true rfl, Nat.le_of_ble_eq_true rfl⟩, hkc, hks⟩ rfl rfl (Nat.le_of_ble_eq_true rfl) dX8_addPair_111 (kc' := kc) (ks' := ks) rfl rfl (fun q11 a11 h => ?_)
        refine zb_istore X (lv' := [(9, .int q11), (8, .int q10), (7, .int q8), (6, .int (1 : Int32)), (5, .int (al 2 ((al (29 + 3 * p1.toNatClampNeg) 0).toNatClampNeg))), (4, .ref (ad (29 + 3 * p2.toNatClampNeg))), (3, .ref (ad (29 + 3 * p1.toNatClampNeg))), (0, .ref (ad 12)), (1, .int p1), (2, .int p2)]) dX8_addPair_114 (by decide) rfl ?_
        refine zb_iload X dX8_addPair_116 3 rfl ?_
        refine zb_if_eq X 144 dX8_addPair_118 (by decide) (fun c12 => absurd c12 (by decide)) (fun _ => ?_)
        refine zb_iload X dX8_addPair_121 2 rfl ?_
        refine zb_iload X dX8_addPair_123 1 rfl ?_
        refine zb_icmp_ne X 144 dX8_addPair_125 (by decide) (fun c13 => ?_) (fun c13 => ?_)
        · have h := h.1 c13
          refine zb_iload X dX8_addPair_144 3 rfl ?_
          refine zb_if_eq X 159 dX8_addPair_146 (by decide) (fun c14 => absurd c14 (by decide)) (fun _ => ?_)
          refine zb_aload_n X dX8_addPair_149 rfl 7 rfl ?_
          refine zb_iload_n X dX8_addPair_150 rfl 8 rfl ?_
          refine zb_iload_n X dX8_addPair_151 rfl 9 rfl ?_
          refine zb_iload X dX8_addPair_152 2 rfl ?_
          refine zb_iload X dX8_addPair_154 4 rfl ?_
          refine zb_sub [7, 8, 9, 1, 0] rfl ?_
          exact hK156 q10 q11 (al 2 ((al (29 + 3 * p1.toNatClampNeg) 0).toNatClampNeg)) q8 p2 p1 a11 h
        · have h := h.2 c13
          refine zb_aload_n X dX8_addPair_128 rfl 7 rfl ?_
          refine zb_iload_n X dX8_addPair_129 rfl 8 rfl ?_
          refine zb_iload_n X dX8_addPair_130 rfl 9 rfl ?_
          refine zb_iload X dX8_addPair_131 2 rfl ?_
          refine zb_iload X dX8_addPair_133 4 rfl ?_
          refine zb_iload X dX8_addPair_135 0 rfl ?_
          refine zb_mmax X kX8_addPair_10 kX8_addPair_11 kX8_addPair_12 kX8_addPair_13 ⟨⟨Nat.le_of_ble_eq_true rfl, Nat.le_of_ble_eq_true rfl⟩, hkc, hks⟩ dX8_addPair_137 ?_
          refine zb_sub [] rfl ?_
          exact hK140 (if (al 2 ((al (29 + 3 * p1.toNatClampNeg) 0).toNatClampNeg)) < q11 then q11 else (al 2 ((al (29 + 3 * p1.toNatClampNeg) 0).toNatClampNeg))) q8 p2 p1 a11 h
      · have h := h.2 c9
        refine zb_iconst X (0 : Int32) dX8_addPair_96 (by decide) ?_
        refine zb_goto X 101 dX8_addPair_97 (by decide) ?_
        refine zb_callVi (n := 3) X 12 (zTC_lt (by decide)) 8 [6, 4, 0, 15, 16, 17, 18, 19, 0, 0] rfl (C := RX8) (Tt := TX8) (N := 10) rfl h gX8_addPair_X8_placesOver rfl (by decide +kernel) ⟨⟨Nat.le_of_ble_eq_true rfl, Nat.le_of_ble_eq_true rfl⟩, hkc, hks⟩ rfl rfl (Nat.le_of_ble_eq_true rfl) dX8_addPair_101 (kc' := kc) (ks' := ks) rfl rfl (fun q10 a10 h => ?_)
        refine zb_istore X (lv' := [(8, .int q10), (7, .int q8), (6, .int (1 : Int32)), (5, .int (al 2 ((al (29 + 3 * p1.toNatClampNeg) 0).toNatClampNeg))), (4, .ref (ad (29 + 3 * p2.toNatClampNeg))), (3, .ref (ad (29 + 3 * p1.toNatClampNeg))), (0, .ref (ad 12)), (1, .int p1), (2, .int p2)]) dX8_addPair_104 (by decide) rfl ?_
        refine zb_aload_n X dX8_addPair_106 rfl 5 rfl ?_
        refine zb_aload X dX8_addPair_107 4 rfl ?_
        refine zb_iload X dX8_addPair_109 3 rfl ?_
        refine zb_callSi (n := 3) X h gX8_addPair_X8_placesDelay rfl (by decide +kernel) ⟨⟨Nat.le_of_ble_eq_true rfl, Nat.le_of_ble_eq_true rfl⟩, hkc, hks⟩ rfl rfl (Nat.le_of_ble_eq_true rfl) dX8_addPair_111 (kc' := kc) (ks' := ks) rfl rfl (fun q11 a11 h => ?_)
        refine zb_istore X (lv' := [(9, .int q11), (8, .int q10), (7, .int q8), (6, .int (1 : Int32)), (5, .int (al 2 ((al (29 + 3 * p1.toNatClampNeg) 0).toNatClampNeg))), (4, .ref (ad (29 + 3 * p2.toNatClampNeg))), (3, .ref (ad (29 + 3 * p1.toNatClampNeg))), (0, .ref (ad 12)), (1, .int p1), (2, .int p2)]) dX8_addPair_114 (by decide) rfl ?_
        refine zb_iload X dX8_addPair_116 3 rfl ?_
        refine zb_if_eq X 144 dX8_addPair_118 (by decide) (fun c12 => absurd c12 (by decide)) (fun _ => ?_)
        refine zb_iload X dX8_addPair_121 2 rfl ?_
        refine zb_iload X dX8_addPair_123 1 rfl ?_
        refine zb_icmp_ne X 144 dX8_addPair_125 (by decide) (fun c13 => ?_) (fun c13 => ?_)
        · have h := h.1 c13
          refine zb_iload X dX8_addPair_144 3 rfl ?_
          refine zb_if_eq X 159 dX8_addPair_146 (by decide) (fun c14 => absurd c14 (by decide)) (fun _ => ?_)
          refine zb_aload_n X dX8_addPair_149 rfl 7 rfl ?_
          refine zb_iload_n X dX8_addPair_150 rfl 8 rfl ?_
          refine zb_iload_n X dX8_addPair_151 rfl 9 rfl ?_
          refine zb_iload X dX8_addPair_152 2 rfl ?_
          refine zb_iload X dX8_addPair_154 4 rfl ?_
          refine zb_sub [7, 8, 9, 1, 0] rfl ?_
          exact hK156 q10 q11 (al 2 ((al (29 + 3 * p1.toNatClampNeg) 0).toNatClampNeg)) q8 p2 p1 a11 h
        · have h := h.2 c13
          refine zb_aload_n X dX8_addPair_128 rfl 7 rfl ?_
          refine zb_iload_n X dX8_addPair_129 rfl 8 rfl ?_
          refine zb_iload_n X dX8_addPair_130 rfl 9 rfl ?_
          refine zb_iload X dX8_addPair_131 2 rfl ?_
          refine zb_iload X dX8_addPair_133 4 rfl ?_
          refine zb_iload X dX8_addPair_135 0 rfl ?_
          refine zb_mmax X kX8_addPair_10 kX8_addPair_11 kX8_addPair_12 kX8_addPair_13 ⟨⟨Nat.le_of_ble_eq_true rfl, Nat.le_of_ble_eq_true rfl⟩, hkc, hks⟩ dX8_addPair_137 ?_
          refine zb_sub [] rfl ?_
          exact hK140 (if (al 2 ((al (29 + 3 * p1.toNatClampNeg) 0).toNatClampNeg)) < q11 then q11 else (al 2 ((al (29 + 3 * p1.toNatClampNeg) 0).toNatClampNeg))) q8 p2 p1 a11 h
theorem uX8_addPair_159 {G : zG} {Z : zC} {r : Bool} {ad ln : Nat → Nat} (X : zX G Z cX8_addPair 10 RX8 wsX8_addPair) (zc zs kc ks : Nat) (hkc : kc ≤ zc) (hks : ks ≤ zs) (p1 : Int32) (p2 : Int32) {post : (Nat → Nat → Int32) → Prop} (hR : zRv G Z (rmX8_addPair zc zs) 10 (zTC r) ad ln cX8_addPair post) (x8 x9 : Int32) (al : Nat → Nat → Int32) (h : vcX8_addPair_159 G r ad ln zc zs kc ks hkc hks p1 p2 (BX8_addPair_140 G Z r ad ln zc zs kc ks hkc hks p1 p2) (BX8_addPair_156 G Z r ad ln zc zs kc ks hkc hks p1 p2) (BX8_addPair_171 G Z r ad ln zc zs kc ks hkc hks p1 p2) post x8 x9 al) : zB G Z (rmX8_addPair zc zs) 10 (zTC r) ad ln kc ks 159 [(0, .ref (ad 12)), (1, .int p1), (2, .int p2), (8, .int x8), (9, .int x9)] [] al := tX8_addPair_159 X zc zs kc ks hkc hks p1 p2 hR (fun _ _ _ _ _ h => h) (fun _ _ _ _ _ _ _ h => h) (fun _ _ _ _ _ h => h) x8 x9 al h
theorem uX8_addPair_0 {G : zG} {Z : zC} {r : Bool} {ad ln : Nat → Nat} (X : zX G Z cX8_addPair 10 RX8 wsX8_addPair) (zc zs kc ks : Nat) (hkc : kc ≤ zc) (hks : ks ≤ zs) (p1 : Int32) (p2 : Int32) {post : (Nat → Nat → Int32) → Prop} (hR : zRv G Z (rmX8_addPair zc zs) 10 (zTC r) ad ln cX8_addPair post) (al : Nat → Nat → Int32) (h : vcX8_addPair_0 G r ad ln zc zs kc ks hkc hks p1 p2 (BX8_addPair_140 G Z r ad ln zc zs kc ks hkc hks p1 p2) (BX8_addPair_156 G Z r ad ln zc zs kc ks hkc hks p1 p2) (BX8_addPair_171 G Z r ad ln zc zs kc ks hkc hks p1 p2) post  al) : zB G Z (rmX8_addPair zc zs) 10 (zTC r) ad ln kc ks 0 [(0, .ref (ad 12)), (1, .int p1), (2, .int p2)] [] al := tX8_addPair_0 X zc zs kc ks hkc hks p1 p2 hR (fun _ _ _ _ _ h => h) (fun _ _ _ _ _ _ _ h => h) (fun _ _ _ _ _ h => h)  al h
abbrev rmX8_learn (zc zs : Nat) : Room := { frames := 4, cells := zc, slots := zs, locals := 115 }
theorem kX8_learn_0 : Cond.fieldLink RX8 34 RX8 "size" "I" ∈ wsX8_learn := by decide +kernel
theorem kX8_learn_1 : zIn RX8 TX8 10 wsX8_learn := by decide +kernel
theorem kX8_learn_2 : Cond.fieldLink RX8 27 RX8 "loop" "LLoopForge$Loop;" ∈ wsX8_learn := by decide +kernel
theorem kX8_learn_3 : Cond.fieldLink RX8 38 RX0 "size" "I" ∈ wsX8_learn := by decide +kernel
theorem kX8_learn_4 : zIn RX0 TX0 3 wsX8_learn := by decide +kernel
theorem kX8_learn_5 : Cond.fieldLink RX8 49 RX8 "leastByUnits" "I" ∈ wsX8_learn := by decide +kernel
theorem kX8_learn_6 : Cond.fieldLink RX8 55 RX8 "leastByCircles" "I" ∈ wsX8_learn := by decide +kernel
abbrev BX8_learn_34 (G : zG) (Z : zC) (r : Bool) (ad ln : Nat → Nat) (zc zs kc ks : Nat) (hkc : kc ≤ zc) (hks : ks ≤ zs) (x1 x2 s0 s1 : Int32) (al : Nat → Nat → Int32) : Prop := zB G Z (rmX8_learn zc zs) 3 (zTC r) ad ln kc ks 34 [(0, .ref (ad 12)), (1, .int x1), (2, .int x2)] [.int s0, .int s1, .ref (ad 12)] al
abbrev BX8_learn_20 (G : zG) (Z : zC) (r : Bool) (ad ln : Nat → Nat) (zc zs kc ks : Nat) (hkc : kc ≤ zc) (hks : ks ≤ zs) (x1 x2 : Int32) (al : Nat → Nat → Int32) : Prop := zB G Z (rmX8_learn zc zs) 3 (zTC r) ad ln kc ks 20 [(0, .ref (ad 12)), (1, .int x1), (2, .int x2)] [] al
abbrev BX8_learn_7 (G : zG) (Z : zC) (r : Bool) (ad ln : Nat → Nat) (zc zs kc ks : Nat) (hkc : kc ≤ zc) (hks : ks ≤ zs) (x1 : Int32) (al : Nat → Nat → Int32) : Prop := zB G Z (rmX8_learn zc zs) 3 (zTC r) ad ln kc ks 7 [(0, .ref (ad 12)), (1, .int x1)] [] al
def vcX8_learn_0 (G : zG) (r : Bool) (ad ln : Nat → Nat) (zc zs kc ks : Nat) (hkc : kc ≤ zc) (hks : ks ≤ zs) (K7 : Int32 → (Nat → Nat → Int32) → Prop) (K20 : Int32 → Int32 → (Nat → Nat → Int32) → Prop) (K34 : Int32 → Int32 → Int32 → Int32 → (Nat → Nat → Int32) → Prop) (post : (Nat → Nat → Int32) → Prop) (al : Nat → Nat → Int32) : Prop :=
  K7 (0 : Int32) (up2 al 12 2 (0 : Int32))
def vcX8_learn_7 (G : zG) (r : Bool) (ad ln : Nat → Nat) (zc zs kc ks : Nat) (hkc : kc ≤ zc) (hks : ks ≤ zs) (K7 : Int32 → (Nat → Nat → Int32) → Prop) (K20 : Int32 → Int32 → (Nat → Nat → Int32) → Prop) (K34 : Int32 → Int32 → Int32 → Int32 → (Nat → Nat → Int32) → Prop) (post : (Nat → Nat → Int32) → Prop) (x1 : Int32) (al : Nat → Nat → Int32) : Prop :=
  ((al 4 1) ≤ x1 → zMi G yX8_findLeastByUnits wsX8_findLeastByUnits rmX8_findLeastByUnits (zTC r) ad ln [.ref (ad 12)] al (fun q2 a2 => zMi G yX8_findLeastByCircles wsX8_findLeastByCircles rmX8_findLeastByCircles (zTC r) ad ln [.ref (ad 12)] (up2 a2 12 8 q2) (fun q3 a3 => post (up2 a3 12 9 q3)))) ∧ (¬ (al 4 1) ≤ x1 → K20 x1 (0 : Int32) al)
def vcX8_learn_20 (G : zG) (r : Bool) (ad ln : Nat → Nat) (zc zs kc ks : Nat) (hkc : kc ≤ zc) (hks : ks ≤ zs) (K7 : Int32 → (Nat → Nat → Int32) → Prop) (K20 : Int32 → Int32 → (Nat → Nat → Int32) → Prop) (K34 : Int32 → Int32 → Int32 → Int32 → (Nat → Nat → Int32) → Prop) (post : (Nat → Nat → Int32) → Prop) (x1 x2 : Int32) (al : Nat → Nat → Int32) : Prop :=
  ((al 4 1) ≤ x2 → K7 (x1 + (1 : Int32)) al) ∧ (¬ (al 4 1) ≤ x2 → K34 x1 x2 x2 x1 al)
set_option maxRecDepth 20000 in
theorem tX8_learn_0 {G : zG} {Z : zC} {r : Bool} {ad ln : Nat → Nat} (X : zX G Z cX8_learn 3 RX8 wsX8_learn) (zc zs kc ks : Nat) (hkc : kc ≤ zc) (hks : ks ≤ zs) {K7 : Int32 → (Nat → Nat → Int32) → Prop} {K20 : Int32 → Int32 → (Nat → Nat → Int32) → Prop} {K34 : Int32 → Int32 → Int32 → Int32 → (Nat → Nat → Int32) → Prop} {post : (Nat → Nat → Int32) → Prop} (hR : zRv G Z (rmX8_learn zc zs) 3 (zTC r) ad ln cX8_learn post) (hK7 : ∀ x1 : Int32, ∀ al, K7 x1 al → zB G Z (rmX8_learn zc zs) 3 (zTC r) ad ln kc ks 7 [(0, .ref (ad 12)), (1, .int x1)] [] al) (hK20 : ∀ x1 x2 : Int32, ∀ al, K20 x1 x2 al → zB G Z (rmX8_learn zc zs) 3 (zTC r) ad ln kc ks 20 [(0, .ref (ad 12)), (1, .int x1), (2, .int x2)] [] al) (hK34 : ∀ x1 x2 s0 s1 : Int32, ∀ al, K34 x1 x2 s0 s1 al → zB G Z (rmX8_learn zc zs) 3 (zTC r) ad ln kc ks 34 [(0, .ref (ad 12)), (1, .int x1), (2, .int x2)] [.int s0, .int s1, .ref (ad 12)] al) (al : Nat → Nat → Int32) (h : vcX8_learn_0 G r ad ln zc zs kc ks hkc hks K7 K20 K34 post  al) : zB G Z (rmX8_learn zc zs) 3 (zTC r) ad ln kc ks 0 [(0, .ref (ad 12))] [] al := by
  unfold vcX8_learn_0 at h
  refine zb_aload_n X dX8_learn_0 rfl 0 rfl ?_
  refine zb_iconst X (0 : Int32) dX8_learn_1 (by decide) ?_
  refine zb_putI X 12 (zTC_lt (by decide)) 8 [6, 4, 0, 15, 16, 17, 18, 19, 0, 0] rfl (C := RX8) (Tt := TX8) (N := 10) rfl kX8_learn_1 tyX8 tyX8_ok nmX8 2 (by decide) rfl kX8_learn_0 rfl rfl rfl rfl dX8_learn_2 ?_
  refine zb_iconst X (0 : Int32) dX8_learn_5 (by decide) ?_
  refine zb_istore_n X (lv' := [(1, .int (0 : Int32)), (0, .ref (ad 12))]) dX8_learn_6 rfl (by decide) rfl ?_
  refine zb_sub [1, 0] rfl ?_
  exact hK7 (0 : Int32) (up2 al 12 2 (0 : Int32)) h
set_option maxRecDepth 20000 in
theorem tX8_learn_7 {G : zG} {Z : zC} {r : Bool} {ad ln : Nat → Nat} (X : zX G Z cX8_learn 3 RX8 wsX8_learn) (zc zs kc ks : Nat) (hkc : kc ≤ zc) (hks : ks ≤ zs) {K7 : Int32 → (Nat → Nat → Int32) → Prop} {K20 : Int32 → Int32 → (Nat → Nat → Int32) → Prop} {K34 : Int32 → Int32 → Int32 → Int32 → (Nat → Nat → Int32) → Prop} {post : (Nat → Nat → Int32) → Prop} (hR : zRv G Z (rmX8_learn zc zs) 3 (zTC r) ad ln cX8_learn post) (hK7 : ∀ x1 : Int32, ∀ al, K7 x1 al → zB G Z (rmX8_learn zc zs) 3 (zTC r) ad ln kc ks 7 [(0, .ref (ad 12)), (1, .int x1)] [] al) (hK20 : ∀ x1 x2 : Int32, ∀ al, K20 x1 x2 al → zB G Z (rmX8_learn zc zs) 3 (zTC r) ad ln kc ks 20 [(0, .ref (ad 12)), (1, .int x1), (2, .int x2)] [] al) (hK34 : ∀ x1 x2 s0 s1 : Int32, ∀ al, K34 x1 x2 s0 s1 al → zB G Z (rmX8_learn zc zs) 3 (zTC r) ad ln kc ks 34 [(0, .ref (ad 12)), (1, .int x1), (2, .int x2)] [.int s0, .int s1, .ref (ad 12)] al) (x1 : Int32) (al : Nat → Nat → Int32) (h : vcX8_learn_7 G r ad ln zc zs kc ks hkc hks K7 K20 K34 post x1 al) : zB G Z (rmX8_learn zc zs) 3 (zTC r) ad ln kc ks 7 [(0, .ref (ad 12)), (1, .int x1)] [] al := by
  unfold vcX8_learn_7 at h
  refine zb_iload_n X dX8_learn_7 rfl 1 rfl ?_
  refine zb_aload_n X dX8_learn_8 rfl 0 rfl ?_
  refine zb_getR X 12 (zTC_lt (by decide)) 8 [6, 4, 0, 15, 16, 17, 18, 19, 0, 0] rfl (C := RX8) (Tt := TX8) (N := 10) rfl kX8_learn_1 0 (by decide) 4 rfl kX8_learn_2 rfl dX8_learn_9 ?_
  refine zb_getI X 4 (zTC_lt (by decide)) 0 [7, 0, 8] rfl (C := RX0) (Tt := TX0) (N := 3) rfl kX8_learn_4 1 (by decide) rfl kX8_learn_3 rfl dX8_learn_12 (al 4 1) rfl ?_
  refine zb_icmp_ge X 49 dX8_learn_15 (by decide) (fun c1 => ?_) (fun c1 => ?_)
  · have h := h.1 c1
    refine zb_aload_n X dX8_learn_49 rfl 0 rfl ?_
    refine zb_aload_n X dX8_learn_50 rfl 0 rfl ?_
    refine zb_callVi (n := 0) X 12 (zTC_lt (by decide)) 8 [6, 4, 0, 15, 16, 17, 18, 19, 0, 0] rfl (C := RX8) (Tt := TX8) (N := 10) rfl h gX8_learn_X8_findLeastByUnits rfl (by decide +kernel) ⟨⟨Nat.le_of_ble_eq_true rfl, Nat.le_of_ble_eq_true rfl⟩, hkc, hks⟩ rfl rfl (Nat.le_of_ble_eq_true rfl) dX8_learn_51 (kc' := kc) (ks' := ks) rfl rfl (fun q2 a2 h => ?_)
    refine zb_putI X 12 (zTC_lt (by decide)) 8 [6, 4, 0, 15, 16, 17, 18, 19, 0, 0] rfl (C := RX8) (Tt := TX8) (N := 10) rfl kX8_learn_1 tyX8 tyX8_ok nmX8 8 (by decide) rfl kX8_learn_5 rfl rfl rfl rfl dX8_learn_54 ?_
    refine zb_aload_n X dX8_learn_57 rfl 0 rfl ?_
    refine zb_aload_n X dX8_learn_58 rfl 0 rfl ?_
    refine zb_callVi (n := 0) X 12 (zTC_lt (by decide)) 8 [6, 4, 0, 15, 16, 17, 18, 19, 0, 0] rfl (C := RX8) (Tt := TX8) (N := 10) rfl h gX8_learn_X8_findLeastByCircles rfl (by decide +kernel) ⟨⟨Nat.le_of_ble_eq_true rfl, Nat.le_of_ble_eq_true rfl⟩, hkc, hks⟩ rfl rfl (Nat.le_of_ble_eq_true rfl) dX8_learn_59 (kc' := kc) (ks' := ks) rfl rfl (fun q3 a3 h => ?_)
    refine zb_putI X 12 (zTC_lt (by decide)) 8 [6, 4, 0, 15, 16, 17, 18, 19, 0, 0] rfl (C := RX8) (Tt := TX8) (N := 10) rfl kX8_learn_1 tyX8 tyX8_ok nmX8 9 (by decide) rfl kX8_learn_6 rfl rfl rfl rfl dX8_learn_62 ?_
    exact zb_widen hkc hks (hR 65 _ _ dX8_learn_65 h)
  · have h := h.2 c1
    refine zb_iconst X (0 : Int32) dX8_learn_18 (by decide) ?_
    refine zb_istore_n X (lv' := [(2, .int (0 : Int32)), (0, .ref (ad 12)), (1, .int x1)]) dX8_learn_19 rfl (by decide) rfl ?_
    refine zb_sub [1, 2, 0] rfl ?_
    exact hK20 x1 (0 : Int32) al h
set_option maxRecDepth 20000 in
theorem tX8_learn_20 {G : zG} {Z : zC} {r : Bool} {ad ln : Nat → Nat} (X : zX G Z cX8_learn 3 RX8 wsX8_learn) (zc zs kc ks : Nat) (hkc : kc ≤ zc) (hks : ks ≤ zs) {K7 : Int32 → (Nat → Nat → Int32) → Prop} {K20 : Int32 → Int32 → (Nat → Nat → Int32) → Prop} {K34 : Int32 → Int32 → Int32 → Int32 → (Nat → Nat → Int32) → Prop} {post : (Nat → Nat → Int32) → Prop} (hR : zRv G Z (rmX8_learn zc zs) 3 (zTC r) ad ln cX8_learn post) (hK7 : ∀ x1 : Int32, ∀ al, K7 x1 al → zB G Z (rmX8_learn zc zs) 3 (zTC r) ad ln kc ks 7 [(0, .ref (ad 12)), (1, .int x1)] [] al) (hK20 : ∀ x1 x2 : Int32, ∀ al, K20 x1 x2 al → zB G Z (rmX8_learn zc zs) 3 (zTC r) ad ln kc ks 20 [(0, .ref (ad 12)), (1, .int x1), (2, .int x2)] [] al) (hK34 : ∀ x1 x2 s0 s1 : Int32, ∀ al, K34 x1 x2 s0 s1 al → zB G Z (rmX8_learn zc zs) 3 (zTC r) ad ln kc ks 34 [(0, .ref (ad 12)), (1, .int x1), (2, .int x2)] [.int s0, .int s1, .ref (ad 12)] al) (x1 x2 : Int32) (al : Nat → Nat → Int32) (h : vcX8_learn_20 G r ad ln zc zs kc ks hkc hks K7 K20 K34 post x1 x2 al) : zB G Z (rmX8_learn zc zs) 3 (zTC r) ad ln kc ks 20 [(0, .ref (ad 12)), (1, .int x1), (2, .int x2)] [] al := by
  unfold vcX8_learn_20 at h
  refine zb_iload_n X dX8_learn_20 rfl 2 rfl ?_
  refine zb_aload_n X dX8_learn_21 rfl 0 rfl ?_
  refine zb_getR X 12 (zTC_lt (by decide)) 8 [6, 4, 0, 15, 16, 17, 18, 19, 0, 0] rfl (C := RX8) (Tt := TX8) (N := 10) rfl kX8_learn_1 0 (by decide) 4 rfl kX8_learn_2 rfl dX8_learn_22 ?_
  refine zb_getI X 4 (zTC_lt (by decide)) 0 [7, 0, 8] rfl (C := RX0) (Tt := TX0) (N := 3) rfl kX8_learn_4 1 (by decide) rfl kX8_learn_3 rfl dX8_learn_25 (al 4 1) rfl ?_
  refine zb_icmp_ge X 43 dX8_learn_28 (by decide) (fun c1 => ?_) (fun c1 => ?_)
  · have h := h.1 c1
    refine zb_iinc X (lv' := [(1, .int (x1 + (1 : Int32))), (0, .ref (ad 12)), (2, .int x2)]) (x1 + (1 : Int32)) dX8_learn_43 1 rfl rfl (by decide) rfl ?_
    refine zb_goto X 7 dX8_learn_46 (by decide) ?_
    refine zb_sub [1, 0] rfl ?_
    exact hK7 (x1 + (1 : Int32)) al h
  · have h := h.2 c1
    refine zb_aload_n X dX8_learn_31 rfl 0 rfl ?_
    refine zb_iload_n X dX8_learn_32 rfl 1 rfl ?_
    refine zb_iload_n X dX8_learn_33 rfl 2 rfl ?_
    refine zb_sub [0, 1, 2] rfl ?_
    exact hK34 x1 x2 x2 x1 al h
theorem uX8_learn_0 {G : zG} {Z : zC} {r : Bool} {ad ln : Nat → Nat} (X : zX G Z cX8_learn 3 RX8 wsX8_learn) (zc zs kc ks : Nat) (hkc : kc ≤ zc) (hks : ks ≤ zs) {post : (Nat → Nat → Int32) → Prop} (hR : zRv G Z (rmX8_learn zc zs) 3 (zTC r) ad ln cX8_learn post) (al : Nat → Nat → Int32) (h : vcX8_learn_0 G r ad ln zc zs kc ks hkc hks (BX8_learn_7 G Z r ad ln zc zs kc ks hkc hks) (BX8_learn_20 G Z r ad ln zc zs kc ks hkc hks) (BX8_learn_34 G Z r ad ln zc zs kc ks hkc hks) post  al) : zB G Z (rmX8_learn zc zs) 3 (zTC r) ad ln kc ks 0 [(0, .ref (ad 12))] [] al := tX8_learn_0 X zc zs kc ks hkc hks hR (fun _ _ h => h) (fun _ _ _ h => h) (fun _ _ _ _ _ h => h)  al h
theorem uX8_learn_7 {G : zG} {Z : zC} {r : Bool} {ad ln : Nat → Nat} (X : zX G Z cX8_learn 3 RX8 wsX8_learn) (zc zs kc ks : Nat) (hkc : kc ≤ zc) (hks : ks ≤ zs) {post : (Nat → Nat → Int32) → Prop} (hR : zRv G Z (rmX8_learn zc zs) 3 (zTC r) ad ln cX8_learn post) (x1 : Int32) (al : Nat → Nat → Int32) (h : vcX8_learn_7 G r ad ln zc zs kc ks hkc hks (BX8_learn_7 G Z r ad ln zc zs kc ks hkc hks) (BX8_learn_20 G Z r ad ln zc zs kc ks hkc hks) (BX8_learn_34 G Z r ad ln zc zs kc ks hkc hks) post x1 al) : zB G Z (rmX8_learn zc zs) 3 (zTC r) ad ln kc ks 7 [(0, .ref (ad 12)), (1, .int x1)] [] al := tX8_learn_7 X zc zs kc ks hkc hks hR (fun _ _ h => h) (fun _ _ _ h => h) (fun _ _ _ _ _ h => h) x1 al h
theorem uX8_learn_20 {G : zG} {Z : zC} {r : Bool} {ad ln : Nat → Nat} (X : zX G Z cX8_learn 3 RX8 wsX8_learn) (zc zs kc ks : Nat) (hkc : kc ≤ zc) (hks : ks ≤ zs) {post : (Nat → Nat → Int32) → Prop} (hR : zRv G Z (rmX8_learn zc zs) 3 (zTC r) ad ln cX8_learn post) (x1 x2 : Int32) (al : Nat → Nat → Int32) (h : vcX8_learn_20 G r ad ln zc zs kc ks hkc hks (BX8_learn_7 G Z r ad ln zc zs kc ks hkc hks) (BX8_learn_20 G Z r ad ln zc zs kc ks hkc hks) (BX8_learn_34 G Z r ad ln zc zs kc ks hkc hks) post x1 x2 al) : zB G Z (rmX8_learn zc zs) 3 (zTC r) ad ln kc ks 20 [(0, .ref (ad 12)), (1, .int x1), (2, .int x2)] [] al := tX8_learn_20 X zc zs kc ks hkc hks hR (fun _ _ h => h) (fun _ _ _ h => h) (fun _ _ _ _ _ h => h) x1 x2 al h
