abbrev rmX5_isDigit : Room := { frames := 0, cells := 0, slots := 0, locals := 0 }
def vcX5_isDigit_17 (G : zG) (r : Bool) (ad ln : Nat → Nat) (p0 : Int32)  (post : Int32 → (Nat → Nat → Int32) → Prop) (s0 : Int32) (al : Nat → Nat → Int32) : Prop :=
  zOk .boolean s0 ∧ post s0 al
def vcX5_isDigit_16 (G : zG) (r : Bool) (ad ln : Nat → Nat) (p0 : Int32)  (post : Int32 → (Nat → Nat → Int32) → Prop) (al : Nat → Nat → Int32) : Prop :=
  vcX5_isDigit_17 G r ad ln p0  post (0 : Int32) al
def vcX5_isDigit_0 (G : zG) (r : Bool) (ad ln : Nat → Nat) (p0 : Int32)  (post : Int32 → (Nat → Nat → Int32) → Prop) (al : Nat → Nat → Int32) : Prop :=
  (p0 < (48 : Int32) → vcX5_isDigit_16 G r ad ln p0  post  al) ∧ (¬ p0 < (48 : Int32) → ((57 : Int32) < p0 → vcX5_isDigit_16 G r ad ln p0  post  al) ∧ (¬ (57 : Int32) < p0 → vcX5_isDigit_17 G r ad ln p0  post (1 : Int32) al))
set_option maxRecDepth 20000 in
theorem tX5_isDigit_17 {G : zG} {Z : zC} {r : Bool} {ad ln : Nat → Nat} (X : zX G Z cX5_isDigit 1 RX5 wsX5_isDigit) (p0 : Int32)  {post : Int32 → (Nat → Nat → Int32) → Prop} (hR : zRi G Z rmX5_isDigit 1 (zTC r) ad ln cX5_isDigit .boolean post)  (s0 : Int32) (al : Nat → Nat → Int32) (h : vcX5_isDigit_17 G r ad ln p0  post s0 al) : zB G Z rmX5_isDigit 1 (zTC r) ad ln 0 0 17 [] [.int s0] al := by
  unfold vcX5_isDigit_17 at h
  exact hR 17 _ _ _ dX5_isDigit_17 h.1 h.2
set_option maxRecDepth 20000 in
theorem tX5_isDigit_16 {G : zG} {Z : zC} {r : Bool} {ad ln : Nat → Nat} (X : zX G Z cX5_isDigit 1 RX5 wsX5_isDigit) (p0 : Int32)  {post : Int32 → (Nat → Nat → Int32) → Prop} (hR : zRi G Z rmX5_isDigit 1 (zTC r) ad ln cX5_isDigit .boolean post)  (al : Nat → Nat → Int32) (h : vcX5_isDigit_16 G r ad ln p0  post  al) : zB G Z rmX5_isDigit 1 (zTC r) ad ln 0 0 16 [] [] al := by
  unfold vcX5_isDigit_16 at h
  refine zb_iconst X (0 : Int32) dX5_isDigit_16 (by decide) ?_
  refine zb_sub [] rfl ?_
  exact tX5_isDigit_17 X p0 hR  (0 : Int32) al h
set_option maxRecDepth 20000 in
theorem tX5_isDigit_0 {G : zG} {Z : zC} {r : Bool} {ad ln : Nat → Nat} (X : zX G Z cX5_isDigit 1 RX5 wsX5_isDigit) (p0 : Int32)  {post : Int32 → (Nat → Nat → Int32) → Prop} (hR : zRi G Z rmX5_isDigit 1 (zTC r) ad ln cX5_isDigit .boolean post)  (al : Nat → Nat → Int32) (h : vcX5_isDigit_0 G r ad ln p0  post  al) : zB G Z rmX5_isDigit 1 (zTC r) ad ln 0 0 0 [(0, .int p0)] [] al := by
  unfold vcX5_isDigit_0 at h
  refine zb_iload_n X dX5_isDigit_0 rfl 0 rfl ?_
  refine zb_bipush X (48 : Int32) dX5_isDigit_1 (by decide) ?_
  refine zb_icmp_lt X 16 dX5_isDigit_3 (by decide) (fun c1 => ?_) (fun c1 => ?_)
  · have h := h.1 c1
    refine zb_sub [] rfl ?_
    exact tX5_isDigit_16 X p0 hR   al h
  · have h := h.2 c1
    refine zb_iload_n X dX5_isDigit_6 rfl 0 rfl ?_
    refine zb_bipush X (57 : Int32) dX5_isDigit_7 (by decide) ?_
    refine zb_icmp_gt X 16 dX5_isDigit_9 (by decide) (fun c2 => ?_) (fun c2 => ?_)
    · have h := h.1 c2
      refine zb_sub [] rfl ?_
      exact tX5_isDigit_16 X p0 hR   al h
    · have h := h.2 c2
      refine zb_iconst X (1 : Int32) dX5_isDigit_12 (by decide) ?_
      refine zb_goto X 17 dX5_isDigit_13 (by decide) ?_
      refine zb_sub [] rfl ?_
      exact tX5_isDigit_17 X p0 hR  (1 : Int32) al h

abbrev rmX5_byteAt : Room := { frames := 0, cells := 0, slots := 0, locals := 0 }
theorem kX5_byteAt_0 : Cond.fieldLink RX5 25 RX5 "length" "I" ∈ wsX5_byteAt := by decide +kernel
theorem kX5_byteAt_1 : zIn RX5 TX5 6 wsX5_byteAt := by decide +kernel
theorem kX5_byteAt_2 : Cond.fieldLink RX5 21 RX5 "tape" "[B" ∈ wsX5_byteAt := by decide +kernel
def vcX5_byteAt_35 (G : zG) (r : Bool) (ad ln : Nat → Nat) (p1 : Int32)  (post : Int32 → (Nat → Nat → Int32) → Prop) (s0 : Int32) (al : Nat → Nat → Int32) : Prop :=
  post s0 al
def vcX5_byteAt_34 (G : zG) (r : Bool) (ad ln : Nat → Nat) (p1 : Int32)  (post : Int32 → (Nat → Nat → Int32) → Prop) (al : Nat → Nat → Int32) : Prop :=
  vcX5_byteAt_35 G r ad ln p1  post (-1 : Int32) al
def vcX5_byteAt_0 (G : zG) (r : Bool) (ad ln : Nat → Nat) (p1 : Int32)  (post : Int32 → (Nat → Nat → Int32) → Prop) (al : Nat → Nat → Int32) : Prop :=
  (p1 < 0 → vcX5_byteAt_34 G r ad ln p1  post  al) ∧ (¬ p1 < 0 → ((al 8 1) ≤ p1 → vcX5_byteAt_34 G r ad ln p1  post  al) ∧ (¬ (al 8 1) ≤ p1 → ((nI 4096) ≤ p1 → vcX5_byteAt_34 G r ad ln p1  post  al) ∧ (¬ (nI 4096) ≤ p1 → (vp_in p1 4096 ∧ vcX5_byteAt_35 G r ad ln p1  post ((al 1 p1.toNatClampNeg) &&& (255 : Int32)) al))))
set_option maxRecDepth 20000 in
theorem tX5_byteAt_35 {G : zG} {Z : zC} {r : Bool} {ad ln : Nat → Nat} (X : zX G Z cX5_byteAt 2 RX5 wsX5_byteAt) (p1 : Int32)  {post : Int32 → (Nat → Nat → Int32) → Prop} (hR : zRi G Z rmX5_byteAt 2 (zTC r) ad ln cX5_byteAt .int post)  (s0 : Int32) (al : Nat → Nat → Int32) (h : vcX5_byteAt_35 G r ad ln p1  post s0 al) : zB G Z rmX5_byteAt 2 (zTC r) ad ln 0 0 35 [] [.int s0] al := by
  unfold vcX5_byteAt_35 at h
  exact hR 35 _ _ _ dX5_byteAt_35 rfl h
set_option maxRecDepth 20000 in
theorem tX5_byteAt_34 {G : zG} {Z : zC} {r : Bool} {ad ln : Nat → Nat} (X : zX G Z cX5_byteAt 2 RX5 wsX5_byteAt) (p1 : Int32)  {post : Int32 → (Nat → Nat → Int32) → Prop} (hR : zRi G Z rmX5_byteAt 2 (zTC r) ad ln cX5_byteAt .int post)  (al : Nat → Nat → Int32) (h : vcX5_byteAt_34 G r ad ln p1  post  al) : zB G Z rmX5_byteAt 2 (zTC r) ad ln 0 0 34 [] [] al := by
  unfold vcX5_byteAt_34 at h
  refine zb_iconst X (-1 : Int32) dX5_byteAt_34 (by decide) ?_
  refine zb_sub [] rfl ?_
  exact tX5_byteAt_35 X p1 hR  (-1 : Int32) al h
set_option maxRecDepth 20000 in
theorem tX5_byteAt_0 {G : zG} {Z : zC} {r : Bool} {ad ln : Nat → Nat} (X : zX G Z cX5_byteAt 2 RX5 wsX5_byteAt) (p1 : Int32)  {post : Int32 → (Nat → Nat → Int32) → Prop} (hR : zRi G Z rmX5_byteAt 2 (zTC r) ad ln cX5_byteAt .int post)  (al : Nat → Nat → Int32) (h : vcX5_byteAt_0 G r ad ln p1  post  al) : zB G Z rmX5_byteAt 2 (zTC r) ad ln 0 0 0 [(0, .ref (ad 8)), (1, .int p1)] [] al := by
  unfold vcX5_byteAt_0 at h
  refine zb_iload_n X dX5_byteAt_0 rfl 1 rfl ?_
  refine zb_if_lt X 34 dX5_byteAt_1 (by decide) (fun c1 => ?_) (fun c1 => ?_)
  · have h := h.1 c1
    refine zb_sub [] rfl ?_
    exact tX5_byteAt_34 X p1 hR   al h
  · have h := h.2 c1
    refine zb_iload_n X dX5_byteAt_4 rfl 1 rfl ?_
    refine zb_aload_n X dX5_byteAt_5 rfl 0 rfl ?_
    refine zb_getI X 8 (zTC_lt (by decide)) 5 [3, 0, 0, 11, 12, 13] rfl (C := RX5) (Tt := TX5) (N := 6) rfl kX5_byteAt_1 1 (by decide) rfl kX5_byteAt_0 rfl dX5_byteAt_6 (al 8 1) rfl ?_
    refine zb_icmp_ge X 34 dX5_byteAt_9 (by decide) (fun c2 => ?_) (fun c2 => ?_)
    · have h := h.1 c2
      refine zb_sub [] rfl ?_
      exact tX5_byteAt_34 X p1 hR   al h
    · have h := h.2 c2
      refine zb_iload_n X dX5_byteAt_12 rfl 1 rfl ?_
      refine zb_aload_n X dX5_byteAt_13 rfl 0 rfl ?_
      refine zb_getR X 8 (zTC_lt (by decide)) 5 [3, 0, 0, 11, 12, 13] rfl (C := RX5) (Tt := TX5) (N := 6) rfl kX5_byteAt_1 0 (by decide) 1 rfl kX5_byteAt_2 rfl dX5_byteAt_14 ?_
      refine zb_alenb X 1 (zTC_lt (by decide)) 4096 0 0 rfl dX5_byteAt_17 ?_
      refine zb_icmp_ge X 34 dX5_byteAt_18 (by decide) (fun c3 => ?_) (fun c3 => ?_)
      · have h := h.1 c3
        refine zb_sub [] rfl ?_
        exact tX5_byteAt_34 X p1 hR   al h
      · have h := h.2 c3
        refine zb_aload_n X dX5_byteAt_21 rfl 0 rfl ?_
        refine zb_getR X 8 (zTC_lt (by decide)) 5 [3, 0, 0, 11, 12, 13] rfl (C := RX5) (Tt := TX5) (N := 6) rfl kX5_byteAt_1 0 (by decide) 1 rfl kX5_byteAt_2 rfl dX5_byteAt_22 ?_
        refine zb_iload_n X dX5_byteAt_25 rfl 1 rfl ?_
        obtain ⟨hz, h⟩ := h
        refine zb_bald X 1 (zTC_lt (by decide)) 4096 0 0 rfl p1.toNatClampNeg rfl hz dX5_byteAt_26 (al 1 p1.toNatClampNeg) rfl ?_
        refine zb_sipush X (255 : Int32) dX5_byteAt_27 (by decide) ?_
        refine zb_iand X dX5_byteAt_30 ?_
        refine zb_goto X 35 dX5_byteAt_31 (by decide) ?_
        refine zb_sub [] rfl ?_
        exact tX5_byteAt_35 X p1 hR  ((al 1 p1.toNatClampNeg) &&& (255 : Int32)) al h

abbrev rmX5_pass : Room := { frames := 0, cells := 0, slots := 0, locals := 0 }
theorem kX5_pass_0 : Cond.fieldLink RX5 29 RX5 "at" "I" ∈ wsX5_pass := by decide +kernel
theorem kX5_pass_1 : zIn RX5 TX5 6 wsX5_pass := by decide +kernel
def vcX5_pass_0 (G : zG) (r : Bool) (ad ln : Nat → Nat) (p1 : Int32) (p2 : Int32)  (post : Int32 → (Nat → Nat → Int32) → Prop) (al : Nat → Nat → Int32) : Prop :=
  post p2 (up2 al 8 2 ((al 8 2) + p1))
set_option maxRecDepth 20000 in
theorem tX5_pass_0 {G : zG} {Z : zC} {r : Bool} {ad ln : Nat → Nat} (X : zX G Z cX5_pass 3 RX5 wsX5_pass) (p1 : Int32) (p2 : Int32)  {post : Int32 → (Nat → Nat → Int32) → Prop} (hR : zRi G Z rmX5_pass 3 (zTC r) ad ln cX5_pass .int post)  (al : Nat → Nat → Int32) (h : vcX5_pass_0 G r ad ln p1 p2  post  al) : zB G Z rmX5_pass 3 (zTC r) ad ln 0 0 0 [(0, .ref (ad 8)), (1, .int p1), (2, .int p2)] [] al := by
  unfold vcX5_pass_0 at h
  refine zb_aload_n X dX5_pass_0 rfl 0 rfl ?_
  refine zb_dup X dX5_pass_1 rfl ?_
  refine zb_getI X 8 (zTC_lt (by decide)) 5 [3, 0, 0, 11, 12, 13] rfl (C := RX5) (Tt := TX5) (N := 6) rfl kX5_pass_1 2 (by decide) rfl kX5_pass_0 rfl dX5_pass_2 (al 8 2) rfl ?_
  refine zb_iload_n X dX5_pass_5 rfl 1 rfl ?_
  refine zb_iadd X dX5_pass_6 ?_
  refine zb_putI X 8 (zTC_lt (by decide)) 5 [3, 0, 0, 11, 12, 13] rfl (C := RX5) (Tt := TX5) (N := 6) rfl kX5_pass_1 tyX5 tyX5_ok nmX5 2 (by decide) rfl kX5_pass_0 rfl rfl rfl rfl dX5_pass_7 ?_
  refine zb_iload_n X dX5_pass_10 rfl 2 rfl ?_
  exact hR 11 _ _ _ dX5_pass_11 rfl h

abbrev rmX5_cutNumber : Room := { frames := 1, cells := 0, slots := 0, locals := 21 }
theorem kX5_cutNumber_0 : Cond.fieldLink RX5 29 RX5 "at" "I" ∈ wsX5_cutNumber := by decide +kernel
theorem kX5_cutNumber_1 : zIn RX5 TX5 6 wsX5_cutNumber := by decide +kernel
theorem kX5_cutNumber_2 : Cond.fieldLink RX5 25 RX5 "length" "I" ∈ wsX5_cutNumber := by decide +kernel
theorem kX5_cutNumber_3 : Cond.methodLink RX5 59 Lib.Math.min.name ∈ wsX5_cutNumber := by decide +kernel
theorem kX5_cutNumber_4 : Cond.static Lib.Math.min.name ∈ wsX5_cutNumber := by decide +kernel
theorem kX5_cutNumber_5 : Cond.initialized "java/lang/Math" ∈ wsX5_cutNumber := by decide +kernel
theorem kX5_cutNumber_6 : Cond.code Lib.Math.min.name Lib.Math.min.code 2 (some .int) ∈ wsX5_cutNumber := by decide +kernel
theorem kX5_cutNumber_7 : Cond.fieldLink RX5 18 RX5 "value" "[I" ∈ wsX5_cutNumber := by decide +kernel
abbrev BX5_cutNumber_2 (G : zG) (Z : zC) (r : Bool) (ad ln : Nat → Nat) (p1 : Int32) (x2 : Int32) (al : Nat → Nat → Int32) : Prop := zB G Z rmX5_cutNumber 3 (zTC r) ad ln 0 0 2 [(0, .ref (ad 8)), (1, .int p1), (2, .int x2)] [] al
def vcX5_cutNumber_0 (G : zG) (r : Bool) (ad ln : Nat → Nat) (p1 : Int32) (K2 : Int32 → (Nat → Nat → Int32) → Prop) (post : Int32 → (Nat → Nat → Int32) → Prop) (al : Nat → Nat → Int32) : Prop :=
  K2 (0 : Int32) al
def vcX5_cutNumber_84 (G : zG) (r : Bool) (ad ln : Nat → Nat) (p1 : Int32) (K2 : Int32 → (Nat → Nat → Int32) → Prop) (post : Int32 → (Nat → Nat → Int32) → Prop) (s0 : Int32) (al : Nat → Nat → Int32) : Prop :=
  post s0 al
def vcX5_cutNumber_63 (G : zG) (r : Bool) (ad ln : Nat → Nat) (p1 : Int32) (K2 : Int32 → (Nat → Nat → Int32) → Prop) (post : Int32 → (Nat → Nat → Int32) → Prop) (x2 : Int32) (al : Nat → Nat → Int32) : Prop :=
  (vp_in p1 577 ∧ (x2 ≤ (1000 : Int32) → vcX5_cutNumber_84 G r ad ln p1 K2 post (48 : Int32) (up2 al 11 p1.toNatClampNeg x2)) ∧ (¬ x2 ≤ (1000 : Int32) → vcX5_cutNumber_84 G r ad ln p1 K2 post (-2 : Int32) (up2 al 11 p1.toNatClampNeg x2)))
def vcX5_cutNumber_2 (G : zG) (r : Bool) (ad ln : Nat → Nat) (p1 : Int32) (K2 : Int32 → (Nat → Nat → Int32) → Prop) (post : Int32 → (Nat → Nat → Int32) → Prop) (x2 : Int32) (al : Nat → Nat → Int32) : Prop :=
  ((al 8 1) ≤ (al 8 2) → vcX5_cutNumber_63 G r ad ln p1 K2 post x2 al) ∧ (¬ (al 8 1) ≤ (al 8 2) → zMi G yX5_byteAt wsX5_byteAt rmX5_byteAt (zTC r) ad ln [.ref (ad 8), .int (al 8 2)] al (fun q2 a2 => zMi G yX5_isDigit wsX5_isDigit rmX5_isDigit (zTC r) ad ln [.int q2] a2 (fun q3 a3 => (q3 = 0 → vcX5_cutNumber_63 G r ad ln p1 K2 post x2 a3) ∧ (¬ q3 = 0 → zMi G yX5_byteAt wsX5_byteAt rmX5_byteAt (zTC r) ad ln [.ref (ad 8), .int (a3 8 2)] a3 (fun q5 a5 => K2 (if (1001 : Int32) < (((x2 * (10 : Int32)) + q5) - (48 : Int32)) then (1001 : Int32) else (((x2 * (10 : Int32)) + q5) - (48 : Int32))) (up2 a5 8 2 ((a5 8 2) + (1 : Int32))))))))
set_option maxRecDepth 20000 in
theorem tX5_cutNumber_0 {G : zG} {Z : zC} {r : Bool} {ad ln : Nat → Nat} (X : zX G Z cX5_cutNumber 3 RX5 wsX5_cutNumber) (p1 : Int32) {K2 : Int32 → (Nat → Nat → Int32) → Prop} {post : Int32 → (Nat → Nat → Int32) → Prop} (hR : zRi G Z rmX5_cutNumber 3 (zTC r) ad ln cX5_cutNumber .int post) (hK2 : ∀ x2 : Int32, ∀ al, K2 x2 al → zB G Z rmX5_cutNumber 3 (zTC r) ad ln 0 0 2 [(0, .ref (ad 8)), (1, .int p1), (2, .int x2)] [] al) (al : Nat → Nat → Int32) (h : vcX5_cutNumber_0 G r ad ln p1 K2 post  al) : zB G Z rmX5_cutNumber 3 (zTC r) ad ln 0 0 0 [(0, .ref (ad 8)), (1, .int p1)] [] al := by
  unfold vcX5_cutNumber_0 at h
  refine zb_iconst X (0 : Int32) dX5_cutNumber_0 (by decide) ?_
  refine zb_istore_n X (lv' := [(2, .int (0 : Int32)), (0, .ref (ad 8)), (1, .int p1)]) dX5_cutNumber_1 rfl (by decide) rfl ?_
  refine zb_sub [1, 2, 0] rfl ?_
  exact hK2 (0 : Int32) al h
set_option maxRecDepth 20000 in
theorem tX5_cutNumber_84 {G : zG} {Z : zC} {r : Bool} {ad ln : Nat → Nat} (X : zX G Z cX5_cutNumber 3 RX5 wsX5_cutNumber) (p1 : Int32) {K2 : Int32 → (Nat → Nat → Int32) → Prop} {post : Int32 → (Nat → Nat → Int32) → Prop} (hR : zRi G Z rmX5_cutNumber 3 (zTC r) ad ln cX5_cutNumber .int post) (hK2 : ∀ x2 : Int32, ∀ al, K2 x2 al → zB G Z rmX5_cutNumber 3 (zTC r) ad ln 0 0 2 [(0, .ref (ad 8)), (1, .int p1), (2, .int x2)] [] al) (s0 : Int32) (al : Nat → Nat → Int32) (h : vcX5_cutNumber_84 G r ad ln p1 K2 post s0 al) : zB G Z rmX5_cutNumber 3 (zTC r) ad ln 0 0 84 [] [.int s0] al := by
  unfold vcX5_cutNumber_84 at h
  exact hR 84 _ _ _ dX5_cutNumber_84 rfl h
set_option maxRecDepth 20000 in
theorem tX5_cutNumber_63 {G : zG} {Z : zC} {r : Bool} {ad ln : Nat → Nat} (X : zX G Z cX5_cutNumber 3 RX5 wsX5_cutNumber) (p1 : Int32) {K2 : Int32 → (Nat → Nat → Int32) → Prop} {post : Int32 → (Nat → Nat → Int32) → Prop} (hR : zRi G Z rmX5_cutNumber 3 (zTC r) ad ln cX5_cutNumber .int post) (hK2 : ∀ x2 : Int32, ∀ al, K2 x2 al → zB G Z rmX5_cutNumber 3 (zTC r) ad ln 0 0 2 [(0, .ref (ad 8)), (1, .int p1), (2, .int x2)] [] al) (x2 : Int32) (al : Nat → Nat → Int32) (h : vcX5_cutNumber_63 G r ad ln p1 K2 post x2 al) : zB G Z rmX5_cutNumber 3 (zTC r) ad ln 0 0 63 [(0, .ref (ad 8)), (1, .int p1), (2, .int x2)] [] al := by
  unfold vcX5_cutNumber_63 at h
  refine zb_aload_n X dX5_cutNumber_63 rfl 0 rfl ?_
  refine zb_getR X 8 (zTC_lt (by decide)) 5 [3, 0, 0, 11, 12, 13] rfl (C := RX5) (Tt := TX5) (N := 6) rfl kX5_cutNumber_1 5 (by decide) 11 rfl kX5_cutNumber_7 rfl dX5_cutNumber_64 ?_
  refine zb_iload_n X dX5_cutNumber_67 rfl 1 rfl ?_
  refine zb_iload_n X dX5_cutNumber_68 rfl 2 rfl ?_
  obtain ⟨hz, h⟩ := h
  refine zb_iast X 11 (zTC_lt (by decide)) 1 577 0 0 rfl (Or.inl rfl) p1.toNatClampNeg rfl hz dX5_cutNumber_69 ?_
  refine zb_iload_n X dX5_cutNumber_70 rfl 2 rfl ?_
  refine zb_sipush X (1000 : Int32) dX5_cutNumber_71 (by decide) ?_
  refine zb_icmp_le X 82 dX5_cutNumber_74 (by decide) (fun c1 => ?_) (fun c1 => ?_)
  · have h := h.1 c1
    refine zb_bipush X (48 : Int32) dX5_cutNumber_82 (by decide) ?_
    refine zb_sub [] rfl ?_
    exact tX5_cutNumber_84 X p1 hR hK2 (48 : Int32) (up2 al 11 p1.toNatClampNeg x2) h
  · have h := h.2 c1
    refine zb_bipush X (-2 : Int32) dX5_cutNumber_77 (by decide) ?_
    refine zb_goto X 84 dX5_cutNumber_79 (by decide) ?_
    refine zb_sub [] rfl ?_
    exact tX5_cutNumber_84 X p1 hR hK2 (-2 : Int32) (up2 al 11 p1.toNatClampNeg x2) h
set_option maxRecDepth 20000 in
theorem tX5_cutNumber_2 {G : zG} {Z : zC} {r : Bool} {ad ln : Nat → Nat} (X : zX G Z cX5_cutNumber 3 RX5 wsX5_cutNumber) (p1 : Int32) {K2 : Int32 → (Nat → Nat → Int32) → Prop} {post : Int32 → (Nat → Nat → Int32) → Prop} (hR : zRi G Z rmX5_cutNumber 3 (zTC r) ad ln cX5_cutNumber .int post) (hK2 : ∀ x2 : Int32, ∀ al, K2 x2 al → zB G Z rmX5_cutNumber 3 (zTC r) ad ln 0 0 2 [(0, .ref (ad 8)), (1, .int p1), (2, .int x2)] [] al) (x2 : Int32) (al : Nat → Nat → Int32) (h : vcX5_cutNumber_2 G r ad ln p1 K2 post x2 al) : zB G Z rmX5_cutNumber 3 (zTC r) ad ln 0 0 2 [(0, .ref (ad 8)), (1, .int p1), (2, .int x2)] [] al := by
  unfold vcX5_cutNumber_2 at h
  refine zb_aload_n X dX5_cutNumber_2 rfl 0 rfl ?_
  refine zb_getI X 8 (zTC_lt (by decide)) 5 [3, 0, 0, 11, 12, 13] rfl (C := RX5) (Tt := TX5) (N := 6) rfl kX5_cutNumber_1 2 (by decide) rfl kX5_cutNumber_0 rfl dX5_cutNumber_3 (al 8 2) rfl ?_
  refine zb_aload_n X dX5_cutNumber_6 rfl 0 rfl ?_
  refine zb_getI X 8 (zTC_lt (by decide)) 5 [3, 0, 0, 11, 12, 13] rfl (C := RX5) (Tt := TX5) (N := 6) rfl kX5_cutNumber_1 1 (by decide) rfl kX5_cutNumber_2 rfl dX5_cutNumber_7 (al 8 1) rfl ?_
  refine zb_icmp_ge X 63 dX5_cutNumber_10 (by decide) (fun c1 => ?_) (fun c1 => ?_)
  · have h := h.1 c1
    refine zb_sub [0, 1, 2] rfl ?_
    exact tX5_cutNumber_63 X p1 hR hK2 x2 al h
  · have h := h.2 c1
    refine zb_aload_n X dX5_cutNumber_13 rfl 0 rfl ?_
    refine zb_aload_n X dX5_cutNumber_14 rfl 0 rfl ?_
    refine zb_getI X 8 (zTC_lt (by decide)) 5 [3, 0, 0, 11, 12, 13] rfl (C := RX5) (Tt := TX5) (N := 6) rfl kX5_cutNumber_1 2 (by decide) rfl kX5_cutNumber_0 rfl dX5_cutNumber_15 (al 8 2) rfl ?_
    refine zb_callVi (n := 1) X 8 (zTC_lt (by decide)) 5 [3, 0, 0, 11, 12, 13] rfl (C := RX5) (Tt := TX5) (N := 6) rfl h gX5_cutNumber_X5_byteAt rfl (by decide +kernel) (by decide) rfl rfl (Nat.le_of_ble_eq_true rfl) dX5_cutNumber_18 (kc' := 0) (ks' := 0) rfl rfl (fun q2 a2 h => ?_)
    refine zb_callSi (n := 1) X h gX5_cutNumber_X5_isDigit rfl (by decide +kernel) (by decide) rfl rfl (Nat.le_of_ble_eq_true rfl) dX5_cutNumber_21 (kc' := 0) (ks' := 0) rfl rfl (fun q3 a3 h => ?_)
    refine zb_if_eq X 63 dX5_cutNumber_24 (by decide) (fun c4 => ?_) (fun c4 => ?_)
    · have h := h.1 c4
      refine zb_sub [0, 1, 2] rfl ?_
      exact tX5_cutNumber_63 X p1 hR hK2 x2 a3 h
    · have h := h.2 c4
      refine zb_iload_n X dX5_cutNumber_27 rfl 2 rfl ?_
      refine zb_bipush X (10 : Int32) dX5_cutNumber_28 (by decide) ?_
      refine zb_imul X dX5_cutNumber_30 ?_
      refine zb_aload_n X dX5_cutNumber_31 rfl 0 rfl ?_
      refine zb_aload_n X dX5_cutNumber_32 rfl 0 rfl ?_
      refine zb_getI X 8 (zTC_lt (by decide)) 5 [3, 0, 0, 11, 12, 13] rfl (C := RX5) (Tt := TX5) (N := 6) rfl kX5_cutNumber_1 2 (by decide) rfl kX5_cutNumber_0 rfl dX5_cutNumber_33 (a3 8 2) rfl ?_
      refine zb_callVi (n := 1) X 8 (zTC_lt (by decide)) 5 [3, 0, 0, 11, 12, 13] rfl (C := RX5) (Tt := TX5) (N := 6) rfl h gX5_cutNumber_X5_byteAt rfl (by decide +kernel) (by decide) rfl rfl (Nat.le_of_ble_eq_true rfl) dX5_cutNumber_36 (kc' := 0) (ks' := 0) rfl rfl (fun q5 a5 h => ?_)
      refine zb_iadd X dX5_cutNumber_39 ?_
      refine zb_bipush X (48 : Int32) dX5_cutNumber_40 (by decide) ?_
      refine zb_isub X dX5_cutNumber_42 ?_
      refine zb_sipush X (1001 : Int32) dX5_cutNumber_43 (by decide) ?_
      refine zb_mmin X kX5_cutNumber_3 kX5_cutNumber_4 kX5_cutNumber_5 kX5_cutNumber_6 ⟨⟨Nat.le_of_ble_eq_true rfl, Nat.le_of_ble_eq_true rfl⟩, Nat.le_of_ble_eq_true rfl, Nat.le_of_ble_eq_true rfl⟩ dX5_cutNumber_46 ?_
      refine zb_istore_n X (lv' := [(2, .int (if (1001 : Int32) < (((x2 * (10 : Int32)) + q5) - (48 : Int32)) then (1001 : Int32) else (((x2 * (10 : Int32)) + q5) - (48 : Int32)))), (0, .ref (ad 8)), (1, .int p1)]) dX5_cutNumber_49 rfl (by decide) rfl ?_
      refine zb_aload_n X dX5_cutNumber_50 rfl 1 rfl ?_
      refine zb_dup X dX5_cutNumber_51 rfl ?_
      refine zb_getI X 8 (zTC_lt (by decide)) 5 [3, 0, 0, 11, 12, 13] rfl (C := RX5) (Tt := TX5) (N := 6) rfl kX5_cutNumber_1 2 (by decide) rfl kX5_cutNumber_0 rfl dX5_cutNumber_52 (a5 8 2) rfl ?_
      refine zb_iconst X (1 : Int32) dX5_cutNumber_55 (by decide) ?_
      refine zb_iadd X dX5_cutNumber_56 ?_
      refine zb_putI X 8 (zTC_lt (by decide)) 5 [3, 0, 0, 11, 12, 13] rfl (C := RX5) (Tt := TX5) (N := 6) rfl kX5_cutNumber_1 tyX5 tyX5_ok nmX5 2 (by decide) rfl kX5_cutNumber_0 rfl rfl rfl rfl dX5_cutNumber_57 ?_
      refine zb_goto X 2 dX5_cutNumber_60 (by decide) ?_
      refine zb_sub [1, 2, 0] rfl ?_
      exact hK2 (if (1001 : Int32) < (((x2 * (10 : Int32)) + q5) - (48 : Int32)) then (1001 : Int32) else (((x2 * (10 : Int32)) + q5) - (48 : Int32))) (up2 a5 8 2 ((a5 8 2) + (1 : Int32))) h
theorem uX5_cutNumber_0 {G : zG} {Z : zC} {r : Bool} {ad ln : Nat → Nat} (X : zX G Z cX5_cutNumber 3 RX5 wsX5_cutNumber) (p1 : Int32) {post : Int32 → (Nat → Nat → Int32) → Prop} (hR : zRi G Z rmX5_cutNumber 3 (zTC r) ad ln cX5_cutNumber .int post) (al : Nat → Nat → Int32) (h : vcX5_cutNumber_0 G r ad ln p1 (BX5_cutNumber_2 G Z r ad ln p1) post  al) : zB G Z rmX5_cutNumber 3 (zTC r) ad ln 0 0 0 [(0, .ref (ad 8)), (1, .int p1)] [] al := tX5_cutNumber_0 X p1 hR (fun _ _ h => h)  al h
theorem uX5_cutNumber_84 {G : zG} {Z : zC} {r : Bool} {ad ln : Nat → Nat} (X : zX G Z cX5_cutNumber 3 RX5 wsX5_cutNumber) (p1 : Int32) {post : Int32 → (Nat → Nat → Int32) → Prop} (hR : zRi G Z rmX5_cutNumber 3 (zTC r) ad ln cX5_cutNumber .int post) (s0 : Int32) (al : Nat → Nat → Int32) (h : vcX5_cutNumber_84 G r ad ln p1 (BX5_cutNumber_2 G Z r ad ln p1) post s0 al) : zB G Z rmX5_cutNumber 3 (zTC r) ad ln 0 0 84 [] [.int s0] al := tX5_cutNumber_84 X p1 hR (fun _ _ h => h) s0 al h
theorem uX5_cutNumber_63 {G : zG} {Z : zC} {r : Bool} {ad ln : Nat → Nat} (X : zX G Z cX5_cutNumber 3 RX5 wsX5_cutNumber) (p1 : Int32) {post : Int32 → (Nat → Nat → Int32) → Prop} (hR : zRi G Z rmX5_cutNumber 3 (zTC r) ad ln cX5_cutNumber .int post) (x2 : Int32) (al : Nat → Nat → Int32) (h : vcX5_cutNumber_63 G r ad ln p1 (BX5_cutNumber_2 G Z r ad ln p1) post x2 al) : zB G Z rmX5_cutNumber 3 (zTC r) ad ln 0 0 63 [(0, .ref (ad 8)), (1, .int p1), (2, .int x2)] [] al := tX5_cutNumber_63 X p1 hR (fun _ _ h => h) x2 al h
theorem uX5_cutNumber_2 {G : zG} {Z : zC} {r : Bool} {ad ln : Nat → Nat} (X : zX G Z cX5_cutNumber 3 RX5 wsX5_cutNumber) (p1 : Int32) {post : Int32 → (Nat → Nat → Int32) → Prop} (hR : zRi G Z rmX5_cutNumber 3 (zTC r) ad ln cX5_cutNumber .int post) (x2 : Int32) (al : Nat → Nat → Int32) (h : vcX5_cutNumber_2 G r ad ln p1 (BX5_cutNumber_2 G Z r ad ln p1) post x2 al) : zB G Z rmX5_cutNumber 3 (zTC r) ad ln 0 0 2 [(0, .ref (ad 8)), (1, .int p1), (2, .int x2)] [] al := tX5_cutNumber_2 X p1 hR (fun _ _ h => h) x2 al h

abbrev rmX5_cutRegister : Room := { frames := 1, cells := 0, slots := 0, locals := 21 }
theorem kX5_cutRegister_0 : Cond.fieldLink RX5 29 RX5 "at" "I" ∈ wsX5_cutRegister := by decide +kernel
theorem kX5_cutRegister_1 : zIn RX5 TX5 6 wsX5_cutRegister := by decide +kernel
theorem kX5_cutRegister_2 : Cond.fieldLink RX5 18 RX5 "value" "[I" ∈ wsX5_cutRegister := by decide +kernel
abbrev BX5_cutRegister_14 (G : zG) (Z : zC) (r : Bool) (ad ln : Nat → Nat) (p1 : Int32) (x2 x3 : Int32) (al : Nat → Nat → Int32) : Prop := zB G Z rmX5_cutRegister 4 (zTC r) ad ln 0 0 14 [(0, .ref (ad 8)), (1, .int p1), (2, .int x2), (3, .int x3)] [] al
def vcX5_cutRegister_0 (G : zG) (r : Bool) (ad ln : Nat → Nat) (p1 : Int32) (K14 : Int32 → Int32 → (Nat → Nat → Int32) → Prop) (post : Int32 → (Nat → Nat → Int32) → Prop) (al : Nat → Nat → Int32) : Prop :=
  K14 (0 : Int32) (0 : Int32) (up2 al 8 2 ((al 8 2) + (1 : Int32)))
def vcX5_cutRegister_90 (G : zG) (r : Bool) (ad ln : Nat → Nat) (p1 : Int32) (K14 : Int32 → Int32 → (Nat → Nat → Int32) → Prop) (post : Int32 → (Nat → Nat → Int32) → Prop) (s0 : Int32) (al : Nat → Nat → Int32) : Prop :=
  post s0 al
def vcX5_cutRegister_83 (G : zG) (r : Bool) (ad ln : Nat → Nat) (p1 : Int32) (K14 : Int32 → Int32 → (Nat → Nat → Int32) → Prop) (post : Int32 → (Nat → Nat → Int32) → Prop) (al : Nat → Nat → Int32) : Prop :=
  vcX5_cutRegister_90 G r ad ln p1 K14 post (-2 : Int32) al
def vcX5_cutRegister_66 (G : zG) (r : Bool) (ad ln : Nat → Nat) (p1 : Int32) (K14 : Int32 → Int32 → (Nat → Nat → Int32) → Prop) (post : Int32 → (Nat → Nat → Int32) → Prop) (x2 x3 : Int32) (al : Nat → Nat → Int32) : Prop :=
  (vp_in p1 577 ∧ (x2 = 0 → vcX5_cutRegister_83 G r ad ln p1 K14 post  (up2 al 11 p1.toNatClampNeg x3)) ∧ (¬ x2 = 0 → (x3 < (32 : Int32) → vcX5_cutRegister_90 G r ad ln p1 K14 post (114 : Int32) (up2 al 11 p1.toNatClampNeg x3)) ∧ (¬ x3 < (32 : Int32) → vcX5_cutRegister_83 G r ad ln p1 K14 post  (up2 al 11 p1.toNatClampNeg x3))))
def vcX5_cutRegister_14 (G : zG) (r : Bool) (ad ln : Nat → Nat) (p1 : Int32) (K14 : Int32 → Int32 → (Nat → Nat → Int32) → Prop) (post : Int32 → (Nat → Nat → Int32) → Prop) (x2 x3 : Int32) (al : Nat → Nat → Int32) : Prop :=
  ((2 : Int32) ≤ x2 → vcX5_cutRegister_66 G r ad ln p1 K14 post x2 x3 al) ∧ (¬ (2 : Int32) ≤ x2 → zMi G yX5_byteAt wsX5_byteAt rmX5_byteAt (zTC r) ad ln [.ref (ad 8), .int (al 8 2)] al (fun q2 a2 => zMi G yX5_isDigit wsX5_isDigit rmX5_isDigit (zTC r) ad ln [.int q2] a2 (fun q3 a3 => (q3 = 0 → vcX5_cutRegister_66 G r ad ln p1 K14 post x2 x3 a3) ∧ (¬ q3 = 0 → zMi G yX5_byteAt wsX5_byteAt rmX5_byteAt (zTC r) ad ln [.ref (ad 8), .int (a3 8 2)] a3 (fun q5 a5 => K14 (x2 + (1 : Int32)) (((x3 * (10 : Int32)) + q5) - (48 : Int32)) (up2 a5 8 2 ((a5 8 2) + (1 : Int32))))))))
set_option maxRecDepth 20000 in
theorem tX5_cutRegister_0 {G : zG} {Z : zC} {r : Bool} {ad ln : Nat → Nat} (X : zX G Z cX5_cutRegister 4 RX5 wsX5_cutRegister) (p1 : Int32) {K14 : Int32 → Int32 → (Nat → Nat → Int32) → Prop} {post : Int32 → (Nat → Nat → Int32) → Prop} (hR : zRi G Z rmX5_cutRegister 4 (zTC r) ad ln cX5_cutRegister .int post) (hK14 : ∀ x2 x3 : Int32, ∀ al, K14 x2 x3 al → zB G Z rmX5_cutRegister 4 (zTC r) ad ln 0 0 14 [(0, .ref (ad 8)), (1, .int p1), (2, .int x2), (3, .int x3)] [] al) (al : Nat → Nat → Int32) (h : vcX5_cutRegister_0 G r ad ln p1 K14 post  al) : zB G Z rmX5_cutRegister 4 (zTC r) ad ln 0 0 0 [(0, .ref (ad 8)), (1, .int p1)] [] al := by
  unfold vcX5_cutRegister_0 at h
  refine zb_aload_n X dX5_cutRegister_0 rfl 0 rfl ?_
  refine zb_dup X dX5_cutRegister_1 rfl ?_
  refine zb_getI X 8 (zTC_lt (by decide)) 5 [3, 0, 0, 11, 12, 13] rfl (C := RX5) (Tt := TX5) (N := 6) rfl kX5_cutRegister_1 2 (by decide) rfl kX5_cutRegister_0 rfl dX5_cutRegister_2 (al 8 2) rfl ?_
  refine zb_iconst X (1 : Int32) dX5_cutRegister_5 (by decide) ?_
  refine zb_iadd X dX5_cutRegister_6 ?_
  refine zb_putI X 8 (zTC_lt (by decide)) 5 [3, 0, 0, 11, 12, 13] rfl (C := RX5) (Tt := TX5) (N := 6) rfl kX5_cutRegister_1 tyX5 tyX5_ok nmX5 2 (by decide) rfl kX5_cutRegister_0 rfl rfl rfl rfl dX5_cutRegister_7 ?_
  refine zb_iconst X (0 : Int32) dX5_cutRegister_10 (by decide) ?_
  refine zb_istore_n X (lv' := [(2, .int (0 : Int32)), (0, .ref (ad 8)), (1, .int p1)]) dX5_cutRegister_11 rfl (by decide) rfl ?_
  refine zb_iconst X (0 : Int32) dX5_cutRegister_12 (by decide) ?_
  refine zb_istore_n X (lv' := [(3, .int (0 : Int32)), (2, .int (0 : Int32)), (0, .ref (ad 8)), (1, .int p1)]) dX5_cutRegister_13 rfl (by decide) rfl ?_
  refine zb_sub [2, 3, 1, 0] rfl ?_
  exact hK14 (0 : Int32) (0 : Int32) (up2 al 8 2 ((al 8 2) + (1 : Int32))) h
set_option maxRecDepth 20000 in
theorem tX5_cutRegister_90 {G : zG} {Z : zC} {r : Bool} {ad ln : Nat → Nat} (X : zX G Z cX5_cutRegister 4 RX5 wsX5_cutRegister) (p1 : Int32) {K14 : Int32 → Int32 → (Nat → Nat → Int32) → Prop} {post : Int32 → (Nat → Nat → Int32) → Prop} (hR : zRi G Z rmX5_cutRegister 4 (zTC r) ad ln cX5_cutRegister .int post) (hK14 : ∀ x2 x3 : Int32, ∀ al, K14 x2 x3 al → zB G Z rmX5_cutRegister 4 (zTC r) ad ln 0 0 14 [(0, .ref (ad 8)), (1, .int p1), (2, .int x2), (3, .int x3)] [] al) (s0 : Int32) (al : Nat → Nat → Int32) (h : vcX5_cutRegister_90 G r ad ln p1 K14 post s0 al) : zB G Z rmX5_cutRegister 4 (zTC r) ad ln 0 0 90 [] [.int s0] al := by
  unfold vcX5_cutRegister_90 at h
  exact hR 90 _ _ _ dX5_cutRegister_90 rfl h
set_option maxRecDepth 20000 in
theorem tX5_cutRegister_83 {G : zG} {Z : zC} {r : Bool} {ad ln : Nat → Nat} (X : zX G Z cX5_cutRegister 4 RX5 wsX5_cutRegister) (p1 : Int32) {K14 : Int32 → Int32 → (Nat → Nat → Int32) → Prop} {post : Int32 → (Nat → Nat → Int32) → Prop} (hR : zRi G Z rmX5_cutRegister 4 (zTC r) ad ln cX5_cutRegister .int post) (hK14 : ∀ x2 x3 : Int32, ∀ al, K14 x2 x3 al → zB G Z rmX5_cutRegister 4 (zTC r) ad ln 0 0 14 [(0, .ref (ad 8)), (1, .int p1), (2, .int x2), (3, .int x3)] [] al) (al : Nat → Nat → Int32) (h : vcX5_cutRegister_83 G r ad ln p1 K14 post  al) : zB G Z rmX5_cutRegister 4 (zTC r) ad ln 0 0 83 [] [] al := by
  unfold vcX5_cutRegister_83 at h
  refine zb_bipush X (-2 : Int32) dX5_cutRegister_83 (by decide) ?_
  refine zb_goto X 90 dX5_cutRegister_85 (by decide) ?_
  refine zb_sub [] rfl ?_
  exact tX5_cutRegister_90 X p1 hR hK14 (-2 : Int32) al h
set_option maxRecDepth 20000 in
theorem tX5_cutRegister_66 {G : zG} {Z : zC} {r : Bool} {ad ln : Nat → Nat} (X : zX G Z cX5_cutRegister 4 RX5 wsX5_cutRegister) (p1 : Int32) {K14 : Int32 → Int32 → (Nat → Nat → Int32) → Prop} {post : Int32 → (Nat → Nat → Int32) → Prop} (hR : zRi G Z rmX5_cutRegister 4 (zTC r) ad ln cX5_cutRegister .int post) (hK14 : ∀ x2 x3 : Int32, ∀ al, K14 x2 x3 al → zB G Z rmX5_cutRegister 4 (zTC r) ad ln 0 0 14 [(0, .ref (ad 8)), (1, .int p1), (2, .int x2), (3, .int x3)] [] al) (x2 x3 : Int32) (al : Nat → Nat → Int32) (h : vcX5_cutRegister_66 G r ad ln p1 K14 post x2 x3 al) : zB G Z rmX5_cutRegister 4 (zTC r) ad ln 0 0 66 [(0, .ref (ad 8)), (1, .int p1), (2, .int x2), (3, .int x3)] [] al := by
  unfold vcX5_cutRegister_66 at h
  refine zb_aload_n X dX5_cutRegister_66 rfl 0 rfl ?_
  refine zb_getR X 8 (zTC_lt (by decide)) 5 [3, 0, 0, 11, 12, 13] rfl (C := RX5) (Tt := TX5) (N := 6) rfl kX5_cutRegister_1 5 (by decide) 11 rfl kX5_cutRegister_2 rfl dX5_cutRegister_67 ?_
  refine zb_iload_n X dX5_cutRegister_70 rfl 1 rfl ?_
  refine zb_iload_n X dX5_cutRegister_71 rfl 3 rfl ?_
  obtain ⟨hz, h⟩ := h
  refine zb_iast X 11 (zTC_lt (by decide)) 1 577 0 0 rfl (Or.inl rfl) p1.toNatClampNeg rfl hz dX5_cutRegister_72 ?_
  refine zb_iload_n X dX5_cutRegister_73 rfl 2 rfl ?_
  refine zb_if_eq X 83 dX5_cutRegister_74 (by decide) (fun c1 => ?_) (fun c1 => ?_)
  · have h := h.1 c1
    refine zb_sub [] rfl ?_
    exact tX5_cutRegister_83 X p1 hR hK14  (up2 al 11 p1.toNatClampNeg x3) h
  · have h := h.2 c1
    refine zb_iload_n X dX5_cutRegister_77 rfl 3 rfl ?_
    refine zb_bipush X (32 : Int32) dX5_cutRegister_78 (by decide) ?_
    refine zb_icmp_lt X 88 dX5_cutRegister_80 (by decide) (fun c2 => ?_) (fun c2 => ?_)
    · have h := h.1 c2
      refine zb_bipush X (114 : Int32) dX5_cutRegister_88 (by decide) ?_
      refine zb_sub [] rfl ?_
      exact tX5_cutRegister_90 X p1 hR hK14 (114 : Int32) (up2 al 11 p1.toNatClampNeg x3) h
    · have h := h.2 c2
      refine zb_sub [] rfl ?_
      exact tX5_cutRegister_83 X p1 hR hK14  (up2 al 11 p1.toNatClampNeg x3) h
set_option maxRecDepth 20000 in
theorem tX5_cutRegister_14 {G : zG} {Z : zC} {r : Bool} {ad ln : Nat → Nat} (X : zX G Z cX5_cutRegister 4 RX5 wsX5_cutRegister) (p1 : Int32) {K14 : Int32 → Int32 → (Nat → Nat → Int32) → Prop} {post : Int32 → (Nat → Nat → Int32) → Prop} (hR : zRi G Z rmX5_cutRegister 4 (zTC r) ad ln cX5_cutRegister .int post) (hK14 : ∀ x2 x3 : Int32, ∀ al, K14 x2 x3 al → zB G Z rmX5_cutRegister 4 (zTC r) ad ln 0 0 14 [(0, .ref (ad 8)), (1, .int p1), (2, .int x2), (3, .int x3)] [] al) (x2 x3 : Int32) (al : Nat → Nat → Int32) (h : vcX5_cutRegister_14 G r ad ln p1 K14 post x2 x3 al) : zB G Z rmX5_cutRegister 4 (zTC r) ad ln 0 0 14 [(0, .ref (ad 8)), (1, .int p1), (2, .int x2), (3, .int x3)] [] al := by
  unfold vcX5_cutRegister_14 at h
  refine zb_iload_n X dX5_cutRegister_14 rfl 2 rfl ?_
  refine zb_iconst X (2 : Int32) dX5_cutRegister_15 (by decide) ?_
  refine zb_icmp_ge X 66 dX5_cutRegister_16 (by decide) (fun c1 => ?_) (fun c1 => ?_)
  · have h := h.1 c1
    refine zb_sub [0, 1, 2, 3] rfl ?_
    exact tX5_cutRegister_66 X p1 hR hK14 x2 x3 al h
  · have h := h.2 c1
    refine zb_aload_n X dX5_cutRegister_19 rfl 0 rfl ?_
    refine zb_aload_n X dX5_cutRegister_20 rfl 0 rfl ?_
    refine zb_getI X 8 (zTC_lt (by decide)) 5 [3, 0, 0, 11, 12, 13] rfl (C := RX5) (Tt := TX5) (N := 6) rfl kX5_cutRegister_1 2 (by decide) rfl kX5_cutRegister_0 rfl dX5_cutRegister_21 (al 8 2) rfl ?_
    refine zb_callVi (n := 1) X 8 (zTC_lt (by decide)) 5 [3, 0, 0, 11, 12, 13] rfl (C := RX5) (Tt := TX5) (N := 6) rfl h gX5_cutRegister_X5_byteAt rfl (by decide +kernel) (by decide) rfl rfl (Nat.le_of_ble_eq_true rfl) dX5_cutRegister_24 (kc' := 0) (ks' := 0) rfl rfl (fun q2 a2 h => ?_)
    refine zb_callSi (n := 1) X h gX5_cutRegister_X5_isDigit rfl (by decide +kernel) (by decide) rfl rfl (Nat.le_of_ble_eq_true rfl) dX5_cutRegister_27 (kc' := 0) (ks' := 0) rfl rfl (fun q3 a3 h => ?_)
    refine zb_if_eq X 66 dX5_cutRegister_30 (by decide) (fun c4 => ?_) (fun c4 => ?_)
    · have h := h.1 c4
      refine zb_sub [0, 1, 2, 3] rfl ?_
      exact tX5_cutRegister_66 X p1 hR hK14 x2 x3 a3 h
    · have h := h.2 c4
      refine zb_iload_n X dX5_cutRegister_33 rfl 3 rfl ?_
      refine zb_bipush X (10 : Int32) dX5_cutRegister_34 (by decide) ?_
      refine zb_imul X dX5_cutRegister_36 ?_
      refine zb_aload_n X dX5_cutRegister_37 rfl 0 rfl ?_
      refine zb_aload_n X dX5_cutRegister_38 rfl 0 rfl ?_
      refine zb_getI X 8 (zTC_lt (by decide)) 5 [3, 0, 0, 11, 12, 13] rfl (C := RX5) (Tt := TX5) (N := 6) rfl kX5_cutRegister_1 2 (by decide) rfl kX5_cutRegister_0 rfl dX5_cutRegister_39 (a3 8 2) rfl ?_
      refine zb_callVi (n := 1) X 8 (zTC_lt (by decide)) 5 [3, 0, 0, 11, 12, 13] rfl (C := RX5) (Tt := TX5) (N := 6) rfl h gX5_cutRegister_X5_byteAt rfl (by decide +kernel) (by decide) rfl rfl (Nat.le_of_ble_eq_true rfl) dX5_cutRegister_42 (kc' := 0) (ks' := 0) rfl rfl (fun q5 a5 h => ?_)
      refine zb_iadd X dX5_cutRegister_45 ?_
      refine zb_bipush X (48 : Int32) dX5_cutRegister_46 (by decide) ?_
      refine zb_isub X dX5_cutRegister_48 ?_
      refine zb_istore_n X (lv' := [(3, .int (((x3 * (10 : Int32)) + q5) - (48 : Int32))), (0, .ref (ad 8)), (1, .int p1), (2, .int x2)]) dX5_cutRegister_49 rfl (by decide) rfl ?_
      refine zb_iinc X (lv' := [(2, .int (x2 + (1 : Int32))), (3, .int (((x3 * (10 : Int32)) + q5) - (48 : Int32))), (0, .ref (ad 8)), (1, .int p1)]) (x2 + (1 : Int32)) dX5_cutRegister_50 3 rfl rfl (by decide) rfl ?_
      refine zb_aload_n X dX5_cutRegister_53 rfl 2 rfl ?_
      refine zb_dup X dX5_cutRegister_54 rfl ?_
      refine zb_getI X 8 (zTC_lt (by decide)) 5 [3, 0, 0, 11, 12, 13] rfl (C := RX5) (Tt := TX5) (N := 6) rfl kX5_cutRegister_1 2 (by decide) rfl kX5_cutRegister_0 rfl dX5_cutRegister_55 (a5 8 2) rfl ?_
      refine zb_iconst X (1 : Int32) dX5_cutRegister_58 (by decide) ?_
      refine zb_iadd X dX5_cutRegister_59 ?_
      refine zb_putI X 8 (zTC_lt (by decide)) 5 [3, 0, 0, 11, 12, 13] rfl (C := RX5) (Tt := TX5) (N := 6) rfl kX5_cutRegister_1 tyX5 tyX5_ok nmX5 2 (by decide) rfl kX5_cutRegister_0 rfl rfl rfl rfl dX5_cutRegister_60 ?_
      refine zb_goto X 14 dX5_cutRegister_63 (by decide) ?_
      refine zb_sub [2, 3, 0, 1] rfl ?_
      exact hK14 (x2 + (1 : Int32)) (((x3 * (10 : Int32)) + q5) - (48 : Int32)) (up2 a5 8 2 ((a5 8 2) + (1 : Int32))) h
theorem uX5_cutRegister_0 {G : zG} {Z : zC} {r : Bool} {ad ln : Nat → Nat} (X : zX G Z cX5_cutRegister 4 RX5 wsX5_cutRegister) (p1 : Int32) {post : Int32 → (Nat → Nat → Int32) → Prop} (hR : zRi G Z rmX5_cutRegister 4 (zTC r) ad ln cX5_cutRegister .int post) (al : Nat → Nat → Int32) (h : vcX5_cutRegister_0 G r ad ln p1 (BX5_cutRegister_14 G Z r ad ln p1) post  al) : zB G Z rmX5_cutRegister 4 (zTC r) ad ln 0 0 0 [(0, .ref (ad 8)), (1, .int p1)] [] al := tX5_cutRegister_0 X p1 hR (fun _ _ _ h => h)  al h
theorem uX5_cutRegister_90 {G : zG} {Z : zC} {r : Bool} {ad ln : Nat → Nat} (X : zX G Z cX5_cutRegister 4 RX5 wsX5_cutRegister) (p1 : Int32) {post : Int32 → (Nat → Nat → Int32) → Prop} (hR : zRi G Z rmX5_cutRegister 4 (zTC r) ad ln cX5_cutRegister .int post) (s0 : Int32) (al : Nat → Nat → Int32) (h : vcX5_cutRegister_90 G r ad ln p1 (BX5_cutRegister_14 G Z r ad ln p1) post s0 al) : zB G Z rmX5_cutRegister 4 (zTC r) ad ln 0 0 90 [] [.int s0] al := tX5_cutRegister_90 X p1 hR (fun _ _ _ h => h) s0 al h
theorem uX5_cutRegister_83 {G : zG} {Z : zC} {r : Bool} {ad ln : Nat → Nat} (X : zX G Z cX5_cutRegister 4 RX5 wsX5_cutRegister) (p1 : Int32) {post : Int32 → (Nat → Nat → Int32) → Prop} (hR : zRi G Z rmX5_cutRegister 4 (zTC r) ad ln cX5_cutRegister .int post) (al : Nat → Nat → Int32) (h : vcX5_cutRegister_83 G r ad ln p1 (BX5_cutRegister_14 G Z r ad ln p1) post  al) : zB G Z rmX5_cutRegister 4 (zTC r) ad ln 0 0 83 [] [] al := tX5_cutRegister_83 X p1 hR (fun _ _ _ h => h)  al h
theorem uX5_cutRegister_66 {G : zG} {Z : zC} {r : Bool} {ad ln : Nat → Nat} (X : zX G Z cX5_cutRegister 4 RX5 wsX5_cutRegister) (p1 : Int32) {post : Int32 → (Nat → Nat → Int32) → Prop} (hR : zRi G Z rmX5_cutRegister 4 (zTC r) ad ln cX5_cutRegister .int post) (x2 x3 : Int32) (al : Nat → Nat → Int32) (h : vcX5_cutRegister_66 G r ad ln p1 (BX5_cutRegister_14 G Z r ad ln p1) post x2 x3 al) : zB G Z rmX5_cutRegister 4 (zTC r) ad ln 0 0 66 [(0, .ref (ad 8)), (1, .int p1), (2, .int x2), (3, .int x3)] [] al := tX5_cutRegister_66 X p1 hR (fun _ _ _ h => h) x2 x3 al h
theorem uX5_cutRegister_14 {G : zG} {Z : zC} {r : Bool} {ad ln : Nat → Nat} (X : zX G Z cX5_cutRegister 4 RX5 wsX5_cutRegister) (p1 : Int32) {post : Int32 → (Nat → Nat → Int32) → Prop} (hR : zRi G Z rmX5_cutRegister 4 (zTC r) ad ln cX5_cutRegister .int post) (x2 x3 : Int32) (al : Nat → Nat → Int32) (h : vcX5_cutRegister_14 G r ad ln p1 (BX5_cutRegister_14 G Z r ad ln p1) post x2 x3 al) : zB G Z rmX5_cutRegister 4 (zTC r) ad ln 0 0 14 [(0, .ref (ad 8)), (1, .int p1), (2, .int x2), (3, .int x3)] [] al := tX5_cutRegister_14 X p1 hR (fun _ _ _ h => h) x2 x3 al h

abbrev rmX5_cutWord : Room := { frames := 1, cells := 0, slots := 0, locals := 22 }
theorem kX5_cutWord_0 : Cond.fieldLink RX5 29 RX5 "at" "I" ∈ wsX5_cutWord := by decide +kernel
theorem kX5_cutWord_1 : zIn RX5 TX5 6 wsX5_cutWord := by decide +kernel
def vcX5_cutWord_68 (G : zG) (r : Bool) (ad ln : Nat → Nat)  (post : Int32 → (Nat → Nat → Int32) → Prop) (s0 : Int32) (al : Nat → Nat → Int32) : Prop :=
  post s0 al
def vcX5_cutWord_66 (G : zG) (r : Bool) (ad ln : Nat → Nat)  (post : Int32 → (Nat → Nat → Int32) → Prop) (al : Nat → Nat → Int32) : Prop :=
  vcX5_cutWord_68 G r ad ln  post (-2 : Int32) al
def vcX5_cutWord_43 (G : zG) (r : Bool) (ad ln : Nat → Nat)  (post : Int32 → (Nat → Nat → Int32) → Prop) (x1 x2 : Int32) (al : Nat → Nat → Int32) : Prop :=
  (¬ x1 = (97 : Int32) → vcX5_cutWord_66 G r ad ln  post  al) ∧ (x1 = (97 : Int32) → (¬ x2 = (120 : Int32) → vcX5_cutWord_66 G r ad ln  post  al) ∧ (x2 = (120 : Int32) → zMi G yX5_pass wsX5_pass rmX5_pass (zTC r) ad ln [.ref (ad 8), .int (3 : Int32), .int (259 : Int32)] al (fun q3 a3 => vcX5_cutWord_68 G r ad ln  post q3 a3)))
def vcX5_cutWord_0 (G : zG) (r : Bool) (ad ln : Nat → Nat)  (post : Int32 → (Nat → Nat → Int32) → Prop) (al : Nat → Nat → Int32) : Prop :=
  zMi G yX5_byteAt wsX5_byteAt rmX5_byteAt (zTC r) ad ln [.ref (ad 8), .int ((al 8 2) + (1 : Int32))] al (fun q1 a1 => zMi G yX5_byteAt wsX5_byteAt rmX5_byteAt (zTC r) ad ln [.ref (ad 8), .int ((a1 8 2) + (2 : Int32))] a1 (fun q2 a2 => (¬ q1 = (105 : Int32) → vcX5_cutWord_43 G r ad ln  post q1 q2 a2) ∧ (q1 = (105 : Int32) → (¬ q2 = (110 : Int32) → vcX5_cutWord_43 G r ad ln  post q1 q2 a2) ∧ (q2 = (110 : Int32) → zMi G yX5_pass wsX5_pass rmX5_pass (zTC r) ad ln [.ref (ad 8), .int (3 : Int32), .int (258 : Int32)] a2 (fun q5 a5 => post q5 a5)))))
set_option maxRecDepth 20000 in
theorem tX5_cutWord_68 {G : zG} {Z : zC} {r : Bool} {ad ln : Nat → Nat} (X : zX G Z cX5_cutWord 3 RX5 wsX5_cutWord)  {post : Int32 → (Nat → Nat → Int32) → Prop} (hR : zRi G Z rmX5_cutWord 3 (zTC r) ad ln cX5_cutWord .int post)  (s0 : Int32) (al : Nat → Nat → Int32) (h : vcX5_cutWord_68 G r ad ln  post s0 al) : zB G Z rmX5_cutWord 3 (zTC r) ad ln 0 0 68 [] [.int s0] al := by
  unfold vcX5_cutWord_68 at h
  exact hR 68 _ _ _ dX5_cutWord_68 rfl h
set_option maxRecDepth 20000 in
theorem tX5_cutWord_66 {G : zG} {Z : zC} {r : Bool} {ad ln : Nat → Nat} (X : zX G Z cX5_cutWord 3 RX5 wsX5_cutWord)  {post : Int32 → (Nat → Nat → Int32) → Prop} (hR : zRi G Z rmX5_cutWord 3 (zTC r) ad ln cX5_cutWord .int post)  (al : Nat → Nat → Int32) (h : vcX5_cutWord_66 G r ad ln  post  al) : zB G Z rmX5_cutWord 3 (zTC r) ad ln 0 0 66 [] [] al := by
  unfold vcX5_cutWord_66 at h
  refine zb_bipush X (-2 : Int32) dX5_cutWord_66 (by decide) ?_
  refine zb_sub [] rfl ?_
  exact tX5_cutWord_68 X hR  (-2 : Int32) al h
set_option maxRecDepth 20000 in
theorem tX5_cutWord_43 {G : zG} {Z : zC} {r : Bool} {ad ln : Nat → Nat} (X : zX G Z cX5_cutWord 3 RX5 wsX5_cutWord)  {post : Int32 → (Nat → Nat → Int32) → Prop} (hR : zRi G Z rmX5_cutWord 3 (zTC r) ad ln cX5_cutWord .int post)  (x1 x2 : Int32) (al : Nat → Nat → Int32) (h : vcX5_cutWord_43 G r ad ln  post x1 x2 al) : zB G Z rmX5_cutWord 3 (zTC r) ad ln 0 0 43 [(0, .ref (ad 8)), (1, .int x1), (2, .int x2)] [] al := by
  unfold vcX5_cutWord_43 at h
  refine zb_iload_n X dX5_cutWord_43 rfl 1 rfl ?_
  refine zb_bipush X (97 : Int32) dX5_cutWord_44 (by decide) ?_
  refine zb_icmp_ne X 66 dX5_cutWord_46 (by decide) (fun c1 => ?_) (fun c1 => ?_)
  · have h := h.1 c1
    refine zb_sub [] rfl ?_
    exact tX5_cutWord_66 X hR   al h
  · have h := h.2 c1
    refine zb_iload_n X dX5_cutWord_49 rfl 2 rfl ?_
    refine zb_bipush X (120 : Int32) dX5_cutWord_50 (by decide) ?_
    refine zb_icmp_ne X 66 dX5_cutWord_52 (by decide) (fun c2 => ?_) (fun c2 => ?_)
    · have h := h.1 c2
      refine zb_sub [] rfl ?_
      exact tX5_cutWord_66 X hR   al h
    · have h := h.2 c2
      refine zb_aload_n X dX5_cutWord_55 rfl 0 rfl ?_
      refine zb_iconst X (3 : Int32) dX5_cutWord_56 (by decide) ?_
      refine zb_sipush X (259 : Int32) dX5_cutWord_57 (by decide) ?_
      refine zb_callVi (n := 2) X 8 (zTC_lt (by decide)) 5 [3, 0, 0, 11, 12, 13] rfl (C := RX5) (Tt := TX5) (N := 6) rfl h gX5_cutWord_X5_pass rfl (by decide +kernel) (by decide) rfl rfl (Nat.le_of_ble_eq_true rfl) dX5_cutWord_60 (kc' := 0) (ks' := 0) rfl rfl (fun q3 a3 h => ?_)
      refine zb_goto X 68 dX5_cutWord_63 (by decide) ?_
      refine zb_sub [] rfl ?_
      exact tX5_cutWord_68 X hR  q3 a3 h
set_option maxRecDepth 20000 in
theorem tX5_cutWord_0 {G : zG} {Z : zC} {r : Bool} {ad ln : Nat → Nat} (X : zX G Z cX5_cutWord 3 RX5 wsX5_cutWord)  {post : Int32 → (Nat → Nat → Int32) → Prop} (hR : zRi G Z rmX5_cutWord 3 (zTC r) ad ln cX5_cutWord .int post)  (al : Nat → Nat → Int32) (h : vcX5_cutWord_0 G r ad ln  post  al) : zB G Z rmX5_cutWord 3 (zTC r) ad ln 0 0 0 [(0, .ref (ad 8))] [] al := by
  unfold vcX5_cutWord_0 at h
  refine zb_aload_n X dX5_cutWord_0 rfl 0 rfl ?_
  refine zb_aload_n X dX5_cutWord_1 rfl 0 rfl ?_
  refine zb_getI X 8 (zTC_lt (by decide)) 5 [3, 0, 0, 11, 12, 13] rfl (C := RX5) (Tt := TX5) (N := 6) rfl kX5_cutWord_1 2 (by decide) rfl kX5_cutWord_0 rfl dX5_cutWord_2 (al 8 2) rfl ?_
  refine zb_iconst X (1 : Int32) dX5_cutWord_5 (by decide) ?_
  refine zb_iadd X dX5_cutWord_6 ?_
  refine zb_callVi (n := 1) X 8 (zTC_lt (by decide)) 5 [3, 0, 0, 11, 12, 13] rfl (C := RX5) (Tt := TX5) (N := 6) rfl h gX5_cutWord_X5_byteAt rfl (by decide +kernel) (by decide) rfl rfl (Nat.le_of_ble_eq_true rfl) dX5_cutWord_7 (kc' := 0) (ks' := 0) rfl rfl (fun q1 a1 h => ?_)
  refine zb_istore_n X (lv' := [(1, .int q1), (0, .ref (ad 8))]) dX5_cutWord_10 rfl (by decide) rfl ?_
  refine zb_aload_n X dX5_cutWord_11 rfl 1 rfl ?_
  refine zb_aload_n X dX5_cutWord_12 rfl 1 rfl ?_
  refine zb_getI X 8 (zTC_lt (by decide)) 5 [3, 0, 0, 11, 12, 13] rfl (C := RX5) (Tt := TX5) (N := 6) rfl kX5_cutWord_1 2 (by decide) rfl kX5_cutWord_0 rfl dX5_cutWord_13 (a1 8 2) rfl ?_
  refine zb_iconst X (2 : Int32) dX5_cutWord_16 (by decide) ?_
  refine zb_iadd X dX5_cutWord_17 ?_
  refine zb_callVi (n := 1) X 8 (zTC_lt (by decide)) 5 [3, 0, 0, 11, 12, 13] rfl (C := RX5) (Tt := TX5) (N := 6) rfl h gX5_cutWord_X5_byteAt rfl (by decide +kernel) (by decide) rfl rfl (Nat.le_of_ble_eq_true rfl) dX5_cutWord_18 (kc' := 0) (ks' := 0) rfl rfl (fun q2 a2 h => ?_)
  refine zb_istore_n X (lv' := [(2, .int q2), (1, .int q1), (0, .ref (ad 8))]) dX5_cutWord_21 rfl (by decide) rfl ?_
  refine zb_iload_n X dX5_cutWord_22 rfl 1 rfl ?_
  refine zb_bipush X (105 : Int32) dX5_cutWord_23 (by decide) ?_
  refine zb_icmp_ne X 43 dX5_cutWord_25 (by decide) (fun c3 => ?_) (fun c3 => ?_)
  · have h := h.1 c3
    refine zb_sub [2, 1, 0] rfl ?_
    exact tX5_cutWord_43 X hR  q1 q2 a2 h
  · have h := h.2 c3
    refine zb_iload_n X dX5_cutWord_28 rfl 0 rfl ?_
    refine zb_bipush X (110 : Int32) dX5_cutWord_29 (by decide) ?_
    refine zb_icmp_ne X 43 dX5_cutWord_31 (by decide) (fun c4 => ?_) (fun c4 => ?_)
    · have h := h.1 c4
      refine zb_sub [2, 1, 0] rfl ?_
      exact tX5_cutWord_43 X hR  q1 q2 a2 h
    · have h := h.2 c4
      refine zb_aload_n X dX5_cutWord_34 rfl 2 rfl ?_
      refine zb_iconst X (3 : Int32) dX5_cutWord_35 (by decide) ?_
      refine zb_sipush X (258 : Int32) dX5_cutWord_36 (by decide) ?_
      refine zb_callVi (n := 2) X 8 (zTC_lt (by decide)) 5 [3, 0, 0, 11, 12, 13] rfl (C := RX5) (Tt := TX5) (N := 6) rfl h gX5_cutWord_X5_pass rfl (by decide +kernel) (by decide) rfl rfl (Nat.le_of_ble_eq_true rfl) dX5_cutWord_39 (kc' := 0) (ks' := 0) rfl rfl (fun q5 a5 h => ?_)
      exact hR 42 _ _ _ dX5_cutWord_42 rfl h

abbrev rmX5_cutMark : Room := { frames := 2, cells := 0, slots := 0, locals := 44 }
theorem kX5_cutMark_0 : Cond.fieldLink RX5 29 RX5 "at" "I" ∈ wsX5_cutMark := by decide +kernel
theorem kX5_cutMark_1 : zIn RX5 TX5 6 wsX5_cutMark := by decide +kernel
def vcX5_cutMark_164 (G : zG) (r : Bool) (ad ln : Nat → Nat) (p1 : Int32)  (post : Int32 → (Nat → Nat → Int32) → Prop) (s0 : Int32) (al : Nat → Nat → Int32) : Prop :=
  post s0 al
def vcX5_cutMark_193 (G : zG) (r : Bool) (ad ln : Nat → Nat) (p1 : Int32)  (post : Int32 → (Nat → Nat → Int32) → Prop) (s0 : Int32) (al : Nat → Nat → Int32) : Prop :=
  post s0 al
def vcX5_cutMark_0 (G : zG) (r : Bool) (ad ln : Nat → Nat) (p1 : Int32)  (post : Int32 → (Nat → Nat → Int32) → Prop) (al : Nat → Nat → Int32) : Prop :=
  (p1 = (38 : Int32) → zMi G yX5_pass wsX5_pass rmX5_pass (zTC r) ad ln [.ref (ad 8), .int (1 : Int32), .int p1] al (fun q2 a2 => post q2 a2)) ∧ (¬ p1 = (38 : Int32) → (p1 = (40 : Int32) → zMi G yX5_pass wsX5_pass rmX5_pass (zTC r) ad ln [.ref (ad 8), .int (1 : Int32), .int p1] al (fun q3 a3 => post q3 a3)) ∧ (¬ p1 = (40 : Int32) → (p1 = (41 : Int32) → zMi G yX5_pass wsX5_pass rmX5_pass (zTC r) ad ln [.ref (ad 8), .int (1 : Int32), .int p1] al (fun q4 a4 => post q4 a4)) ∧ (¬ p1 = (41 : Int32) → (p1 = (42 : Int32) → zMi G yX5_pass wsX5_pass rmX5_pass (zTC r) ad ln [.ref (ad 8), .int (1 : Int32), .int p1] al (fun q5 a5 => post q5 a5)) ∧ (¬ p1 = (42 : Int32) → (p1 = (43 : Int32) → zMi G yX5_pass wsX5_pass rmX5_pass (zTC r) ad ln [.ref (ad 8), .int (1 : Int32), .int p1] al (fun q6 a6 => post q6 a6)) ∧ (¬ p1 = (43 : Int32) → (p1 = (45 : Int32) → zMi G yX5_pass wsX5_pass rmX5_pass (zTC r) ad ln [.ref (ad 8), .int (1 : Int32), .int p1] al (fun q7 a7 => post q7 a7)) ∧ (¬ p1 = (45 : Int32) → (p1 = (60 : Int32) → zMi G yX5_byteAt wsX5_byteAt rmX5_byteAt (zTC r) ad ln [.ref (ad 8), .int ((al 8 2) + (1 : Int32))] al (fun q8 a8 => (¬ q8 = (60 : Int32) → zMi G yX5_pass wsX5_pass rmX5_pass (zTC r) ad ln [.ref (ad 8), .int (1 : Int32), .int p1] a8 (fun q10 a10 => vcX5_cutMark_164 G r ad ln p1  post q10 a10)) ∧ (q8 = (60 : Int32) → zMi G yX5_pass wsX5_pass rmX5_pass (zTC r) ad ln [.ref (ad 8), .int (2 : Int32), .int (256 : Int32)] a8 (fun q10 a10 => vcX5_cutMark_164 G r ad ln p1  post q10 a10)))) ∧ (¬ p1 = (60 : Int32) → (p1 = (61 : Int32) → zMi G yX5_pass wsX5_pass rmX5_pass (zTC r) ad ln [.ref (ad 8), .int (1 : Int32), .int p1] al (fun q9 a9 => post q9 a9)) ∧ (¬ p1 = (61 : Int32) → (p1 = (62 : Int32) → zMi G yX5_byteAt wsX5_byteAt rmX5_byteAt (zTC r) ad ln [.ref (ad 8), .int ((al 8 2) + (1 : Int32))] al (fun q10 a10 => (¬ q10 = (62 : Int32) → vcX5_cutMark_193 G r ad ln p1  post (-2 : Int32) a10) ∧ (q10 = (62 : Int32) → zMi G yX5_pass wsX5_pass rmX5_pass (zTC r) ad ln [.ref (ad 8), .int (2 : Int32), .int (257 : Int32)] a10 (fun q12 a12 => vcX5_cutMark_193 G r ad ln p1  post q12 a12)))) ∧ (¬ p1 = (62 : Int32) → (p1 = (91 : Int32) → zMi G yX5_pass wsX5_pass rmX5_pass (zTC r) ad ln [.ref (ad 8), .int (1 : Int32), .int p1] al (fun q11 a11 => post q11 a11)) ∧ (¬ p1 = (91 : Int32) → (p1 = (93 : Int32) → zMi G yX5_pass wsX5_pass rmX5_pass (zTC r) ad ln [.ref (ad 8), .int (1 : Int32), .int p1] al (fun q12 a12 => post q12 a12)) ∧ (¬ p1 = (93 : Int32) → (p1 = (94 : Int32) → zMi G yX5_pass wsX5_pass rmX5_pass (zTC r) ad ln [.ref (ad 8), .int (1 : Int32), .int p1] al (fun q13 a13 => post q13 a13)) ∧ (¬ p1 = (94 : Int32) → (p1 = (105 : Int32) → zMi G yX5_pass wsX5_pass rmX5_pass (zTC r) ad ln [.ref (ad 8), .int (1 : Int32), .int p1] al (fun q14 a14 => post q14 a14)) ∧ (¬ p1 = (105 : Int32) → (p1 = (109 : Int32) → zMi G yX5_cutWord wsX5_cutWord rmX5_cutWord (zTC r) ad ln [.ref (ad 8)] al (fun q15 a15 => post q15 a15)) ∧ (¬ p1 = (109 : Int32) → (p1 = (124 : Int32) → zMi G yX5_pass wsX5_pass rmX5_pass (zTC r) ad ln [.ref (ad 8), .int (1 : Int32), .int p1] al (fun q16 a16 => post q16 a16)) ∧ (¬ p1 = (124 : Int32) → post (-2 : Int32) al)))))))))))))))
set_option maxRecDepth 20000 in
theorem tX5_cutMark_164 {G : zG} {Z : zC} {r : Bool} {ad ln : Nat → Nat} (X : zX G Z cX5_cutMark 2 RX5 wsX5_cutMark) (p1 : Int32)  {post : Int32 → (Nat → Nat → Int32) → Prop} (hR : zRi G Z rmX5_cutMark 2 (zTC r) ad ln cX5_cutMark .int post)  (s0 : Int32) (al : Nat → Nat → Int32) (h : vcX5_cutMark_164 G r ad ln p1  post s0 al) : zB G Z rmX5_cutMark 2 (zTC r) ad ln 0 0 164 [] [.int s0] al := by
  unfold vcX5_cutMark_164 at h
  exact hR 164 _ _ _ dX5_cutMark_164 rfl h
set_option maxRecDepth 20000 in
theorem tX5_cutMark_193 {G : zG} {Z : zC} {r : Bool} {ad ln : Nat → Nat} (X : zX G Z cX5_cutMark 2 RX5 wsX5_cutMark) (p1 : Int32)  {post : Int32 → (Nat → Nat → Int32) → Prop} (hR : zRi G Z rmX5_cutMark 2 (zTC r) ad ln cX5_cutMark .int post)  (s0 : Int32) (al : Nat → Nat → Int32) (h : vcX5_cutMark_193 G r ad ln p1  post s0 al) : zB G Z rmX5_cutMark 2 (zTC r) ad ln 0 0 193 [] [.int s0] al := by
  unfold vcX5_cutMark_193 at h
  exact hR 193 _ _ _ dX5_cutMark_193 rfl h
set_option maxRecDepth 20000 in
theorem tX5_cutMark_0 {G : zG} {Z : zC} {r : Bool} {ad ln : Nat → Nat} (X : zX G Z cX5_cutMark 2 RX5 wsX5_cutMark) (p1 : Int32)  {post : Int32 → (Nat → Nat → Int32) → Prop} (hR : zRi G Z rmX5_cutMark 2 (zTC r) ad ln cX5_cutMark .int post)  (al : Nat → Nat → Int32) (h : vcX5_cutMark_0 G r ad ln p1  post  al) : zB G Z rmX5_cutMark 2 (zTC r) ad ln 0 0 0 [(0, .ref (ad 8)), (1, .int p1)] [] al := by
  unfold vcX5_cutMark_0 at h
  refine zb_iload_n X dX5_cutMark_0 rfl 1 rfl ?_
  by_cases c1 : p1 = (38 : Int32)
  · have h := h.1 c1
    refine zb_look X (off := 198) 199 dX5_cutMark_1 (by decide) (by rw [c1]; rfl) (by decide) ?_
    refine zb_aload_n X dX5_cutMark_199 rfl 0 rfl ?_
    refine zb_iconst X (1 : Int32) dX5_cutMark_200 (by decide) ?_
    refine zb_iload_n X dX5_cutMark_201 rfl 1 rfl ?_
    refine zb_callVi (n := 2) X 8 (zTC_lt (by decide)) 5 [3, 0, 0, 11, 12, 13] rfl (C := RX5) (Tt := TX5) (N := 6) rfl h gX5_cutMark_X5_pass rfl (by decide +kernel) (by decide) rfl rfl (Nat.le_of_ble_eq_true rfl) dX5_cutMark_202 (kc' := 0) (ks' := 0) rfl rfl (fun q2 a2 h => ?_)
    exact hR 205 _ _ _ dX5_cutMark_205 rfl h
  have h := h.2 c1
  by_cases c2 : p1 = (40 : Int32)
  · have h := h.1 c2
    refine zb_look X (off := 198) 199 dX5_cutMark_1 (by decide) (by rw [c2]; rfl) (by decide) ?_
    refine zb_aload_n X dX5_cutMark_199 rfl 0 rfl ?_
    refine zb_iconst X (1 : Int32) dX5_cutMark_200 (by decide) ?_
    refine zb_iload_n X dX5_cutMark_201 rfl 1 rfl ?_
    refine zb_callVi (n := 2) X 8 (zTC_lt (by decide)) 5 [3, 0, 0, 11, 12, 13] rfl (C := RX5) (Tt := TX5) (N := 6) rfl h gX5_cutMark_X5_pass rfl (by decide +kernel) (by decide) rfl rfl (Nat.le_of_ble_eq_true rfl) dX5_cutMark_202 (kc' := 0) (ks' := 0) rfl rfl (fun q3 a3 h => ?_)
    exact hR 205 _ _ _ dX5_cutMark_205 rfl h
  have h := h.2 c2
  by_cases c3 : p1 = (41 : Int32)
  · have h := h.1 c3
    refine zb_look X (off := 198) 199 dX5_cutMark_1 (by decide) (by rw [c3]; rfl) (by decide) ?_
    refine zb_aload_n X dX5_cutMark_199 rfl 0 rfl ?_
    refine zb_iconst X (1 : Int32) dX5_cutMark_200 (by decide) ?_
    refine zb_iload_n X dX5_cutMark_201 rfl 1 rfl ?_
    refine zb_callVi (n := 2) X 8 (zTC_lt (by decide)) 5 [3, 0, 0, 11, 12, 13] rfl (C := RX5) (Tt := TX5) (N := 6) rfl h gX5_cutMark_X5_pass rfl (by decide +kernel) (by decide) rfl rfl (Nat.le_of_ble_eq_true rfl) dX5_cutMark_202 (kc' := 0) (ks' := 0) rfl rfl (fun q4 a4 h => ?_)
    exact hR 205 _ _ _ dX5_cutMark_205 rfl h
  have h := h.2 c3
  by_cases c4 : p1 = (42 : Int32)
  · have h := h.1 c4
    refine zb_look X (off := 198) 199 dX5_cutMark_1 (by decide) (by rw [c4]; rfl) (by decide) ?_
    refine zb_aload_n X dX5_cutMark_199 rfl 0 rfl ?_
    refine zb_iconst X (1 : Int32) dX5_cutMark_200 (by decide) ?_
    refine zb_iload_n X dX5_cutMark_201 rfl 1 rfl ?_
    refine zb_callVi (n := 2) X 8 (zTC_lt (by decide)) 5 [3, 0, 0, 11, 12, 13] rfl (C := RX5) (Tt := TX5) (N := 6) rfl h gX5_cutMark_X5_pass rfl (by decide +kernel) (by decide) rfl rfl (Nat.le_of_ble_eq_true rfl) dX5_cutMark_202 (kc' := 0) (ks' := 0) rfl rfl (fun q5 a5 h => ?_)
    exact hR 205 _ _ _ dX5_cutMark_205 rfl h
  have h := h.2 c4
  by_cases c5 : p1 = (43 : Int32)
  · have h := h.1 c5
    refine zb_look X (off := 198) 199 dX5_cutMark_1 (by decide) (by rw [c5]; rfl) (by decide) ?_
    refine zb_aload_n X dX5_cutMark_199 rfl 0 rfl ?_
    refine zb_iconst X (1 : Int32) dX5_cutMark_200 (by decide) ?_
    refine zb_iload_n X dX5_cutMark_201 rfl 1 rfl ?_
    refine zb_callVi (n := 2) X 8 (zTC_lt (by decide)) 5 [3, 0, 0, 11, 12, 13] rfl (C := RX5) (Tt := TX5) (N := 6) rfl h gX5_cutMark_X5_pass rfl (by decide +kernel) (by decide) rfl rfl (Nat.le_of_ble_eq_true rfl) dX5_cutMark_202 (kc' := 0) (ks' := 0) rfl rfl (fun q6 a6 h => ?_)
    exact hR 205 _ _ _ dX5_cutMark_205 rfl h
  have h := h.2 c5
  by_cases c6 : p1 = (45 : Int32)
  · have h := h.1 c6
    refine zb_look X (off := 198) 199 dX5_cutMark_1 (by decide) (by rw [c6]; rfl) (by decide) ?_
    refine zb_aload_n X dX5_cutMark_199 rfl 0 rfl ?_
    refine zb_iconst X (1 : Int32) dX5_cutMark_200 (by decide) ?_
    refine zb_iload_n X dX5_cutMark_201 rfl 1 rfl ?_
    refine zb_callVi (n := 2) X 8 (zTC_lt (by decide)) 5 [3, 0, 0, 11, 12, 13] rfl (C := RX5) (Tt := TX5) (N := 6) rfl h gX5_cutMark_X5_pass rfl (by decide +kernel) (by decide) rfl rfl (Nat.le_of_ble_eq_true rfl) dX5_cutMark_202 (kc' := 0) (ks' := 0) rfl rfl (fun q7 a7 h => ?_)
    exact hR 205 _ _ _ dX5_cutMark_205 rfl h
  have h := h.2 c6
  by_cases c7 : p1 = (60 : Int32)
  · have h := h.1 c7
    refine zb_look X (off := 131) 132 dX5_cutMark_1 (by decide) (by rw [c7]; rfl) (by decide) ?_
    refine zb_aload_n X dX5_cutMark_132 rfl 0 rfl ?_
    refine zb_aload_n X dX5_cutMark_133 rfl 0 rfl ?_
    refine zb_getI X 8 (zTC_lt (by decide)) 5 [3, 0, 0, 11, 12, 13] rfl (C := RX5) (Tt := TX5) (N := 6) rfl kX5_cutMark_1 2 (by decide) rfl kX5_cutMark_0 rfl dX5_cutMark_134 (al 8 2) rfl ?_
    refine zb_iconst X (1 : Int32) dX5_cutMark_137 (by decide) ?_
    refine zb_iadd X dX5_cutMark_138 ?_
    refine zb_callVi (n := 1) X 8 (zTC_lt (by decide)) 5 [3, 0, 0, 11, 12, 13] rfl (C := RX5) (Tt := TX5) (N := 6) rfl h gX5_cutMark_X5_byteAt rfl (by decide +kernel) (by decide) rfl rfl (Nat.le_of_ble_eq_true rfl) dX5_cutMark_139 (kc' := 0) (ks' := 0) rfl rfl (fun q8 a8 h => ?_)
    refine zb_bipush X (60 : Int32) dX5_cutMark_142 (by decide) ?_
    refine zb_icmp_ne X 158 dX5_cutMark_144 (by decide) (fun c9 => ?_) (fun c9 => ?_)
    · have h := h.1 c9
      refine zb_aload_n X dX5_cutMark_158 rfl 0 rfl ?_
      refine zb_iconst X (1 : Int32) dX5_cutMark_159 (by decide) ?_
      refine zb_iload_n X dX5_cutMark_160 rfl 1 rfl ?_
      refine zb_callVi (n := 2) X 8 (zTC_lt (by decide)) 5 [3, 0, 0, 11, 12, 13] rfl (C := RX5) (Tt := TX5) (N := 6) rfl h gX5_cutMark_X5_pass rfl (by decide +kernel) (by decide) rfl rfl (Nat.le_of_ble_eq_true rfl) dX5_cutMark_161 (kc' := 0) (ks' := 0) rfl rfl (fun q10 a10 h => ?_)
      refine zb_sub [] rfl ?_
      exact tX5_cutMark_164 X p1 hR  q10 a10 h
    · have h := h.2 c9
      refine zb_aload_n X dX5_cutMark_147 rfl 0 rfl ?_
      refine zb_iconst X (2 : Int32) dX5_cutMark_148 (by decide) ?_
      refine zb_sipush X (256 : Int32) dX5_cutMark_149 (by decide) ?_
      refine zb_callVi (n := 2) X 8 (zTC_lt (by decide)) 5 [3, 0, 0, 11, 12, 13] rfl (C := RX5) (Tt := TX5) (N := 6) rfl h gX5_cutMark_X5_pass rfl (by decide +kernel) (by decide) rfl rfl (Nat.le_of_ble_eq_true rfl) dX5_cutMark_152 (kc' := 0) (ks' := 0) rfl rfl (fun q10 a10 h => ?_)
      refine zb_goto X 164 dX5_cutMark_155 (by decide) ?_
      refine zb_sub [] rfl ?_
      exact tX5_cutMark_164 X p1 hR  q10 a10 h
  have h := h.2 c7
  by_cases c8 : p1 = (61 : Int32)
  · have h := h.1 c8
    refine zb_look X (off := 198) 199 dX5_cutMark_1 (by decide) (by rw [c8]; rfl) (by decide) ?_
    refine zb_aload_n X dX5_cutMark_199 rfl 0 rfl ?_
    refine zb_iconst X (1 : Int32) dX5_cutMark_200 (by decide) ?_
    refine zb_iload_n X dX5_cutMark_201 rfl 1 rfl ?_
    refine zb_callVi (n := 2) X 8 (zTC_lt (by decide)) 5 [3, 0, 0, 11, 12, 13] rfl (C := RX5) (Tt := TX5) (N := 6) rfl h gX5_cutMark_X5_pass rfl (by decide +kernel) (by decide) rfl rfl (Nat.le_of_ble_eq_true rfl) dX5_cutMark_202 (kc' := 0) (ks' := 0) rfl rfl (fun q9 a9 h => ?_)
    exact hR 205 _ _ _ dX5_cutMark_205 rfl h
  have h := h.2 c8
  by_cases c9 : p1 = (62 : Int32)
  · have h := h.1 c9
    refine zb_look X (off := 164) 165 dX5_cutMark_1 (by decide) (by rw [c9]; rfl) (by decide) ?_
    refine zb_aload_n X dX5_cutMark_165 rfl 0 rfl ?_
    refine zb_aload_n X dX5_cutMark_166 rfl 0 rfl ?_
    refine zb_getI X 8 (zTC_lt (by decide)) 5 [3, 0, 0, 11, 12, 13] rfl (C := RX5) (Tt := TX5) (N := 6) rfl kX5_cutMark_1 2 (by decide) rfl kX5_cutMark_0 rfl dX5_cutMark_167 (al 8 2) rfl ?_
    refine zb_iconst X (1 : Int32) dX5_cutMark_170 (by decide) ?_
    refine zb_iadd X dX5_cutMark_171 ?_
    refine zb_callVi (n := 1) X 8 (zTC_lt (by decide)) 5 [3, 0, 0, 11, 12, 13] rfl (C := RX5) (Tt := TX5) (N := 6) rfl h gX5_cutMark_X5_byteAt rfl (by decide +kernel) (by decide) rfl rfl (Nat.le_of_ble_eq_true rfl) dX5_cutMark_172 (kc' := 0) (ks' := 0) rfl rfl (fun q10 a10 h => ?_)
    refine zb_bipush X (62 : Int32) dX5_cutMark_175 (by decide) ?_
    refine zb_icmp_ne X 191 dX5_cutMark_177 (by decide) (fun c11 => ?_) (fun c11 => ?_)
    · have h := h.1 c11
      refine zb_bipush X (-2 : Int32) dX5_cutMark_191 (by decide) ?_
      refine zb_sub [] rfl ?_
      exact tX5_cutMark_193 X p1 hR  (-2 : Int32) a10 h
    · have h := h.2 c11
      refine zb_aload_n X dX5_cutMark_180 rfl 0 rfl ?_
      refine zb_iconst X (2 : Int32) dX5_cutMark_181 (by decide) ?_
      refine zb_sipush X (257 : Int32) dX5_cutMark_182 (by decide) ?_
      refine zb_callVi (n := 2) X 8 (zTC_lt (by decide)) 5 [3, 0, 0, 11, 12, 13] rfl (C := RX5) (Tt := TX5) (N := 6) rfl h gX5_cutMark_X5_pass rfl (by decide +kernel) (by decide) rfl rfl (Nat.le_of_ble_eq_true rfl) dX5_cutMark_185 (kc' := 0) (ks' := 0) rfl rfl (fun q12 a12 h => ?_)
      refine zb_goto X 193 dX5_cutMark_188 (by decide) ?_
      refine zb_sub [] rfl ?_
      exact tX5_cutMark_193 X p1 hR  q12 a12 h
  have h := h.2 c9
  by_cases c10 : p1 = (91 : Int32)
  · have h := h.1 c10
    refine zb_look X (off := 198) 199 dX5_cutMark_1 (by decide) (by rw [c10]; rfl) (by decide) ?_
    refine zb_aload_n X dX5_cutMark_199 rfl 0 rfl ?_
    refine zb_iconst X (1 : Int32) dX5_cutMark_200 (by decide) ?_
    refine zb_iload_n X dX5_cutMark_201 rfl 1 rfl ?_
    refine zb_callVi (n := 2) X 8 (zTC_lt (by decide)) 5 [3, 0, 0, 11, 12, 13] rfl (C := RX5) (Tt := TX5) (N := 6) rfl h gX5_cutMark_X5_pass rfl (by decide +kernel) (by decide) rfl rfl (Nat.le_of_ble_eq_true rfl) dX5_cutMark_202 (kc' := 0) (ks' := 0) rfl rfl (fun q11 a11 h => ?_)
    exact hR 205 _ _ _ dX5_cutMark_205 rfl h
  have h := h.2 c10
  by_cases c11 : p1 = (93 : Int32)
  · have h := h.1 c11
    refine zb_look X (off := 198) 199 dX5_cutMark_1 (by decide) (by rw [c11]; rfl) (by decide) ?_
    refine zb_aload_n X dX5_cutMark_199 rfl 0 rfl ?_
    refine zb_iconst X (1 : Int32) dX5_cutMark_200 (by decide) ?_
    refine zb_iload_n X dX5_cutMark_201 rfl 1 rfl ?_
    refine zb_callVi (n := 2) X 8 (zTC_lt (by decide)) 5 [3, 0, 0, 11, 12, 13] rfl (C := RX5) (Tt := TX5) (N := 6) rfl h gX5_cutMark_X5_pass rfl (by decide +kernel) (by decide) rfl rfl (Nat.le_of_ble_eq_true rfl) dX5_cutMark_202 (kc' := 0) (ks' := 0) rfl rfl (fun q12 a12 h => ?_)
    exact hR 205 _ _ _ dX5_cutMark_205 rfl h
  have h := h.2 c11
  by_cases c12 : p1 = (94 : Int32)
  · have h := h.1 c12
    refine zb_look X (off := 198) 199 dX5_cutMark_1 (by decide) (by rw [c12]; rfl) (by decide) ?_
    refine zb_aload_n X dX5_cutMark_199 rfl 0 rfl ?_
    refine zb_iconst X (1 : Int32) dX5_cutMark_200 (by decide) ?_
    refine zb_iload_n X dX5_cutMark_201 rfl 1 rfl ?_
    refine zb_callVi (n := 2) X 8 (zTC_lt (by decide)) 5 [3, 0, 0, 11, 12, 13] rfl (C := RX5) (Tt := TX5) (N := 6) rfl h gX5_cutMark_X5_pass rfl (by decide +kernel) (by decide) rfl rfl (Nat.le_of_ble_eq_true rfl) dX5_cutMark_202 (kc' := 0) (ks' := 0) rfl rfl (fun q13 a13 h => ?_)
    exact hR 205 _ _ _ dX5_cutMark_205 rfl h
  have h := h.2 c12
  by_cases c13 : p1 = (105 : Int32)
  · have h := h.1 c13
    refine zb_look X (off := 198) 199 dX5_cutMark_1 (by decide) (by rw [c13]; rfl) (by decide) ?_
    refine zb_aload_n X dX5_cutMark_199 rfl 0 rfl ?_
    refine zb_iconst X (1 : Int32) dX5_cutMark_200 (by decide) ?_
    refine zb_iload_n X dX5_cutMark_201 rfl 1 rfl ?_
    refine zb_callVi (n := 2) X 8 (zTC_lt (by decide)) 5 [3, 0, 0, 11, 12, 13] rfl (C := RX5) (Tt := TX5) (N := 6) rfl h gX5_cutMark_X5_pass rfl (by decide +kernel) (by decide) rfl rfl (Nat.le_of_ble_eq_true rfl) dX5_cutMark_202 (kc' := 0) (ks' := 0) rfl rfl (fun q14 a14 h => ?_)
    exact hR 205 _ _ _ dX5_cutMark_205 rfl h
  have h := h.2 c13
  by_cases c14 : p1 = (109 : Int32)
  · have h := h.1 c14
    refine zb_look X (off := 193) 194 dX5_cutMark_1 (by decide) (by rw [c14]; rfl) (by decide) ?_
    refine zb_aload_n X dX5_cutMark_194 rfl 0 rfl ?_
    refine zb_callVi (n := 0) X 8 (zTC_lt (by decide)) 5 [3, 0, 0, 11, 12, 13] rfl (C := RX5) (Tt := TX5) (N := 6) rfl h gX5_cutMark_X5_cutWord rfl (by decide +kernel) (by decide) rfl rfl (Nat.le_of_ble_eq_true rfl) dX5_cutMark_195 (kc' := 0) (ks' := 0) rfl rfl (fun q15 a15 h => ?_)
    exact hR 198 _ _ _ dX5_cutMark_198 rfl h
  have h := h.2 c14
  by_cases c15 : p1 = (124 : Int32)
  · have h := h.1 c15
    refine zb_look X (off := 198) 199 dX5_cutMark_1 (by decide) (by rw [c15]; rfl) (by decide) ?_
    refine zb_aload_n X dX5_cutMark_199 rfl 0 rfl ?_
    refine zb_iconst X (1 : Int32) dX5_cutMark_200 (by decide) ?_
    refine zb_iload_n X dX5_cutMark_201 rfl 1 rfl ?_
    refine zb_callVi (n := 2) X 8 (zTC_lt (by decide)) 5 [3, 0, 0, 11, 12, 13] rfl (C := RX5) (Tt := TX5) (N := 6) rfl h gX5_cutMark_X5_pass rfl (by decide +kernel) (by decide) rfl rfl (Nat.le_of_ble_eq_true rfl) dX5_cutMark_202 (kc' := 0) (ks' := 0) rfl rfl (fun q16 a16 h => ?_)
    exact hR 205 _ _ _ dX5_cutMark_205 rfl h
  have h := h.2 c15
  refine zb_look X (off := 205) 206 dX5_cutMark_1 (by decide) (by have e0 := zne_int c1; rw [show (38 : Int32).toInt = 38 from by decide] at e0; have e1 := zne_int c2; rw [show (40 : Int32).toInt = 40 from by decide] at e1; have e2 := zne_int c3; rw [show (41 : Int32).toInt = 41 from by decide] at e2; have e3 := zne_int c4; rw [show (42 : Int32).toInt = 42 from by decide] at e3; have e4 := zne_int c5; rw [show (43 : Int32).toInt = 43 from by decide] at e4; have e5 := zne_int c6; rw [show (45 : Int32).toInt = 45 from by decide] at e5; have e6 := zne_int c7; rw [show (60 : Int32).toInt = 60 from by decide] at e6; have e7 := zne_int c8; rw [show (61 : Int32).toInt = 61 from by decide] at e7; have e8 := zne_int c9; rw [show (62 : Int32).toInt = 62 from by decide] at e8; have e9 := zne_int c10; rw [show (91 : Int32).toInt = 91 from by decide] at e9; have e10 := zne_int c11; rw [show (93 : Int32).toInt = 93 from by decide] at e10; have e11 := zne_int c12; rw [show (94 : Int32).toInt = 94 from by decide] at e11; have e12 := zne_int c13; rw [show (105 : Int32).toInt = 105 from by decide] at e12; have e13 := zne_int c14; rw [show (109 : Int32).toInt = 109 from by decide] at e13; have e14 := zne_int c15; rw [show (124 : Int32).toInt = 124 from by decide] at e14; simp only [Op.lookupswitch.offset, List.toList_toArray]; rw [if_neg (fun h => e0 h.symm), if_neg (fun h => e1 h.symm), if_neg (fun h => e2 h.symm), if_neg (fun h => e3 h.symm), if_neg (fun h => e4 h.symm), if_neg (fun h => e5 h.symm), if_neg (fun h => e6 h.symm), if_neg (fun h => e7 h.symm), if_neg (fun h => e8 h.symm), if_neg (fun h => e9 h.symm), if_neg (fun h => e10 h.symm), if_neg (fun h => e11 h.symm), if_neg (fun h => e12 h.symm), if_neg (fun h => e13 h.symm), if_neg (fun h => e14 h.symm)]) (by decide) ?_
  refine zb_bipush X (-2 : Int32) dX5_cutMark_206 (by decide) ?_
  exact hR 208 _ _ _ dX5_cutMark_208 rfl h

abbrev rmX5_cutOne : Room := { frames := 3, cells := 0, slots := 0, locals := 65 }
theorem kX5_cutOne_0 : Cond.fieldLink RX5 29 RX5 "at" "I" ∈ wsX5_cutOne := by decide +kernel
theorem kX5_cutOne_1 : zIn RX5 TX5 6 wsX5_cutOne := by decide +kernel
theorem kX5_cutOne_2 : Cond.fieldLink RX5 18 RX5 "value" "[I" ∈ wsX5_cutOne := by decide +kernel
def vcX5_cutOne_70 (G : zG) (r : Bool) (ad ln : Nat → Nat) (p1 : Int32)  (post : Int32 → (Nat → Nat → Int32) → Prop) (x2 : Int32) (al : Nat → Nat → Int32) : Prop :=
  zMi G yX5_cutMark wsX5_cutMark rmX5_cutMark (zTC r) ad ln [.ref (ad 8), .int x2] al (fun q1 a1 => post q1 a1)
def vcX5_cutOne_0 (G : zG) (r : Bool) (ad ln : Nat → Nat) (p1 : Int32)  (post : Int32 → (Nat → Nat → Int32) → Prop) (al : Nat → Nat → Int32) : Prop :=
  zMi G yX5_byteAt wsX5_byteAt rmX5_byteAt (zTC r) ad ln [.ref (ad 8), .int (al 8 2)] al (fun q1 a1 => (0 ≤ q1 → zMi G yX5_isDigit wsX5_isDigit rmX5_isDigit (zTC r) ad ln [.int q1] a1 (fun q3 a3 => (q3 = 0 → (¬ q1 = (114 : Int32) → (q1 < (97 : Int32) → vcX5_cutOne_70 G r ad ln p1  post q1 a3) ∧ (¬ q1 < (97 : Int32) → ((100 : Int32) < q1 → vcX5_cutOne_70 G r ad ln p1  post q1 a3) ∧ (¬ (100 : Int32) < q1 → (vp_in p1 577 ∧ zMi G yX5_pass wsX5_pass rmX5_pass (zTC r) ad ln [.ref (ad 8), .int (1 : Int32), .int (97 : Int32)] (up2 a3 11 p1.toNatClampNeg (q1 - (97 : Int32))) (fun q8 a8 => post q8 a8))))) ∧ (q1 = (114 : Int32) → zMi G yX5_cutRegister wsX5_cutRegister rmX5_cutRegister (zTC r) ad ln [.ref (ad 8), .int p1] a3 (fun q6 a6 => post q6 a6))) ∧ (¬ q3 = 0 → zMi G yX5_cutNumber wsX5_cutNumber rmX5_cutNumber (zTC r) ad ln [.ref (ad 8), .int p1] a3 (fun q5 a5 => post q5 a5)))) ∧ (¬ 0 ≤ q1 → post (-1 : Int32) a1))
set_option maxRecDepth 20000 in
theorem tX5_cutOne_70 {G : zG} {Z : zC} {r : Bool} {ad ln : Nat → Nat} (X : zX G Z cX5_cutOne 3 RX5 wsX5_cutOne) (p1 : Int32)  {post : Int32 → (Nat → Nat → Int32) → Prop} (hR : zRi G Z rmX5_cutOne 3 (zTC r) ad ln cX5_cutOne .int post)  (x2 : Int32) (al : Nat → Nat → Int32) (h : vcX5_cutOne_70 G r ad ln p1  post x2 al) : zB G Z rmX5_cutOne 3 (zTC r) ad ln 0 0 70 [(0, .ref (ad 8)), (2, .int x2)] [] al := by
  unfold vcX5_cutOne_70 at h
  refine zb_aload_n X dX5_cutOne_70 rfl 0 rfl ?_
  refine zb_iload_n X dX5_cutOne_71 rfl 1 rfl ?_
  refine zb_callVi (n := 1) X 8 (zTC_lt (by decide)) 5 [3, 0, 0, 11, 12, 13] rfl (C := RX5) (Tt := TX5) (N := 6) rfl h gX5_cutOne_X5_cutMark rfl (by decide +kernel) (by decide) rfl rfl (Nat.le_of_ble_eq_true rfl) dX5_cutOne_72 (kc' := 0) (ks' := 0) rfl rfl (fun q1 a1 h => ?_)
  exact hR 75 _ _ _ dX5_cutOne_75 rfl h
set_option maxRecDepth 20000 in
theorem tX5_cutOne_0 {G : zG} {Z : zC} {r : Bool} {ad ln : Nat → Nat} (X : zX G Z cX5_cutOne 3 RX5 wsX5_cutOne) (p1 : Int32)  {post : Int32 → (Nat → Nat → Int32) → Prop} (hR : zRi G Z rmX5_cutOne 3 (zTC r) ad ln cX5_cutOne .int post)  (al : Nat → Nat → Int32) (h : vcX5_cutOne_0 G r ad ln p1  post  al) : zB G Z rmX5_cutOne 3 (zTC r) ad ln 0 0 0 [(0, .ref (ad 8)), (1, .int p1)] [] al := by
  unfold vcX5_cutOne_0 at h
  refine zb_aload_n X dX5_cutOne_0 rfl 0 rfl ?_
  refine zb_aload_n X dX5_cutOne_1 rfl 0 rfl ?_
  refine zb_getI X 8 (zTC_lt (by decide)) 5 [3, 0, 0, 11, 12, 13] rfl (C := RX5) (Tt := TX5) (N := 6) rfl kX5_cutOne_1 2 (by decide) rfl kX5_cutOne_0 rfl dX5_cutOne_2 (al 8 2) rfl ?_
  refine zb_callVi (n := 1) X 8 (zTC_lt (by decide)) 5 [3, 0, 0, 11, 12, 13] rfl (C := RX5) (Tt := TX5) (N := 6) rfl h gX5_cutOne_X5_byteAt rfl (by decide +kernel) (by decide) rfl rfl (Nat.le_of_ble_eq_true rfl) dX5_cutOne_5 (kc' := 0) (ks' := 0) rfl rfl (fun q1 a1 h => ?_)
  refine zb_istore_n X (lv' := [(2, .int q1), (0, .ref (ad 8)), (1, .int p1)]) dX5_cutOne_8 rfl (by decide) rfl ?_
  refine zb_iload_n X dX5_cutOne_9 rfl 0 rfl ?_
  refine zb_if_ge X 15 dX5_cutOne_10 (by decide) (fun c2 => ?_) (fun c2 => ?_)
  · have h := h.1 c2
    refine zb_iload_n X dX5_cutOne_15 rfl 0 rfl ?_
    refine zb_callSi (n := 1) X h gX5_cutOne_X5_isDigit rfl (by decide +kernel) (by decide) rfl rfl (Nat.le_of_ble_eq_true rfl) dX5_cutOne_16 (kc' := 0) (ks' := 0) rfl rfl (fun q3 a3 h => ?_)
    refine zb_if_eq X 28 dX5_cutOne_19 (by decide) (fun c4 => ?_) (fun c4 => ?_)
    · have h := h.1 c4
      refine zb_iload_n X dX5_cutOne_28 rfl 0 rfl ?_
      refine zb_bipush X (114 : Int32) dX5_cutOne_29 (by decide) ?_
      refine zb_icmp_ne X 40 dX5_cutOne_31 (by decide) (fun c5 => ?_) (fun c5 => ?_)
      · have h := h.1 c5
        refine zb_iload_n X dX5_cutOne_40 rfl 0 rfl ?_
        refine zb_bipush X (97 : Int32) dX5_cutOne_41 (by decide) ?_
        refine zb_icmp_lt X 70 dX5_cutOne_43 (by decide) (fun c6 => ?_) (fun c6 => ?_)
        · have h := h.1 c6
          refine zb_sub [1, 0] rfl ?_
          exact tX5_cutOne_70 X p1 hR  q1 a3 h
        · have h := h.2 c6
          refine zb_iload_n X dX5_cutOne_46 rfl 0 rfl ?_
          refine zb_bipush X (100 : Int32) dX5_cutOne_47 (by decide) ?_
          refine zb_icmp_gt X 70 dX5_cutOne_49 (by decide) (fun c7 => ?_) (fun c7 => ?_)
          · have h := h.1 c7
            refine zb_sub [1, 0] rfl ?_
            exact tX5_cutOne_70 X p1 hR  q1 a3 h
          · have h := h.2 c7
            refine zb_aload_n X dX5_cutOne_52 rfl 1 rfl ?_
            refine zb_getR X 8 (zTC_lt (by decide)) 5 [3, 0, 0, 11, 12, 13] rfl (C := RX5) (Tt := TX5) (N := 6) rfl kX5_cutOne_1 5 (by decide) 11 rfl kX5_cutOne_2 rfl dX5_cutOne_53 ?_
            refine zb_iload_n X dX5_cutOne_56 rfl 2 rfl ?_
            refine zb_iload_n X dX5_cutOne_57 rfl 0 rfl ?_
            refine zb_bipush X (97 : Int32) dX5_cutOne_58 (by decide) ?_
            refine zb_isub X dX5_cutOne_60 ?_
            obtain ⟨hz, h⟩ := h
            refine zb_iast X 11 (zTC_lt (by decide)) 1 577 0 0 rfl (Or.inl rfl) p1.toNatClampNeg rfl hz dX5_cutOne_61 ?_
            refine zb_aload_n X dX5_cutOne_62 rfl 1 rfl ?_
            refine zb_iconst X (1 : Int32) dX5_cutOne_63 (by decide) ?_
            refine zb_bipush X (97 : Int32) dX5_cutOne_64 (by decide) ?_
            refine zb_callVi (n := 2) X 8 (zTC_lt (by decide)) 5 [3, 0, 0, 11, 12, 13] rfl (C := RX5) (Tt := TX5) (N := 6) rfl h gX5_cutOne_X5_pass rfl (by decide +kernel) (by decide) rfl rfl (Nat.le_of_ble_eq_true rfl) dX5_cutOne_66 (kc' := 0) (ks' := 0) rfl rfl (fun q8 a8 h => ?_)
            exact hR 69 _ _ _ dX5_cutOne_69 rfl h
      · have h := h.2 c5
        refine zb_aload_n X dX5_cutOne_34 rfl 1 rfl ?_
        refine zb_iload_n X dX5_cutOne_35 rfl 2 rfl ?_
        refine zb_callVi (n := 1) X 8 (zTC_lt (by decide)) 5 [3, 0, 0, 11, 12, 13] rfl (C := RX5) (Tt := TX5) (N := 6) rfl h gX5_cutOne_X5_cutRegister rfl (by decide +kernel) (by decide) rfl rfl (Nat.le_of_ble_eq_true rfl) dX5_cutOne_36 (kc' := 0) (ks' := 0) rfl rfl (fun q6 a6 h => ?_)
        exact hR 39 _ _ _ dX5_cutOne_39 rfl h
    · have h := h.2 c4
      refine zb_aload_n X dX5_cutOne_22 rfl 1 rfl ?_
      refine zb_iload_n X dX5_cutOne_23 rfl 2 rfl ?_
      refine zb_callVi (n := 1) X 8 (zTC_lt (by decide)) 5 [3, 0, 0, 11, 12, 13] rfl (C := RX5) (Tt := TX5) (N := 6) rfl h gX5_cutOne_X5_cutNumber rfl (by decide +kernel) (by decide) rfl rfl (Nat.le_of_ble_eq_true rfl) dX5_cutOne_24 (kc' := 0) (ks' := 0) rfl rfl (fun q5 a5 h => ?_)
      exact hR 27 _ _ _ dX5_cutOne_27 rfl h
  · have h := h.2 c2
    refine zb_iconst X (-1 : Int32) dX5_cutOne_13 (by decide) ?_
    exact hR 14 _ _ _ dX5_cutOne_14 rfl h

abbrev rmX5_skipBlanks : Room := { frames := 1, cells := 0, slots := 0, locals := 21 }
theorem kX5_skipBlanks_0 : Cond.fieldLink RX5 29 RX5 "at" "I" ∈ wsX5_skipBlanks := by decide +kernel
theorem kX5_skipBlanks_1 : zIn RX5 TX5 6 wsX5_skipBlanks := by decide +kernel
theorem kX5_skipBlanks_2 : Cond.fieldLink RX5 25 RX5 "length" "I" ∈ wsX5_skipBlanks := by decide +kernel
abbrev BX5_skipBlanks_2 (G : zG) (Z : zC) (r : Bool) (ad ln : Nat → Nat) (x1 : Int32) (al : Nat → Nat → Int32) : Prop := zB G Z rmX5_skipBlanks 3 (zTC r) ad ln 0 0 2 [(0, .ref (ad 8)), (1, .int x1)] [] al
def vcX5_skipBlanks_0 (G : zG) (r : Bool) (ad ln : Nat → Nat) (K2 : Int32 → (Nat → Nat → Int32) → Prop) (post : (Nat → Nat → Int32) → Prop) (al : Nat → Nat → Int32) : Prop :=
  K2 (0 : Int32) al
def vcX5_skipBlanks_67 (G : zG) (r : Bool) (ad ln : Nat → Nat) (K2 : Int32 → (Nat → Nat → Int32) → Prop) (post : (Nat → Nat → Int32) → Prop) (x1 : Int32) (al : Nat → Nat → Int32) : Prop :=
  K2 x1 (up2 al 8 2 ((al 8 2) + (1 : Int32)))
def vcX5_skipBlanks_2 (G : zG) (r : Bool) (ad ln : Nat → Nat) (K2 : Int32 → (Nat → Nat → Int32) → Prop) (post : (Nat → Nat → Int32) → Prop) (x1 : Int32) (al : Nat → Nat → Int32) : Prop :=
  ((al 8 1) ≤ (al 8 2) → post al) ∧ (¬ (al 8 1) ≤ (al 8 2) → zMi G yX5_byteAt wsX5_byteAt rmX5_byteAt (zTC r) ad ln [.ref (ad 8), .int (al 8 2)] al (fun q2 a2 => (¬ q2 = (59 : Int32) → (¬ q2 = (10 : Int32) → (¬ x1 = 0 → vcX5_skipBlanks_67 G r ad ln K2 post x1 a2) ∧ (x1 = 0 → (q2 = (9 : Int32) → vcX5_skipBlanks_67 G r ad ln K2 post x1 a2) ∧ (¬ q2 = (9 : Int32) → (q2 = (13 : Int32) → vcX5_skipBlanks_67 G r ad ln K2 post x1 a2) ∧ (¬ q2 = (13 : Int32) → (q2 = (32 : Int32) → vcX5_skipBlanks_67 G r ad ln K2 post x1 a2) ∧ (¬ q2 = (32 : Int32) → post a2))))) ∧ (q2 = (10 : Int32) → vcX5_skipBlanks_67 G r ad ln K2 post (0 : Int32) a2)) ∧ (q2 = (59 : Int32) → vcX5_skipBlanks_67 G r ad ln K2 post (1 : Int32) a2)))
set_option maxRecDepth 20000 in
theorem tX5_skipBlanks_0 {G : zG} {Z : zC} {r : Bool} {ad ln : Nat → Nat} (X : zX G Z cX5_skipBlanks 3 RX5 wsX5_skipBlanks) {K2 : Int32 → (Nat → Nat → Int32) → Prop} {post : (Nat → Nat → Int32) → Prop} (hR : zRv G Z rmX5_skipBlanks 3 (zTC r) ad ln cX5_skipBlanks post) (hK2 : ∀ x1 : Int32, ∀ al, K2 x1 al → zB G Z rmX5_skipBlanks 3 (zTC r) ad ln 0 0 2 [(0, .ref (ad 8)), (1, .int x1)] [] al) (al : Nat → Nat → Int32) (h : vcX5_skipBlanks_0 G r ad ln K2 post  al) : zB G Z rmX5_skipBlanks 3 (zTC r) ad ln 0 0 0 [(0, .ref (ad 8))] [] al := by
  unfold vcX5_skipBlanks_0 at h
  refine zb_iconst X (0 : Int32) dX5_skipBlanks_0 (by decide) ?_
  refine zb_istore_n X (lv' := [(1, .int (0 : Int32)), (0, .ref (ad 8))]) dX5_skipBlanks_1 rfl (by decide) rfl ?_
  refine zb_sub [1, 0] rfl ?_
  exact hK2 (0 : Int32) al h
set_option maxRecDepth 20000 in
theorem tX5_skipBlanks_67 {G : zG} {Z : zC} {r : Bool} {ad ln : Nat → Nat} (X : zX G Z cX5_skipBlanks 3 RX5 wsX5_skipBlanks) {K2 : Int32 → (Nat → Nat → Int32) → Prop} {post : (Nat → Nat → Int32) → Prop} (hR : zRv G Z rmX5_skipBlanks 3 (zTC r) ad ln cX5_skipBlanks post) (hK2 : ∀ x1 : Int32, ∀ al, K2 x1 al → zB G Z rmX5_skipBlanks 3 (zTC r) ad ln 0 0 2 [(0, .ref (ad 8)), (1, .int x1)] [] al) (x1 : Int32) (al : Nat → Nat → Int32) (h : vcX5_skipBlanks_67 G r ad ln K2 post x1 al) : zB G Z rmX5_skipBlanks 3 (zTC r) ad ln 0 0 67 [(0, .ref (ad 8)), (1, .int x1)] [] al := by
  unfold vcX5_skipBlanks_67 at h
  refine zb_aload_n X dX5_skipBlanks_67 rfl 0 rfl ?_
  refine zb_dup X dX5_skipBlanks_68 rfl ?_
  refine zb_getI X 8 (zTC_lt (by decide)) 5 [3, 0, 0, 11, 12, 13] rfl (C := RX5) (Tt := TX5) (N := 6) rfl kX5_skipBlanks_1 2 (by decide) rfl kX5_skipBlanks_0 rfl dX5_skipBlanks_69 (al 8 2) rfl ?_
  refine zb_iconst X (1 : Int32) dX5_skipBlanks_72 (by decide) ?_
  refine zb_iadd X dX5_skipBlanks_73 ?_
  refine zb_putI X 8 (zTC_lt (by decide)) 5 [3, 0, 0, 11, 12, 13] rfl (C := RX5) (Tt := TX5) (N := 6) rfl kX5_skipBlanks_1 tyX5 tyX5_ok nmX5 2 (by decide) rfl kX5_skipBlanks_0 rfl rfl rfl rfl dX5_skipBlanks_74 ?_
  refine zb_goto X 2 dX5_skipBlanks_77 (by decide) ?_
  refine zb_sub [0, 1] rfl ?_
  exact hK2 x1 (up2 al 8 2 ((al 8 2) + (1 : Int32))) h
set_option maxRecDepth 20000 in
theorem tX5_skipBlanks_2 {G : zG} {Z : zC} {r : Bool} {ad ln : Nat → Nat} (X : zX G Z cX5_skipBlanks 3 RX5 wsX5_skipBlanks) {K2 : Int32 → (Nat → Nat → Int32) → Prop} {post : (Nat → Nat → Int32) → Prop} (hR : zRv G Z rmX5_skipBlanks 3 (zTC r) ad ln cX5_skipBlanks post) (hK2 : ∀ x1 : Int32, ∀ al, K2 x1 al → zB G Z rmX5_skipBlanks 3 (zTC r) ad ln 0 0 2 [(0, .ref (ad 8)), (1, .int x1)] [] al) (x1 : Int32) (al : Nat → Nat → Int32) (h : vcX5_skipBlanks_2 G r ad ln K2 post x1 al) : zB G Z rmX5_skipBlanks 3 (zTC r) ad ln 0 0 2 [(0, .ref (ad 8)), (1, .int x1)] [] al := by
  unfold vcX5_skipBlanks_2 at h
  refine zb_aload_n X dX5_skipBlanks_2 rfl 0 rfl ?_
  refine zb_getI X 8 (zTC_lt (by decide)) 5 [3, 0, 0, 11, 12, 13] rfl (C := RX5) (Tt := TX5) (N := 6) rfl kX5_skipBlanks_1 2 (by decide) rfl kX5_skipBlanks_0 rfl dX5_skipBlanks_3 (al 8 2) rfl ?_
  refine zb_aload_n X dX5_skipBlanks_6 rfl 0 rfl ?_
  refine zb_getI X 8 (zTC_lt (by decide)) 5 [3, 0, 0, 11, 12, 13] rfl (C := RX5) (Tt := TX5) (N := 6) rfl kX5_skipBlanks_1 1 (by decide) rfl kX5_skipBlanks_2 rfl dX5_skipBlanks_7 (al 8 1) rfl ?_
  refine zb_icmp_ge X 80 dX5_skipBlanks_10 (by decide) (fun c1 => ?_) (fun c1 => ?_)
  · have h := h.1 c1
    exact hR 80 _ _ dX5_skipBlanks_80 h
  · have h := h.2 c1
    refine zb_aload_n X dX5_skipBlanks_13 rfl 0 rfl ?_
    refine zb_aload_n X dX5_skipBlanks_14 rfl 0 rfl ?_
    refine zb_getI X 8 (zTC_lt (by decide)) 5 [3, 0, 0, 11, 12, 13] rfl (C := RX5) (Tt := TX5) (N := 6) rfl kX5_skipBlanks_1 2 (by decide) rfl kX5_skipBlanks_0 rfl dX5_skipBlanks_15 (al 8 2) rfl ?_
    refine zb_callVi (n := 1) X 8 (zTC_lt (by decide)) 5 [3, 0, 0, 11, 12, 13] rfl (C := RX5) (Tt := TX5) (N := 6) rfl h gX5_skipBlanks_X5_byteAt rfl (by decide +kernel) (by decide) rfl rfl (Nat.le_of_ble_eq_true rfl) dX5_skipBlanks_18 (kc' := 0) (ks' := 0) rfl rfl (fun q2 a2 h => ?_)
    refine zb_istore_n X (lv' := [(2, .int q2), (0, .ref (ad 8)), (1, .int x1)]) dX5_skipBlanks_21 rfl (by decide) rfl ?_
    refine zb_iload_n X dX5_skipBlanks_22 rfl 0 rfl ?_
    refine zb_bipush X (59 : Int32) dX5_skipBlanks_23 (by decide) ?_
    refine zb_icmp_ne X 33 dX5_skipBlanks_25 (by decide) (fun c3 => ?_) (fun c3 => ?_)
    · have h := h.1 c3
      refine zb_iload_n X dX5_skipBlanks_33 rfl 0 rfl ?_
      refine zb_bipush X (10 : Int32) dX5_skipBlanks_34 (by decide) ?_
      refine zb_icmp_ne X 44 dX5_skipBlanks_36 (by decide) (fun c4 => ?_) (fun c4 => ?_)
      · have h := h.1 c4
        refine zb_iload_n X dX5_skipBlanks_44 rfl 2 rfl ?_
        refine zb_if_ne X 67 dX5_skipBlanks_45 (by decide) (fun c5 => ?_) (fun c5 => ?_)
        · have h := h.1 c5
          refine zb_sub [1, 2] rfl ?_
          exact tX5_skipBlanks_67 X hR hK2 x1 a2 h
        · have h := h.2 c5
          refine zb_iload_n X dX5_skipBlanks_48 rfl 0 rfl ?_
          refine zb_bipush X (9 : Int32) dX5_skipBlanks_49 (by decide) ?_
          refine zb_icmp_eq X 67 dX5_skipBlanks_51 (by decide) (fun c6 => ?_) (fun c6 => ?_)
          · have h := h.1 c6
            refine zb_sub [1, 2] rfl ?_
            exact tX5_skipBlanks_67 X hR hK2 x1 a2 h
          · have h := h.2 c6
            refine zb_iload_n X dX5_skipBlanks_54 rfl 0 rfl ?_
            refine zb_bipush X (13 : Int32) dX5_skipBlanks_55 (by decide) ?_
            refine zb_icmp_eq X 67 dX5_skipBlanks_57 (by decide) (fun c7 => ?_) (fun c7 => ?_)
            · have h := h.1 c7
              refine zb_sub [1, 2] rfl ?_
              exact tX5_skipBlanks_67 X hR hK2 x1 a2 h
            · have h := h.2 c7
              refine zb_iload_n X dX5_skipBlanks_60 rfl 0 rfl ?_
              refine zb_bipush X (32 : Int32) dX5_skipBlanks_61 (by decide) ?_
              refine zb_icmp_eq X 67 dX5_skipBlanks_63 (by decide) (fun c8 => ?_) (fun c8 => ?_)
              · have h := h.1 c8
                refine zb_sub [1, 2] rfl ?_
                exact tX5_skipBlanks_67 X hR hK2 x1 a2 h
              · have h := h.2 c8
                exact hR 66 _ _ dX5_skipBlanks_66 h
      · have h := h.2 c4
        refine zb_iconst X (0 : Int32) dX5_skipBlanks_39 (by decide) ?_
        refine zb_istore_n X (lv' := [(1, .int (0 : Int32)), (2, .int q2), (0, .ref (ad 8))]) dX5_skipBlanks_40 rfl (by decide) rfl ?_
        refine zb_goto X 67 dX5_skipBlanks_41 (by decide) ?_
        refine zb_sub [2, 0] rfl ?_
        exact tX5_skipBlanks_67 X hR hK2 (0 : Int32) a2 h
    · have h := h.2 c3
      refine zb_iconst X (1 : Int32) dX5_skipBlanks_28 (by decide) ?_
      refine zb_istore_n X (lv' := [(1, .int (1 : Int32)), (2, .int q2), (0, .ref (ad 8))]) dX5_skipBlanks_29 rfl (by decide) rfl ?_
      refine zb_goto X 67 dX5_skipBlanks_30 (by decide) ?_
      refine zb_sub [2, 0] rfl ?_
      exact tX5_skipBlanks_67 X hR hK2 (1 : Int32) a2 h
theorem uX5_skipBlanks_0 {G : zG} {Z : zC} {r : Bool} {ad ln : Nat → Nat} (X : zX G Z cX5_skipBlanks 3 RX5 wsX5_skipBlanks) {post : (Nat → Nat → Int32) → Prop} (hR : zRv G Z rmX5_skipBlanks 3 (zTC r) ad ln cX5_skipBlanks post) (al : Nat → Nat → Int32) (h : vcX5_skipBlanks_0 G r ad ln (BX5_skipBlanks_2 G Z r ad ln) post  al) : zB G Z rmX5_skipBlanks 3 (zTC r) ad ln 0 0 0 [(0, .ref (ad 8))] [] al := tX5_skipBlanks_0 X hR (fun _ _ h => h)  al h
theorem uX5_skipBlanks_67 {G : zG} {Z : zC} {r : Bool} {ad ln : Nat → Nat} (X : zX G Z cX5_skipBlanks 3 RX5 wsX5_skipBlanks) {post : (Nat → Nat → Int32) → Prop} (hR : zRv G Z rmX5_skipBlanks 3 (zTC r) ad ln cX5_skipBlanks post) (x1 : Int32) (al : Nat → Nat → Int32) (h : vcX5_skipBlanks_67 G r ad ln (BX5_skipBlanks_2 G Z r ad ln) post x1 al) : zB G Z rmX5_skipBlanks 3 (zTC r) ad ln 0 0 67 [(0, .ref (ad 8)), (1, .int x1)] [] al := tX5_skipBlanks_67 X hR (fun _ _ h => h) x1 al h
theorem uX5_skipBlanks_2 {G : zG} {Z : zC} {r : Bool} {ad ln : Nat → Nat} (X : zX G Z cX5_skipBlanks 3 RX5 wsX5_skipBlanks) {post : (Nat → Nat → Int32) → Prop} (hR : zRv G Z rmX5_skipBlanks 3 (zTC r) ad ln cX5_skipBlanks post) (x1 : Int32) (al : Nat → Nat → Int32) (h : vcX5_skipBlanks_2 G r ad ln (BX5_skipBlanks_2 G Z r ad ln) post x1 al) : zB G Z rmX5_skipBlanks 3 (zTC r) ad ln 0 0 2 [(0, .ref (ad 8)), (1, .int x1)] [] al := tX5_skipBlanks_2 X hR (fun _ _ h => h) x1 al h

abbrev rmX5_cut : Room := { frames := 4, cells := 0, slots := 0, locals := 87 }
theorem kX5_cut_0 : Cond.fieldLink RX5 25 RX5 "length" "I" ∈ wsX5_cut := by decide +kernel
theorem kX5_cut_1 : zIn RX5 TX5 6 wsX5_cut := by decide +kernel
theorem kX5_cut_2 : Cond.fieldLink RX5 29 RX5 "at" "I" ∈ wsX5_cut := by decide +kernel
theorem kX5_cut_3 : Cond.fieldLink RX5 15 RX5 "place" "[I" ∈ wsX5_cut := by decide +kernel
theorem kX5_cut_4 : Cond.fieldLink RX5 18 RX5 "value" "[I" ∈ wsX5_cut := by decide +kernel
theorem kX5_cut_5 : Cond.fieldLink RX5 9 RX5 "sign" "[I" ∈ wsX5_cut := by decide +kernel
abbrev BX5_cut_12 (G : zG) (Z : zC) (r : Bool) (ad ln : Nat → Nat) (p1 : Int32) (x2 : Int32) (al : Nat → Nat → Int32) : Prop := zB G Z rmX5_cut 3 (zTC r) ad ln 0 0 12 [(0, .ref (ad 8)), (2, .int x2)] [] al
def vcX5_cut_0 (G : zG) (r : Bool) (ad ln : Nat → Nat) (p1 : Int32) (K12 : Int32 → (Nat → Nat → Int32) → Prop) (post : (Nat → Nat → Int32) → Prop) (al : Nat → Nat → Int32) : Prop :=
  K12 (0 : Int32) (up2 (up2 al 8 1 p1) 8 2 (0 : Int32))
def vcX5_cut_72 (G : zG) (r : Bool) (ad ln : Nat → Nat) (p1 : Int32) (K12 : Int32 → (Nat → Nat → Int32) → Prop) (post : (Nat → Nat → Int32) → Prop) (al : Nat → Nat → Int32) : Prop :=
  post al
def vcX5_cut_12 (G : zG) (r : Bool) (ad ln : Nat → Nat) (p1 : Int32) (K12 : Int32 → (Nat → Nat → Int32) → Prop) (post : (Nat → Nat → Int32) → Prop) (x2 : Int32) (al : Nat → Nat → Int32) : Prop :=
  ((577 : Int32) ≤ x2 → post al) ∧ (¬ (577 : Int32) ≤ x2 → zMv G yX5_skipBlanks wsX5_skipBlanks rmX5_skipBlanks (zTC r) ad ln [.ref (ad 8)] al (fun a2 => (vp_in x2 577 ∧ vp_in x2 577 ∧ zMi G yX5_cutOne wsX5_cutOne rmX5_cutOne (zTC r) ad ln [.ref (ad 8), .int x2] (up2 (up2 a2 10 x2.toNatClampNeg (a2 8 2)) 11 x2.toNatClampNeg (0 : Int32)) (fun q3 a3 => (vp_in x2 577 ∧ vp_in x2 577 ∧ (q3 = (-1 : Int32) → vcX5_cut_72 G r ad ln p1 K12 post  (up2 a3 9 x2.toNatClampNeg q3)) ∧ (¬ q3 = (-1 : Int32) → (vp_in x2 577 ∧ (¬ q3 = (-2 : Int32) → K12 (x2 + (1 : Int32)) (up2 a3 9 x2.toNatClampNeg q3)) ∧ (q3 = (-2 : Int32) → vcX5_cut_72 G r ad ln p1 K12 post  (up2 a3 9 x2.toNatClampNeg q3)))))))))
set_option maxRecDepth 20000 in
theorem tX5_cut_0 {G : zG} {Z : zC} {r : Bool} {ad ln : Nat → Nat} (X : zX G Z cX5_cut 3 RX5 wsX5_cut) (p1 : Int32) {K12 : Int32 → (Nat → Nat → Int32) → Prop} {post : (Nat → Nat → Int32) → Prop} (hR : zRv G Z rmX5_cut 3 (zTC r) ad ln cX5_cut post) (hK12 : ∀ x2 : Int32, ∀ al, K12 x2 al → zB G Z rmX5_cut 3 (zTC r) ad ln 0 0 12 [(0, .ref (ad 8)), (2, .int x2)] [] al) (al : Nat → Nat → Int32) (h : vcX5_cut_0 G r ad ln p1 K12 post  al) : zB G Z rmX5_cut 3 (zTC r) ad ln 0 0 0 [(0, .ref (ad 8)), (1, .int p1)] [] al := by
  unfold vcX5_cut_0 at h
  refine zb_aload_n X dX5_cut_0 rfl 0 rfl ?_
  refine zb_iload_n X dX5_cut_1 rfl 1 rfl ?_
  refine zb_putI X 8 (zTC_lt (by decide)) 5 [3, 0, 0, 11, 12, 13] rfl (C := RX5) (Tt := TX5) (N := 6) rfl kX5_cut_1 tyX5 tyX5_ok nmX5 1 (by decide) rfl kX5_cut_0 rfl rfl rfl rfl dX5_cut_2 ?_
  refine zb_aload_n X dX5_cut_5 rfl 0 rfl ?_
  refine zb_iconst X (0 : Int32) dX5_cut_6 (by decide) ?_
  refine zb_putI X 8 (zTC_lt (by decide)) 5 [3, 0, 0, 11, 12, 13] rfl (C := RX5) (Tt := TX5) (N := 6) rfl kX5_cut_1 tyX5 tyX5_ok nmX5 2 (by decide) rfl kX5_cut_2 rfl rfl rfl rfl dX5_cut_7 ?_
  refine zb_iconst X (0 : Int32) dX5_cut_10 (by decide) ?_
  refine zb_istore_n X (lv' := [(2, .int (0 : Int32)), (0, .ref (ad 8)), (1, .int p1)]) dX5_cut_11 rfl (by decide) rfl ?_
  refine zb_sub [1, 0] rfl ?_
  exact hK12 (0 : Int32) (up2 (up2 al 8 1 p1) 8 2 (0 : Int32)) h
set_option maxRecDepth 20000 in
theorem tX5_cut_72 {G : zG} {Z : zC} {r : Bool} {ad ln : Nat → Nat} (X : zX G Z cX5_cut 3 RX5 wsX5_cut) (p1 : Int32) {K12 : Int32 → (Nat → Nat → Int32) → Prop} {post : (Nat → Nat → Int32) → Prop} (hR : zRv G Z rmX5_cut 3 (zTC r) ad ln cX5_cut post) (hK12 : ∀ x2 : Int32, ∀ al, K12 x2 al → zB G Z rmX5_cut 3 (zTC r) ad ln 0 0 12 [(0, .ref (ad 8)), (2, .int x2)] [] al) (al : Nat → Nat → Int32) (h : vcX5_cut_72 G r ad ln p1 K12 post  al) : zB G Z rmX5_cut 3 (zTC r) ad ln 0 0 72 [] [] al := by
  unfold vcX5_cut_72 at h
  exact hR 72 _ _ dX5_cut_72 h
set_option maxRecDepth 20000 in
theorem tX5_cut_12 {G : zG} {Z : zC} {r : Bool} {ad ln : Nat → Nat} (X : zX G Z cX5_cut 3 RX5 wsX5_cut) (p1 : Int32) {K12 : Int32 → (Nat → Nat → Int32) → Prop} {post : (Nat → Nat → Int32) → Prop} (hR : zRv G Z rmX5_cut 3 (zTC r) ad ln cX5_cut post) (hK12 : ∀ x2 : Int32, ∀ al, K12 x2 al → zB G Z rmX5_cut 3 (zTC r) ad ln 0 0 12 [(0, .ref (ad 8)), (2, .int x2)] [] al) (x2 : Int32) (al : Nat → Nat → Int32) (h : vcX5_cut_12 G r ad ln p1 K12 post x2 al) : zB G Z rmX5_cut 3 (zTC r) ad ln 0 0 12 [(0, .ref (ad 8)), (2, .int x2)] [] al := by
  unfold vcX5_cut_12 at h
  refine zb_iload_n X dX5_cut_12 rfl 1 rfl ?_
  refine zb_sipush X (577 : Int32) dX5_cut_13 (by decide) ?_
  refine zb_icmp_ge X 79 dX5_cut_16 (by decide) (fun c1 => ?_) (fun c1 => ?_)
  · have h := h.1 c1
    exact hR 79 _ _ dX5_cut_79 h
  · have h := h.2 c1
    refine zb_aload_n X dX5_cut_19 rfl 0 rfl ?_
    refine zb_callVv (n := 0) X 8 (zTC_lt (by decide)) 5 [3, 0, 0, 11, 12, 13] rfl (C := RX5) (Tt := TX5) (N := 6) rfl h gX5_cut_X5_skipBlanks rfl (by decide +kernel) (by decide) rfl rfl (Nat.le_of_ble_eq_true rfl) dX5_cut_20 (kc' := 0) (ks' := 0) rfl rfl (fun a2 h => ?_)
    refine zb_aload_n X dX5_cut_23 rfl 0 rfl ?_
    refine zb_getR X 8 (zTC_lt (by decide)) 5 [3, 0, 0, 11, 12, 13] rfl (C := RX5) (Tt := TX5) (N := 6) rfl kX5_cut_1 4 (by decide) 10 rfl kX5_cut_3 rfl dX5_cut_24 ?_
    refine zb_iload_n X dX5_cut_27 rfl 1 rfl ?_
    refine zb_aload_n X dX5_cut_28 rfl 0 rfl ?_
    refine zb_getI X 8 (zTC_lt (by decide)) 5 [3, 0, 0, 11, 12, 13] rfl (C := RX5) (Tt := TX5) (N := 6) rfl kX5_cut_1 2 (by decide) rfl kX5_cut_2 rfl dX5_cut_29 (a2 8 2) rfl ?_
    obtain ⟨hz, h⟩ := h
    refine zb_iast X 10 (zTC_lt (by decide)) 1 577 0 0 rfl (Or.inl rfl) x2.toNatClampNeg rfl hz dX5_cut_32 ?_
    refine zb_aload_n X dX5_cut_33 rfl 0 rfl ?_
    refine zb_getR X 8 (zTC_lt (by decide)) 5 [3, 0, 0, 11, 12, 13] rfl (C := RX5) (Tt := TX5) (N := 6) rfl kX5_cut_1 5 (by decide) 11 rfl kX5_cut_4 rfl dX5_cut_34 ?_
    refine zb_iload_n X dX5_cut_37 rfl 1 rfl ?_
    refine zb_iconst X (0 : Int32) dX5_cut_38 (by decide) ?_
    obtain ⟨hz, h⟩ := h
    refine zb_iast X 11 (zTC_lt (by decide)) 1 577 0 0 rfl (Or.inl rfl) x2.toNatClampNeg rfl hz dX5_cut_39 ?_
    refine zb_aload_n X dX5_cut_40 rfl 0 rfl ?_
    refine zb_getR X 8 (zTC_lt (by decide)) 5 [3, 0, 0, 11, 12, 13] rfl (C := RX5) (Tt := TX5) (N := 6) rfl kX5_cut_1 3 (by decide) 9 rfl kX5_cut_5 rfl dX5_cut_41 ?_
    refine zb_iload_n X dX5_cut_44 rfl 1 rfl ?_
    refine zb_aload_n X dX5_cut_45 rfl 0 rfl ?_
    refine zb_iload_n X dX5_cut_46 rfl 1 rfl ?_
    refine zb_callVi (n := 1) X 8 (zTC_lt (by decide)) 5 [3, 0, 0, 11, 12, 13] rfl (C := RX5) (Tt := TX5) (N := 6) rfl h gX5_cut_X5_cutOne rfl (by decide +kernel) (by decide) rfl rfl (Nat.le_of_ble_eq_true rfl) dX5_cut_47 (kc' := 0) (ks' := 0) rfl rfl (fun q3 a3 h => ?_)
    obtain ⟨hz, h⟩ := h
    refine zb_iast X 9 (zTC_lt (by decide)) 1 577 0 0 rfl (Or.inl rfl) x2.toNatClampNeg rfl hz dX5_cut_50 ?_
    refine zb_aload_n X dX5_cut_51 rfl 0 rfl ?_
    refine zb_getR X 8 (zTC_lt (by decide)) 5 [3, 0, 0, 11, 12, 13] rfl (C := RX5) (Tt := TX5) (N := 6) rfl kX5_cut_1 3 (by decide) 9 rfl kX5_cut_5 rfl dX5_cut_52 ?_
    refine zb_iload_n X dX5_cut_55 rfl 1 rfl ?_
    obtain ⟨hz, h⟩ := h
    refine zb_iald X 9 (zTC_lt (by decide)) 1 577 0 0 rfl (Or.inl rfl) x2.toNatClampNeg rfl hz dX5_cut_56 (q3) (by simp [up2]) ?_
    refine zb_iconst X (-1 : Int32) dX5_cut_57 (by decide) ?_
    refine zb_icmp_eq X 72 dX5_cut_58 (by decide) (fun c4 => ?_) (fun c4 => ?_)
    · have h := h.1 c4
      refine zb_sub [] rfl ?_
      exact tX5_cut_72 X p1 hR hK12  (up2 a3 9 x2.toNatClampNeg q3) h
    · have h := h.2 c4
      refine zb_aload_n X dX5_cut_61 rfl 0 rfl ?_
      refine zb_getR X 8 (zTC_lt (by decide)) 5 [3, 0, 0, 11, 12, 13] rfl (C := RX5) (Tt := TX5) (N := 6) rfl kX5_cut_1 3 (by decide) 9 rfl kX5_cut_5 rfl dX5_cut_62 ?_
      refine zb_iload_n X dX5_cut_65 rfl 1 rfl ?_
      obtain ⟨hz, h⟩ := h
      refine zb_iald X 9 (zTC_lt (by decide)) 1 577 0 0 rfl (Or.inl rfl) x2.toNatClampNeg rfl hz dX5_cut_66 (q3) (by simp [up2]) ?_
      refine zb_bipush X (-2 : Int32) dX5_cut_67 (by decide) ?_
      refine zb_icmp_ne X 73 dX5_cut_69 (by decide) (fun c5 => ?_) (fun c5 => ?_)
      · have h := h.1 c5
        refine zb_iinc X (lv' := [(2, .int (x2 + (1 : Int32))), (0, .ref (ad 8))]) (x2 + (1 : Int32)) dX5_cut_73 1 rfl rfl (by decide) rfl ?_
        refine zb_goto X 12 dX5_cut_76 (by decide) ?_
        refine zb_sub [1, 0] rfl ?_
        exact hK12 (x2 + (1 : Int32)) (up2 a3 9 x2.toNatClampNeg q3) h
      · have h := h.2 c5
        refine zb_sub [] rfl ?_
        exact tX5_cut_72 X p1 hR hK12  (up2 a3 9 x2.toNatClampNeg q3) h
theorem uX5_cut_0 {G : zG} {Z : zC} {r : Bool} {ad ln : Nat → Nat} (X : zX G Z cX5_cut 3 RX5 wsX5_cut) (p1 : Int32) {post : (Nat → Nat → Int32) → Prop} (hR : zRv G Z rmX5_cut 3 (zTC r) ad ln cX5_cut post) (al : Nat → Nat → Int32) (h : vcX5_cut_0 G r ad ln p1 (BX5_cut_12 G Z r ad ln p1) post  al) : zB G Z rmX5_cut 3 (zTC r) ad ln 0 0 0 [(0, .ref (ad 8)), (1, .int p1)] [] al := tX5_cut_0 X p1 hR (fun _ _ h => h)  al h
theorem uX5_cut_72 {G : zG} {Z : zC} {r : Bool} {ad ln : Nat → Nat} (X : zX G Z cX5_cut 3 RX5 wsX5_cut) (p1 : Int32) {post : (Nat → Nat → Int32) → Prop} (hR : zRv G Z rmX5_cut 3 (zTC r) ad ln cX5_cut post) (al : Nat → Nat → Int32) (h : vcX5_cut_72 G r ad ln p1 (BX5_cut_12 G Z r ad ln p1) post  al) : zB G Z rmX5_cut 3 (zTC r) ad ln 0 0 72 [] [] al := tX5_cut_72 X p1 hR (fun _ _ h => h)  al h
theorem uX5_cut_12 {G : zG} {Z : zC} {r : Bool} {ad ln : Nat → Nat} (X : zX G Z cX5_cut 3 RX5 wsX5_cut) (p1 : Int32) {post : (Nat → Nat → Int32) → Prop} (hR : zRv G Z rmX5_cut 3 (zTC r) ad ln cX5_cut post) (x2 : Int32) (al : Nat → Nat → Int32) (h : vcX5_cut_12 G r ad ln p1 (BX5_cut_12 G Z r ad ln p1) post x2 al) : zB G Z rmX5_cut 3 (zTC r) ad ln 0 0 12 [(0, .ref (ad 8)), (2, .int x2)] [] al := tX5_cut_12 X p1 hR (fun _ _ h => h) x2 al h
