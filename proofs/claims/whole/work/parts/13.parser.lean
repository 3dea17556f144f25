abbrev rmX2_sign : Room := { frames := 0, cells := 0, slots := 0, locals := 0 }
theorem kX2_sign_0 : Cond.fieldLink RX2 34 RX2 "at" "I" ∈ wsX2_sign := by decide +kernel
theorem kX2_sign_1 : zIn RX2 TX2 4 wsX2_sign := by decide +kernel
theorem kX2_sign_2 : Cond.fieldLink RX2 15 RX2 "signs" "LLoopForge$Signs;" ∈ wsX2_sign := by decide +kernel
theorem kX2_sign_3 : Cond.fieldLink RX2 118 RX5 "sign" "[I" ∈ wsX2_sign := by decide +kernel
theorem kX2_sign_4 : zIn RX5 TX5 6 wsX2_sign := by decide +kernel
def vcX2_sign_26 (G : zG) (r : Bool) (ad ln : Nat → Nat)  (post : Int32 → (Nat → Nat → Int32) → Prop) (s0 : Int32) (al : Nat → Nat → Int32) : Prop :=
  post s0 al
def vcX2_sign_0 (G : zG) (r : Bool) (ad ln : Nat → Nat)  (post : Int32 → (Nat → Nat → Int32) → Prop) (al : Nat → Nat → Int32) : Prop :=
  ((577 : Int32) ≤ (al 7 2) → vcX2_sign_26 G r ad ln  post (-1 : Int32) al) ∧ (¬ (577 : Int32) ≤ (al 7 2) → (vp_in (al 7 2) 577 ∧ vcX2_sign_26 G r ad ln  post (al 9 ((al 7 2).toNatClampNeg)) al))
set_option maxRecDepth 20000 in
theorem tX2_sign_26 {G : zG} {Z : zC} {r : Bool} {ad ln : Nat → Nat} (X : zX G Z cX2_sign 1 RX2 wsX2_sign)  {post : Int32 → (Nat → Nat → Int32) → Prop} (hR : zRi G Z rmX2_sign 1 (zTC r) ad ln cX2_sign .int post)  (s0 : Int32) (al : Nat → Nat → Int32) (h : vcX2_sign_26 G r ad ln  post s0 al) : zB G Z rmX2_sign 1 (zTC r) ad ln 0 0 26 [] [.int s0] al := by
  unfold vcX2_sign_26 at h
  exact hR 26 _ _ _ dX2_sign_26 rfl h
set_option maxRecDepth 20000 in
theorem tX2_sign_0 {G : zG} {Z : zC} {r : Bool} {ad ln : Nat → Nat} (X : zX G Z cX2_sign 1 RX2 wsX2_sign)  {post : Int32 → (Nat → Nat → Int32) → Prop} (hR : zRi G Z rmX2_sign 1 (zTC r) ad ln cX2_sign .int post)  (al : Nat → Nat → Int32) (h : vcX2_sign_0 G r ad ln  post  al) : zB G Z rmX2_sign 1 (zTC r) ad ln 0 0 0 [(0, .ref (ad 7))] [] al := by
  unfold vcX2_sign_0 at h
  refine zb_aload_n X dX2_sign_0 rfl 0 rfl ?_
  refine zb_getI X 7 (zTC_lt (by decide)) 2 [10, 6, 0, 0] rfl (C := RX2) (Tt := TX2) (N := 4) rfl kX2_sign_1 2 (by decide) rfl kX2_sign_0 rfl dX2_sign_1 (al 7 2) rfl ?_
  refine zb_sipush X (577 : Int32) dX2_sign_4 (by decide) ?_
  refine zb_icmp_ge X 25 dX2_sign_7 (by decide) (fun c1 => ?_) (fun c1 => ?_)
  · have h := h.1 c1
    refine zb_iconst X (-1 : Int32) dX2_sign_25 (by decide) ?_
    refine zb_sub [] rfl ?_
    exact tX2_sign_26 X hR  (-1 : Int32) al h
  · have h := h.2 c1
    refine zb_aload_n X dX2_sign_10 rfl 0 rfl ?_
    refine zb_getR X 7 (zTC_lt (by decide)) 2 [10, 6, 0, 0] rfl (C := RX2) (Tt := TX2) (N := 4) rfl kX2_sign_1 0 (by decide) 8 rfl kX2_sign_2 rfl dX2_sign_11 ?_
    refine zb_getR X 8 (zTC_lt (by decide)) 5 [3, 0, 0, 11, 12, 13] rfl (C := RX5) (Tt := TX5) (N := 6) rfl kX2_sign_4 3 (by decide) 9 rfl kX2_sign_3 rfl dX2_sign_14 ?_
    refine zb_aload_n X dX2_sign_17 rfl 0 rfl ?_
    refine zb_getI X 7 (zTC_lt (by decide)) 2 [10, 6, 0, 0] rfl (C := RX2) (Tt := TX2) (N := 4) rfl kX2_sign_1 2 (by decide) rfl kX2_sign_0 rfl dX2_sign_18 (al 7 2) rfl ?_
    obtain ⟨hz, h⟩ := h
    refine zb_iald X 9 (zTC_lt (by decide)) 1 577 0 0 rfl (Or.inl rfl) ((al 7 2).toNatClampNeg) rfl hz dX2_sign_21 (al 9 ((al 7 2).toNatClampNeg)) rfl ?_
    refine zb_goto X 26 dX2_sign_22 (by decide) ?_
    refine zb_sub [] rfl ?_
    exact tX2_sign_26 X hR  (al 9 ((al 7 2).toNatClampNeg)) al h

abbrev rmX2_place : Room := { frames := 0, cells := 0, slots := 0, locals := 0 }
theorem kX2_place_0 : Cond.fieldLink RX2 34 RX2 "at" "I" ∈ wsX2_place := by decide +kernel
theorem kX2_place_1 : zIn RX2 TX2 4 wsX2_place := by decide +kernel
theorem kX2_place_2 : Cond.fieldLink RX2 15 RX2 "signs" "LLoopForge$Signs;" ∈ wsX2_place := by decide +kernel
theorem kX2_place_3 : Cond.fieldLink RX2 121 RX5 "place" "[I" ∈ wsX2_place := by decide +kernel
theorem kX2_place_4 : zIn RX5 TX5 6 wsX2_place := by decide +kernel
def vcX2_place_26 (G : zG) (r : Bool) (ad ln : Nat → Nat)  (post : Int32 → (Nat → Nat → Int32) → Prop) (s0 : Int32) (al : Nat → Nat → Int32) : Prop :=
  post s0 al
def vcX2_place_0 (G : zG) (r : Bool) (ad ln : Nat → Nat)  (post : Int32 → (Nat → Nat → Int32) → Prop) (al : Nat → Nat → Int32) : Prop :=
  ((577 : Int32) ≤ (al 7 2) → vcX2_place_26 G r ad ln  post (0 : Int32) al) ∧ (¬ (577 : Int32) ≤ (al 7 2) → (vp_in (al 7 2) 577 ∧ vcX2_place_26 G r ad ln  post (al 10 ((al 7 2).toNatClampNeg)) al))
set_option maxRecDepth 20000 in
theorem tX2_place_26 {G : zG} {Z : zC} {r : Bool} {ad ln : Nat → Nat} (X : zX G Z cX2_place 1 RX2 wsX2_place)  {post : Int32 → (Nat → Nat → Int32) → Prop} (hR : zRi G Z rmX2_place 1 (zTC r) ad ln cX2_place .int post)  (s0 : Int32) (al : Nat → Nat → Int32) (h : vcX2_place_26 G r ad ln  post s0 al) : zB G Z rmX2_place 1 (zTC r) ad ln 0 0 26 [] [.int s0] al := by
  unfold vcX2_place_26 at h
  exact hR 26 _ _ _ dX2_place_26 rfl h
set_option maxRecDepth 20000 in
theorem tX2_place_0 {G : zG} {Z : zC} {r : Bool} {ad ln : Nat → Nat} (X : zX G Z cX2_place 1 RX2 wsX2_place)  {post : Int32 → (Nat → Nat → Int32) → Prop} (hR : zRi G Z rmX2_place 1 (zTC r) ad ln cX2_place .int post)  (al : Nat → Nat → Int32) (h : vcX2_place_0 G r ad ln  post  al) : zB G Z rmX2_place 1 (zTC r) ad ln 0 0 0 [(0, .ref (ad 7))] [] al := by
  unfold vcX2_place_0 at h
  refine zb_aload_n X dX2_place_0 rfl 0 rfl ?_
  refine zb_getI X 7 (zTC_lt (by decide)) 2 [10, 6, 0, 0] rfl (C := RX2) (Tt := TX2) (N := 4) rfl kX2_place_1 2 (by decide) rfl kX2_place_0 rfl dX2_place_1 (al 7 2) rfl ?_
  refine zb_sipush X (577 : Int32) dX2_place_4 (by decide) ?_
  refine zb_icmp_ge X 25 dX2_place_7 (by decide) (fun c1 => ?_) (fun c1 => ?_)
  · have h := h.1 c1
    refine zb_iconst X (0 : Int32) dX2_place_25 (by decide) ?_
    refine zb_sub [] rfl ?_
    exact tX2_place_26 X hR  (0 : Int32) al h
  · have h := h.2 c1
    refine zb_aload_n X dX2_place_10 rfl 0 rfl ?_
    refine zb_getR X 7 (zTC_lt (by decide)) 2 [10, 6, 0, 0] rfl (C := RX2) (Tt := TX2) (N := 4) rfl kX2_place_1 0 (by decide) 8 rfl kX2_place_2 rfl dX2_place_11 ?_
    refine zb_getR X 8 (zTC_lt (by decide)) 5 [3, 0, 0, 11, 12, 13] rfl (C := RX5) (Tt := TX5) (N := 6) rfl kX2_place_4 4 (by decide) 10 rfl kX2_place_3 rfl dX2_place_14 ?_
    refine zb_aload_n X dX2_place_17 rfl 0 rfl ?_
    refine zb_getI X 7 (zTC_lt (by decide)) 2 [10, 6, 0, 0] rfl (C := RX2) (Tt := TX2) (N := 4) rfl kX2_place_1 2 (by decide) rfl kX2_place_0 rfl dX2_place_18 (al 7 2) rfl ?_
    obtain ⟨hz, h⟩ := h
    refine zb_iald X 10 (zTC_lt (by decide)) 1 577 0 0 rfl (Or.inl rfl) ((al 7 2).toNatClampNeg) rfl hz dX2_place_21 (al 10 ((al 7 2).toNatClampNeg)) rfl ?_
    refine zb_goto X 26 dX2_place_22 (by decide) ?_
    refine zb_sub [] rfl ?_
    exact tX2_place_26 X hR  (al 10 ((al 7 2).toNatClampNeg)) al h

abbrev rmX2_value : Room := { frames := 0, cells := 0, slots := 0, locals := 0 }
theorem kX2_value_0 : Cond.fieldLink RX2 34 RX2 "at" "I" ∈ wsX2_value := by decide +kernel
theorem kX2_value_1 : zIn RX2 TX2 4 wsX2_value := by decide +kernel
theorem kX2_value_2 : Cond.fieldLink RX2 15 RX2 "signs" "LLoopForge$Signs;" ∈ wsX2_value := by decide +kernel
theorem kX2_value_3 : Cond.fieldLink RX2 123 RX5 "value" "[I" ∈ wsX2_value := by decide +kernel
theorem kX2_value_4 : zIn RX5 TX5 6 wsX2_value := by decide +kernel
def vcX2_value_26 (G : zG) (r : Bool) (ad ln : Nat → Nat)  (post : Int32 → (Nat → Nat → Int32) → Prop) (s0 : Int32) (al : Nat → Nat → Int32) : Prop :=
  post s0 al
def vcX2_value_0 (G : zG) (r : Bool) (ad ln : Nat → Nat)  (post : Int32 → (Nat → Nat → Int32) → Prop) (al : Nat → Nat → Int32) : Prop :=
  ((577 : Int32) ≤ (al 7 2) → vcX2_value_26 G r ad ln  post (0 : Int32) al) ∧ (¬ (577 : Int32) ≤ (al 7 2) → (vp_in (al 7 2) 577 ∧ vcX2_value_26 G r ad ln  post (al 11 ((al 7 2).toNatClampNeg)) al))
set_option maxRecDepth 20000 in
theorem tX2_value_26 {G : zG} {Z : zC} {r : Bool} {ad ln : Nat → Nat} (X : zX G Z cX2_value 1 RX2 wsX2_value)  {post : Int32 → (Nat → Nat → Int32) → Prop} (hR : zRi G Z rmX2_value 1 (zTC r) ad ln cX2_value .int post)  (s0 : Int32) (al : Nat → Nat → Int32) (h : vcX2_value_26 G r ad ln  post s0 al) : zB G Z rmX2_value 1 (zTC r) ad ln 0 0 26 [] [.int s0] al := by
  unfold vcX2_value_26 at h
  exact hR 26 _ _ _ dX2_value_26 rfl h
set_option maxRecDepth 20000 in
theorem tX2_value_0 {G : zG} {Z : zC} {r : Bool} {ad ln : Nat → Nat} (X : zX G Z cX2_value 1 RX2 wsX2_value)  {post : Int32 → (Nat → Nat → Int32) → Prop} (hR : zRi G Z rmX2_value 1 (zTC r) ad ln cX2_value .int post)  (al : Nat → Nat → Int32) (h : vcX2_value_0 G r ad ln  post  al) : zB G Z rmX2_value 1 (zTC r) ad ln 0 0 0 [(0, .ref (ad 7))] [] al := by
  unfold vcX2_value_0 at h
  refine zb_aload_n X dX2_value_0 rfl 0 rfl ?_
  refine zb_getI X 7 (zTC_lt (by decide)) 2 [10, 6, 0, 0] rfl (C := RX2) (Tt := TX2) (N := 4) rfl kX2_value_1 2 (by decide) rfl kX2_value_0 rfl dX2_value_1 (al 7 2) rfl ?_
  refine zb_sipush X (577 : Int32) dX2_value_4 (by decide) ?_
  refine zb_icmp_ge X 25 dX2_value_7 (by decide) (fun c1 => ?_) (fun c1 => ?_)
  · have h := h.1 c1
    refine zb_iconst X (0 : Int32) dX2_value_25 (by decide) ?_
    refine zb_sub [] rfl ?_
    exact tX2_value_26 X hR  (0 : Int32) al h
  · have h := h.2 c1
    refine zb_aload_n X dX2_value_10 rfl 0 rfl ?_
    refine zb_getR X 7 (zTC_lt (by decide)) 2 [10, 6, 0, 0] rfl (C := RX2) (Tt := TX2) (N := 4) rfl kX2_value_1 0 (by decide) 8 rfl kX2_value_2 rfl dX2_value_11 ?_
    refine zb_getR X 8 (zTC_lt (by decide)) 5 [3, 0, 0, 11, 12, 13] rfl (C := RX5) (Tt := TX5) (N := 6) rfl kX2_value_4 5 (by decide) 11 rfl kX2_value_3 rfl dX2_value_14 ?_
    refine zb_aload_n X dX2_value_17 rfl 0 rfl ?_
    refine zb_getI X 7 (zTC_lt (by decide)) 2 [10, 6, 0, 0] rfl (C := RX2) (Tt := TX2) (N := 4) rfl kX2_value_1 2 (by decide) rfl kX2_value_0 rfl dX2_value_18 (al 7 2) rfl ?_
    obtain ⟨hz, h⟩ := h
    refine zb_iald X 11 (zTC_lt (by decide)) 1 577 0 0 rfl (Or.inl rfl) ((al 7 2).toNatClampNeg) rfl hz dX2_value_21 (al 11 ((al 7 2).toNatClampNeg)) rfl ?_
    refine zb_goto X 26 dX2_value_22 (by decide) ?_
    refine zb_sub [] rfl ?_
    exact tX2_value_26 X hR  (al 11 ((al 7 2).toNatClampNeg)) al h

abbrev rmX2_skip : Room := { frames := 1, cells := 0, slots := 0, locals := 20 }
theorem kX2_skip_0 : Cond.fieldLink RX2 34 RX2 "at" "I" ∈ wsX2_skip := by decide +kernel
theorem kX2_skip_1 : zIn RX2 TX2 4 wsX2_skip := by decide +kernel
def vcX2_skip_0 (G : zG) (r : Bool) (ad ln : Nat → Nat) (p1 : Int32)  (post : Int32 → (Nat → Nat → Int32) → Prop) (al : Nat → Nat → Int32) : Prop :=
  zMi G yX2_sign wsX2_sign rmX2_sign (zTC r) ad ln [.ref (ad 7)] al (fun q1 a1 => (q1 = p1 → post (1 : Int32) (up2 a1 7 2 ((a1 7 2) + (1 : Int32)))) ∧ (¬ q1 = p1 → post (0 : Int32) a1))
set_option maxRecDepth 20000 in
theorem tX2_skip_0 {G : zG} {Z : zC} {r : Bool} {ad ln : Nat → Nat} (X : zX G Z cX2_skip 2 RX2 wsX2_skip) (p1 : Int32)  {post : Int32 → (Nat → Nat → Int32) → Prop} (hR : zRi G Z rmX2_skip 2 (zTC r) ad ln cX2_skip .boolean post)  (al : Nat → Nat → Int32) (h : vcX2_skip_0 G r ad ln p1  post  al) : zB G Z rmX2_skip 2 (zTC r) ad ln 0 0 0 [(0, .ref (ad 7)), (1, .int p1)] [] al := by
  unfold vcX2_skip_0 at h
  refine zb_aload_n X dX2_skip_0 rfl 0 rfl ?_
  refine zb_callVi (n := 0) X 7 (zTC_lt (by decide)) 2 [10, 6, 0, 0] rfl (C := RX2) (Tt := TX2) (N := 4) rfl h gX2_skip_X2_sign rfl (by decide +kernel) (by decide) rfl rfl (Nat.le_of_ble_eq_true rfl) dX2_skip_1 (kc' := 0) (ks' := 0) rfl rfl (fun q1 a1 h => ?_)
  refine zb_iload_n X dX2_skip_4 rfl 1 rfl ?_
  refine zb_icmp_eq X 10 dX2_skip_5 (by decide) (fun c2 => ?_) (fun c2 => ?_)
  · have h := h.1 c2
    refine zb_aload_n X dX2_skip_10 rfl 0 rfl ?_
    refine zb_dup X dX2_skip_11 rfl ?_
    refine zb_getI X 7 (zTC_lt (by decide)) 2 [10, 6, 0, 0] rfl (C := RX2) (Tt := TX2) (N := 4) rfl kX2_skip_1 2 (by decide) rfl kX2_skip_0 rfl dX2_skip_12 (a1 7 2) rfl ?_
    refine zb_iconst X (1 : Int32) dX2_skip_15 (by decide) ?_
    refine zb_iadd X dX2_skip_16 ?_
    refine zb_putI X 7 (zTC_lt (by decide)) 2 [10, 6, 0, 0] rfl (C := RX2) (Tt := TX2) (N := 4) rfl kX2_skip_1 tyX2 tyX2_ok nmX2 2 (by decide) rfl kX2_skip_0 rfl rfl rfl rfl dX2_skip_17 ?_
    refine zb_iconst X (1 : Int32) dX2_skip_20 (by decide) ?_
    exact hR 21 _ _ _ dX2_skip_21 rfl h
  · have h := h.2 c2
    refine zb_iconst X (0 : Int32) dX2_skip_8 (by decide) ?_
    exact hR 9 _ _ _ dX2_skip_9 rfl h

abbrev rmX2_skipNumber : Room := { frames := 1, cells := 0, slots := 0, locals := 20 }
theorem kX2_skipNumber_0 : Cond.fieldLink RX2 34 RX2 "at" "I" ∈ wsX2_skipNumber := by decide +kernel
theorem kX2_skipNumber_1 : zIn RX2 TX2 4 wsX2_skipNumber := by decide +kernel
def vcX2_skipNumber_17 (G : zG) (r : Bool) (ad ln : Nat → Nat) (p1 : Int32)  (post : Int32 → (Nat → Nat → Int32) → Prop) (al : Nat → Nat → Int32) : Prop :=
  post (0 : Int32) al
def vcX2_skipNumber_0 (G : zG) (r : Bool) (ad ln : Nat → Nat) (p1 : Int32)  (post : Int32 → (Nat → Nat → Int32) → Prop) (al : Nat → Nat → Int32) : Prop :=
  zMi G yX2_sign wsX2_sign rmX2_sign (zTC r) ad ln [.ref (ad 7)] al (fun q1 a1 => (¬ q1 = (48 : Int32) → vcX2_skipNumber_17 G r ad ln p1  post  a1) ∧ (q1 = (48 : Int32) → zMi G yX2_value wsX2_value rmX2_value (zTC r) ad ln [.ref (ad 7)] a1 (fun q3 a3 => (q3 ≤ p1 → post (1 : Int32) (up2 a3 7 2 ((a3 7 2) + (1 : Int32)))) ∧ (¬ q3 ≤ p1 → vcX2_skipNumber_17 G r ad ln p1  post  a3))))
set_option maxRecDepth 20000 in
theorem tX2_skipNumber_17 {G : zG} {Z : zC} {r : Bool} {ad ln : Nat → Nat} (X : zX G Z cX2_skipNumber 2 RX2 wsX2_skipNumber) (p1 : Int32)  {post : Int32 → (Nat → Nat → Int32) → Prop} (hR : zRi G Z rmX2_skipNumber 2 (zTC r) ad ln cX2_skipNumber .boolean post)  (al : Nat → Nat → Int32) (h : vcX2_skipNumber_17 G r ad ln p1  post  al) : zB G Z rmX2_skipNumber 2 (zTC r) ad ln 0 0 17 [] [] al := by
  unfold vcX2_skipNumber_17 at h
  refine zb_iconst X (0 : Int32) dX2_skipNumber_17 (by decide) ?_
  exact hR 18 _ _ _ dX2_skipNumber_18 rfl h
set_option maxRecDepth 20000 in
theorem tX2_skipNumber_0 {G : zG} {Z : zC} {r : Bool} {ad ln : Nat → Nat} (X : zX G Z cX2_skipNumber 2 RX2 wsX2_skipNumber) (p1 : Int32)  {post : Int32 → (Nat → Nat → Int32) → Prop} (hR : zRi G Z rmX2_skipNumber 2 (zTC r) ad ln cX2_skipNumber .boolean post)  (al : Nat → Nat → Int32) (h : vcX2_skipNumber_0 G r ad ln p1  post  al) : zB G Z rmX2_skipNumber 2 (zTC r) ad ln 0 0 0 [(0, .ref (ad 7)), (1, .int p1)] [] al := by
  unfold vcX2_skipNumber_0 at h
  refine zb_aload_n X dX2_skipNumber_0 rfl 0 rfl ?_
  refine zb_callVi (n := 0) X 7 (zTC_lt (by decide)) 2 [10, 6, 0, 0] rfl (C := RX2) (Tt := TX2) (N := 4) rfl h gX2_skipNumber_X2_sign rfl (by decide +kernel) (by decide) rfl rfl (Nat.le_of_ble_eq_true rfl) dX2_skipNumber_1 (kc' := 0) (ks' := 0) rfl rfl (fun q1 a1 h => ?_)
  refine zb_bipush X (48 : Int32) dX2_skipNumber_4 (by decide) ?_
  refine zb_icmp_ne X 17 dX2_skipNumber_6 (by decide) (fun c2 => ?_) (fun c2 => ?_)
  · have h := h.1 c2
    refine zb_sub [] rfl ?_
    exact tX2_skipNumber_17 X p1 hR   a1 h
  · have h := h.2 c2
    refine zb_aload_n X dX2_skipNumber_9 rfl 0 rfl ?_
    refine zb_callVi (n := 0) X 7 (zTC_lt (by decide)) 2 [10, 6, 0, 0] rfl (C := RX2) (Tt := TX2) (N := 4) rfl h gX2_skipNumber_X2_value rfl (by decide +kernel) (by decide) rfl rfl (Nat.le_of_ble_eq_true rfl) dX2_skipNumber_10 (kc' := 0) (ks' := 0) rfl rfl (fun q3 a3 h => ?_)
    refine zb_iload_n X dX2_skipNumber_13 rfl 1 rfl ?_
    refine zb_icmp_le X 19 dX2_skipNumber_14 (by decide) (fun c4 => ?_) (fun c4 => ?_)
    · have h := h.1 c4
      refine zb_aload_n X dX2_skipNumber_19 rfl 0 rfl ?_
      refine zb_dup X dX2_skipNumber_20 rfl ?_
      refine zb_getI X 7 (zTC_lt (by decide)) 2 [10, 6, 0, 0] rfl (C := RX2) (Tt := TX2) (N := 4) rfl kX2_skipNumber_1 2 (by decide) rfl kX2_skipNumber_0 rfl dX2_skipNumber_21 (a3 7 2) rfl ?_
      refine zb_iconst X (1 : Int32) dX2_skipNumber_24 (by decide) ?_
      refine zb_iadd X dX2_skipNumber_25 ?_
      refine zb_putI X 7 (zTC_lt (by decide)) 2 [10, 6, 0, 0] rfl (C := RX2) (Tt := TX2) (N := 4) rfl kX2_skipNumber_1 tyX2 tyX2_ok nmX2 2 (by decide) rfl kX2_skipNumber_0 rfl rfl rfl rfl dX2_skipNumber_26 ?_
      refine zb_iconst X (1 : Int32) dX2_skipNumber_29 (by decide) ?_
      exact hR 30 _ _ _ dX2_skipNumber_30 rfl h
    · have h := h.2 c4
      refine zb_sub [] rfl ?_
      exact tX2_skipNumber_17 X p1 hR   a3 h

abbrev rmX2_readShift : Room := { frames := 2, cells := 0, slots := 0, locals := 41 }
theorem kX2_readShift_0 : Cond.fieldLink RX2 34 RX2 "at" "I" ∈ wsX2_readShift := by decide +kernel
theorem kX2_readShift_1 : zIn RX2 TX2 4 wsX2_readShift := by decide +kernel
theorem kX2_readShift_2 : Cond.fieldLink RX2 109 RX3 "shift" "I" ∈ wsX2_readShift := by decide +kernel
theorem kX2_readShift_3 : zIn RX3 TX3 9 wsX2_readShift := by decide +kernel
def vcX2_readShift_57 (G : zG) (r : Bool) (ad ln : Nat → Nat) (w1 : Nat) (hw1 : w1 < 48)  (post : Int32 → (Nat → Nat → Int32) → Prop) (s0 : Int32) (al : Nat → Nat → Int32) : Prop :=
  zMi G yX2_skipNumber wsX2_skipNumber rmX2_skipNumber (zTC r) ad ln [.ref (ad 7), .int (250 : Int32)] (up2 al (29 + 3 * w1) 6 s0) (fun q1 a1 => zOk .boolean q1 ∧ post q1 a1)
def vcX2_readShift_30 (G : zG) (r : Bool) (ad ln : Nat → Nat) (w1 : Nat) (hw1 : w1 < 48)  (post : Int32 → (Nat → Nat → Int32) → Prop) (x2 : Int32) (al : Nat → Nat → Int32) : Prop :=
  (x2 = 0 → zMi G yX2_value wsX2_value rmX2_value (zTC r) ad ln [.ref (ad 7)] (up2 al 7 2 ((al 7 2) + (1 : Int32))) (fun q2 a2 => vcX2_readShift_57 G r ad ln w1 hw1  post q2 a2)) ∧ (¬ x2 = 0 → zMi G yX2_value wsX2_value rmX2_value (zTC r) ad ln [.ref (ad 7)] (up2 al 7 2 ((al 7 2) + (1 : Int32))) (fun q2 a2 => vcX2_readShift_57 G r ad ln w1 hw1  post (-q2) a2))
def vcX2_readShift_14 (G : zG) (r : Bool) (ad ln : Nat → Nat) (w1 : Nat) (hw1 : w1 < 48)  (post : Int32 → (Nat → Nat → Int32) → Prop) (s0 : Int32) (al : Nat → Nat → Int32) : Prop :=
  (¬ s0 = 0 → vcX2_readShift_30 G r ad ln w1 hw1  post s0 al) ∧ (s0 = 0 → zMi G yX2_sign wsX2_sign rmX2_sign (zTC r) ad ln [.ref (ad 7)] al (fun q2 a2 => (q2 = (43 : Int32) → vcX2_readShift_30 G r ad ln w1 hw1  post s0 a2) ∧ (¬ q2 = (43 : Int32) → post (1 : Int32) a2)))
def vcX2_readShift_0 (G : zG) (r : Bool) (ad ln : Nat → Nat) (w1 : Nat) (hw1 : w1 < 48)  (post : Int32 → (Nat → Nat → Int32) → Prop) (al : Nat → Nat → Int32) : Prop :=
  zMi G yX2_sign wsX2_sign rmX2_sign (zTC r) ad ln [.ref (ad 7)] al (fun q1 a1 => (¬ q1 = (45 : Int32) → vcX2_readShift_14 G r ad ln w1 hw1  post (0 : Int32) a1) ∧ (q1 = (45 : Int32) → vcX2_readShift_14 G r ad ln w1 hw1  post (1 : Int32) a1))
set_option maxRecDepth 20000 in
theorem tX2_readShift_57 {G : zG} {Z : zC} {r : Bool} {ad ln : Nat → Nat} (X : zX G Z cX2_readShift 3 RX2 wsX2_readShift) (w1 : Nat) (hw1 : w1 < 48)  {post : Int32 → (Nat → Nat → Int32) → Prop} (hR : zRi G Z rmX2_readShift 3 (zTC r) ad ln cX2_readShift .boolean post)  (s0 : Int32) (al : Nat → Nat → Int32) (h : vcX2_readShift_57 G r ad ln w1 hw1  post s0 al) : zB G Z rmX2_readShift 3 (zTC r) ad ln 0 0 57 [(0, .ref (ad 7))] [.int s0, .ref (ad (29 + 3 * w1))] al := by
  unfold vcX2_readShift_57 at h
  refine zb_putI X (29 + 3 * w1) (zTC_lt (zrow_lt hw1)) 3 [0, 0, 0, 0, 0, 0, 0, (30 + 3 * w1) + 2, (31 + 3 * w1) + 2] (zTC_row r hw1) (C := RX3) (Tt := TX3) (N := 9) rfl kX2_readShift_3 tyX3 tyX3_ok nmX3 6 (by decide) rfl kX2_readShift_2 rfl rfl rfl rfl dX2_readShift_57 ?_
  refine zb_aload_n X dX2_readShift_60 rfl 0 rfl ?_
  refine zb_sipush X (250 : Int32) dX2_readShift_61 (by decide) ?_
  refine zb_callVi (n := 1) X 7 (zTC_lt (by decide)) 2 [10, 6, 0, 0] rfl (C := RX2) (Tt := TX2) (N := 4) rfl h gX2_readShift_X2_skipNumber rfl (by decide +kernel) (by decide) rfl rfl (Nat.le_of_ble_eq_true rfl) dX2_readShift_64 (kc' := 0) (ks' := 0) rfl rfl (fun q1 a1 h => ?_)
  exact hR 67 _ _ _ dX2_readShift_67 h.1 h.2
set_option maxRecDepth 20000 in
theorem tX2_readShift_30 {G : zG} {Z : zC} {r : Bool} {ad ln : Nat → Nat} (X : zX G Z cX2_readShift 3 RX2 wsX2_readShift) (w1 : Nat) (hw1 : w1 < 48)  {post : Int32 → (Nat → Nat → Int32) → Prop} (hR : zRi G Z rmX2_readShift 3 (zTC r) ad ln cX2_readShift .boolean post)  (x2 : Int32) (al : Nat → Nat → Int32) (h : vcX2_readShift_30 G r ad ln w1 hw1  post x2 al) : zB G Z rmX2_readShift 3 (zTC r) ad ln 0 0 30 [(0, .ref (ad 7)), (1, .ref (ad (29 + 3 * w1))), (2, .int x2)] [] al := by
  unfold vcX2_readShift_30 at h
  refine zb_aload_n X dX2_readShift_30 rfl 0 rfl ?_
  refine zb_dup X dX2_readShift_31 rfl ?_
  refine zb_getI X 7 (zTC_lt (by decide)) 2 [10, 6, 0, 0] rfl (C := RX2) (Tt := TX2) (N := 4) rfl kX2_readShift_1 2 (by decide) rfl kX2_readShift_0 rfl dX2_readShift_32 (al 7 2) rfl ?_
  refine zb_iconst X (1 : Int32) dX2_readShift_35 (by decide) ?_
  refine zb_iadd X dX2_readShift_36 ?_
  refine zb_putI X 7 (zTC_lt (by decide)) 2 [10, 6, 0, 0] rfl (C := RX2) (Tt := TX2) (N := 4) rfl kX2_readShift_1 tyX2 tyX2_ok nmX2 2 (by decide) rfl kX2_readShift_0 rfl rfl rfl rfl dX2_readShift_37 ?_
  refine zb_aload_n X dX2_readShift_40 rfl 1 rfl ?_
  refine zb_iload_n X dX2_readShift_41 rfl 2 rfl ?_
  refine zb_if_eq X 53 dX2_readShift_42 (by decide) (fun c1 => ?_) (fun c1 => ?_)
  · have h := h.1 c1
    refine zb_aload_n X dX2_readShift_53 rfl 0 rfl ?_
    refine zb_callVi (n := 0) X 7 (zTC_lt (by decide)) 2 [10, 6, 0, 0] rfl (C := RX2) (Tt := TX2) (N := 4) rfl h gX2_readShift_X2_value rfl (by decide +kernel) (by decide) rfl rfl (Nat.le_of_ble_eq_true rfl) dX2_readShift_54 (kc' := 0) (ks' := 0) rfl rfl (fun q2 a2 h => ?_)
    refine zb_sub [0] rfl ?_
    exact tX2_readShift_57 X w1 hw1 hR  q2 a2 h
  · have h := h.2 c1
    refine zb_aload_n X dX2_readShift_45 rfl 0 rfl ?_
    refine zb_callVi (n := 0) X 7 (zTC_lt (by decide)) 2 [10, 6, 0, 0] rfl (C := RX2) (Tt := TX2) (N := 4) rfl h gX2_readShift_X2_value rfl (by decide +kernel) (by decide) rfl rfl (Nat.le_of_ble_eq_true rfl) dX2_readShift_46 (kc' := 0) (ks' := 0) rfl rfl (fun q2 a2 h => ?_)
    refine zb_ineg X dX2_readShift_49 ?_
    refine zb_goto X 57 dX2_readShift_50 (by decide) ?_
    refine zb_sub [0] rfl ?_
    exact tX2_readShift_57 X w1 hw1 hR  (-q2) a2 h
set_option maxRecDepth 20000 in
theorem tX2_readShift_14 {G : zG} {Z : zC} {r : Bool} {ad ln : Nat → Nat} (X : zX G Z cX2_readShift 3 RX2 wsX2_readShift) (w1 : Nat) (hw1 : w1 < 48)  {post : Int32 → (Nat → Nat → Int32) → Prop} (hR : zRi G Z rmX2_readShift 3 (zTC r) ad ln cX2_readShift .boolean post)  (s0 : Int32) (al : Nat → Nat → Int32) (h : vcX2_readShift_14 G r ad ln w1 hw1  post s0 al) : zB G Z rmX2_readShift 3 (zTC r) ad ln 0 0 14 [(0, .ref (ad 7)), (1, .ref (ad (29 + 3 * w1)))] [.int s0] al := by
  unfold vcX2_readShift_14 at h
  refine zb_istore_n X (lv' := [(2, .int s0), (0, .ref (ad 7)), (1, .ref (ad (29 + 3 * w1)))]) dX2_readShift_14 rfl (by decide) rfl ?_
  refine zb_iload_n X dX2_readShift_15 rfl 0 rfl ?_
  refine zb_if_ne X 30 dX2_readShift_16 (by decide) (fun c1 => ?_) (fun c1 => ?_)
  · have h := h.1 c1
    refine zb_sub [1, 2, 0] rfl ?_
    exact tX2_readShift_30 X w1 hw1 hR  s0 al h
  · have h := h.2 c1
    refine zb_aload_n X dX2_readShift_19 rfl 1 rfl ?_
    refine zb_callVi (n := 0) X 7 (zTC_lt (by decide)) 2 [10, 6, 0, 0] rfl (C := RX2) (Tt := TX2) (N := 4) rfl h gX2_readShift_X2_sign rfl (by decide +kernel) (by decide) rfl rfl (Nat.le_of_ble_eq_true rfl) dX2_readShift_20 (kc' := 0) (ks' := 0) rfl rfl (fun q2 a2 h => ?_)
    refine zb_bipush X (43 : Int32) dX2_readShift_23 (by decide) ?_
    refine zb_icmp_eq X 30 dX2_readShift_25 (by decide) (fun c3 => ?_) (fun c3 => ?_)
    · have h := h.1 c3
      refine zb_sub [1, 2, 0] rfl ?_
      exact tX2_readShift_30 X w1 hw1 hR  s0 a2 h
    · have h := h.2 c3
      refine zb_iconst X (1 : Int32) dX2_readShift_28 (by decide) ?_
      exact hR 29 _ _ _ dX2_readShift_29 rfl h
set_option maxRecDepth 20000 in
theorem tX2_readShift_0 {G : zG} {Z : zC} {r : Bool} {ad ln : Nat → Nat} (X : zX G Z cX2_readShift 3 RX2 wsX2_readShift) (w1 : Nat) (hw1 : w1 < 48)  {post : Int32 → (Nat → Nat → Int32) → Prop} (hR : zRi G Z rmX2_readShift 3 (zTC r) ad ln cX2_readShift .boolean post)  (al : Nat → Nat → Int32) (h : vcX2_readShift_0 G r ad ln w1 hw1  post  al) : zB G Z rmX2_readShift 3 (zTC r) ad ln 0 0 0 [(0, .ref (ad 7)), (1, .ref (ad (29 + 3 * w1)))] [] al := by
  unfold vcX2_readShift_0 at h
  refine zb_aload_n X dX2_readShift_0 rfl 0 rfl ?_
  refine zb_callVi (n := 0) X 7 (zTC_lt (by decide)) 2 [10, 6, 0, 0] rfl (C := RX2) (Tt := TX2) (N := 4) rfl h gX2_readShift_X2_sign rfl (by decide +kernel) (by decide) rfl rfl (Nat.le_of_ble_eq_true rfl) dX2_readShift_1 (kc' := 0) (ks' := 0) rfl rfl (fun q1 a1 h => ?_)
  refine zb_bipush X (45 : Int32) dX2_readShift_4 (by decide) ?_
  refine zb_icmp_ne X 13 dX2_readShift_6 (by decide) (fun c2 => ?_) (fun c2 => ?_)
  · have h := h.1 c2
    refine zb_iconst X (0 : Int32) dX2_readShift_13 (by decide) ?_
    refine zb_sub [0, 1] rfl ?_
    exact tX2_readShift_14 X w1 hw1 hR  (0 : Int32) a1 h
  · have h := h.2 c2
    refine zb_iconst X (1 : Int32) dX2_readShift_9 (by decide) ?_
    refine zb_goto X 14 dX2_readShift_10 (by decide) ?_
    refine zb_sub [0, 1] rfl ?_
    exact tX2_readShift_14 X w1 hw1 hR  (1 : Int32) a1 h

abbrev rmX2_readOperand : Room := { frames := 2, cells := 0, slots := 0, locals := 41 }
theorem kX2_readOperand_0 : Cond.fieldLink RX2 34 RX2 "at" "I" ∈ wsX2_readOperand := by decide +kernel
theorem kX2_readOperand_1 : zIn RX2 TX2 4 wsX2_readOperand := by decide +kernel
def vcX2_readOperand_54 (G : zG) (r : Bool) (ad ln : Nat → Nat) (o1 : Nat) (ho1 : zOp r o1)  (post : Int32 → (Nat → Nat → Int32) → Prop) (s0 s1 : Int32) (al : Nat → Nat → Int32) : Prop :=
  zMv G yX1_become wsX1_become rmX1_become (zTC r) ad ln [.ref (ad o1), .int s1, .int s0] al (fun a1 => post (1 : Int32) (up2 a1 7 2 ((a1 7 2) + (1 : Int32))))
def vcX2_readOperand_36 (G : zG) (r : Bool) (ad ln : Nat → Nat) (o1 : Nat) (ho1 : zOp r o1)  (post : Int32 → (Nat → Nat → Int32) → Prop) (x2 x3 : Int32) (al : Nat → Nat → Int32) : Prop :=
  (x2 = 0 → zMi G yX2_value wsX2_value rmX2_value (zTC r) ad ln [.ref (ad 7)] al (fun q2 a2 => vcX2_readOperand_54 G r ad ln o1 ho1  post q2 x3 a2)) ∧ (¬ x2 = 0 → zMi G yX2_value wsX2_value rmX2_value (zTC r) ad ln [.ref (ad 7)] al (fun q2 a2 => vcX2_readOperand_54 G r ad ln o1 ho1  post (-q2) x3 a2))
def vcX2_readOperand_34 (G : zG) (r : Bool) (ad ln : Nat → Nat) (o1 : Nat) (ho1 : zOp r o1)  (post : Int32 → (Nat → Nat → Int32) → Prop) (al : Nat → Nat → Int32) : Prop :=
  post (0 : Int32) al
def vcX2_readOperand_0 (G : zG) (r : Bool) (ad ln : Nat → Nat) (o1 : Nat) (ho1 : zOp r o1)  (post : Int32 → (Nat → Nat → Int32) → Prop) (al : Nat → Nat → Int32) : Prop :=
  zMi G yX2_skip wsX2_skip rmX2_skip (zTC r) ad ln [.ref (ad 7), .int (45 : Int32)] al (fun q1 a1 => zMi G yX2_sign wsX2_sign rmX2_sign (zTC r) ad ln [.ref (ad 7)] a1 (fun q2 a2 => (q2 = (48 : Int32) → vcX2_readOperand_36 G r ad ln o1 ho1  post q1 q2 a2) ∧ (¬ q2 = (48 : Int32) → (¬ q1 = 0 → vcX2_readOperand_34 G r ad ln o1 ho1  post  a2) ∧ (q1 = 0 → (q2 = (114 : Int32) → vcX2_readOperand_36 G r ad ln o1 ho1  post q1 q2 a2) ∧ (¬ q2 = (114 : Int32) → (q2 = (105 : Int32) → vcX2_readOperand_36 G r ad ln o1 ho1  post q1 q2 a2) ∧ (¬ q2 = (105 : Int32) → vcX2_readOperand_34 G r ad ln o1 ho1  post  a2))))))
set_option maxRecDepth 20000 in
theorem tX2_readOperand_54 {G : zG} {Z : zC} {r : Bool} {ad ln : Nat → Nat} (X : zX G Z cX2_readOperand 4 RX2 wsX2_readOperand) (o1 : Nat) (ho1 : zOp r o1)  {post : Int32 → (Nat → Nat → Int32) → Prop} (hR : zRi G Z rmX2_readOperand 4 (zTC r) ad ln cX2_readOperand .boolean post)  (s0 s1 : Int32) (al : Nat → Nat → Int32) (h : vcX2_readOperand_54 G r ad ln o1 ho1  post s0 s1 al) : zB G Z rmX2_readOperand 4 (zTC r) ad ln 0 0 54 [(0, .ref (ad 7))] [.int s0, .int s1, .ref (ad o1)] al := by
  unfold vcX2_readOperand_54 at h
  refine zb_callVv (n := 2) X o1 ho1.1 1 [0, 0] ho1.2 (C := RX1) (Tt := TX1) (N := 2) rfl h gX2_readOperand_X1_become rfl (by decide +kernel) (by decide) rfl rfl (Nat.le_of_ble_eq_true rfl) dX2_readOperand_54 (kc' := 0) (ks' := 0) rfl rfl (fun a1 h => ?_)
  refine zb_aload_n X dX2_readOperand_57 rfl 0 rfl ?_
  refine zb_dup X dX2_readOperand_58 rfl ?_
  refine zb_getI X 7 (zTC_lt (by decide)) 2 [10, 6, 0, 0] rfl (C := RX2) (Tt := TX2) (N := 4) rfl kX2_readOperand_1 2 (by decide) rfl kX2_readOperand_0 rfl dX2_readOperand_59 (a1 7 2) rfl ?_
  refine zb_iconst X (1 : Int32) dX2_readOperand_62 (by decide) ?_
  refine zb_iadd X dX2_readOperand_63 ?_
  refine zb_putI X 7 (zTC_lt (by decide)) 2 [10, 6, 0, 0] rfl (C := RX2) (Tt := TX2) (N := 4) rfl kX2_readOperand_1 tyX2 tyX2_ok nmX2 2 (by decide) rfl kX2_readOperand_0 rfl rfl rfl rfl dX2_readOperand_64 ?_
  refine zb_iconst X (1 : Int32) dX2_readOperand_67 (by decide) ?_
  exact hR 68 _ _ _ dX2_readOperand_68 rfl h
set_option maxRecDepth 20000 in
theorem tX2_readOperand_36 {G : zG} {Z : zC} {r : Bool} {ad ln : Nat → Nat} (X : zX G Z cX2_readOperand 4 RX2 wsX2_readOperand) (o1 : Nat) (ho1 : zOp r o1)  {post : Int32 → (Nat → Nat → Int32) → Prop} (hR : zRi G Z rmX2_readOperand 4 (zTC r) ad ln cX2_readOperand .boolean post)  (x2 x3 : Int32) (al : Nat → Nat → Int32) (h : vcX2_readOperand_36 G r ad ln o1 ho1  post x2 x3 al) : zB G Z rmX2_readOperand 4 (zTC r) ad ln 0 0 36 [(0, .ref (ad 7)), (1, .ref (ad o1)), (2, .int x2), (3, .int x3)] [] al := by
  unfold vcX2_readOperand_36 at h
  refine zb_aload_n X dX2_readOperand_36 rfl 1 rfl ?_
  refine zb_iload_n X dX2_readOperand_37 rfl 3 rfl ?_
  refine zb_iload_n X dX2_readOperand_38 rfl 2 rfl ?_
  refine zb_if_eq X 50 dX2_readOperand_39 (by decide) (fun c1 => ?_) (fun c1 => ?_)
  · have h := h.1 c1
    refine zb_aload_n X dX2_readOperand_50 rfl 0 rfl ?_
    refine zb_callVi (n := 0) X 7 (zTC_lt (by decide)) 2 [10, 6, 0, 0] rfl (C := RX2) (Tt := TX2) (N := 4) rfl h gX2_readOperand_X2_value rfl (by decide +kernel) (by decide) rfl rfl (Nat.le_of_ble_eq_true rfl) dX2_readOperand_51 (kc' := 0) (ks' := 0) rfl rfl (fun q2 a2 h => ?_)
    refine zb_sub [0] rfl ?_
    exact tX2_readOperand_54 X o1 ho1 hR  q2 x3 a2 h
  · have h := h.2 c1
    refine zb_aload_n X dX2_readOperand_42 rfl 0 rfl ?_
    refine zb_callVi (n := 0) X 7 (zTC_lt (by decide)) 2 [10, 6, 0, 0] rfl (C := RX2) (Tt := TX2) (N := 4) rfl h gX2_readOperand_X2_value rfl (by decide +kernel) (by decide) rfl rfl (Nat.le_of_ble_eq_true rfl) dX2_readOperand_43 (kc' := 0) (ks' := 0) rfl rfl (fun q2 a2 h => ?_)
    refine zb_ineg X dX2_readOperand_46 ?_
    refine zb_goto X 54 dX2_readOperand_47 (by decide) ?_
    refine zb_sub [0] rfl ?_
    exact tX2_readOperand_54 X o1 ho1 hR  (-q2) x3 a2 h
set_option maxRecDepth 20000 in
theorem tX2_readOperand_34 {G : zG} {Z : zC} {r : Bool} {ad ln : Nat → Nat} (X : zX G Z cX2_readOperand 4 RX2 wsX2_readOperand) (o1 : Nat) (ho1 : zOp r o1)  {post : Int32 → (Nat → Nat → Int32) → Prop} (hR : zRi G Z rmX2_readOperand 4 (zTC r) ad ln cX2_readOperand .boolean post)  (al : Nat → Nat → Int32) (h : vcX2_readOperand_34 G r ad ln o1 ho1  post  al) : zB G Z rmX2_readOperand 4 (zTC r) ad ln 0 0 34 [] [] al := by
  unfold vcX2_readOperand_34 at h
  refine zb_iconst X (0 : Int32) dX2_readOperand_34 (by decide) ?_
  exact hR 35 _ _ _ dX2_readOperand_35 rfl h
set_option maxRecDepth 20000 in
theorem tX2_readOperand_0 {G : zG} {Z : zC} {r : Bool} {ad ln : Nat → Nat} (X : zX G Z cX2_readOperand 4 RX2 wsX2_readOperand) (o1 : Nat) (ho1 : zOp r o1)  {post : Int32 → (Nat → Nat → Int32) → Prop} (hR : zRi G Z rmX2_readOperand 4 (zTC r) ad ln cX2_readOperand .boolean post)  (al : Nat → Nat → Int32) (h : vcX2_readOperand_0 G r ad ln o1 ho1  post  al) : zB G Z rmX2_readOperand 4 (zTC r) ad ln 0 0 0 [(0, .ref (ad 7)), (1, .ref (ad o1))] [] al := by
  unfold vcX2_readOperand_0 at h
  refine zb_aload_n X dX2_readOperand_0 rfl 0 rfl ?_
  refine zb_bipush X (45 : Int32) dX2_readOperand_1 (by decide) ?_
  refine zb_callVi (n := 1) X 7 (zTC_lt (by decide)) 2 [10, 6, 0, 0] rfl (C := RX2) (Tt := TX2) (N := 4) rfl h gX2_readOperand_X2_skip rfl (by decide +kernel) (by decide) rfl rfl (Nat.le_of_ble_eq_true rfl) dX2_readOperand_3 (kc' := 0) (ks' := 0) rfl rfl (fun q1 a1 h => ?_)
  refine zb_istore_n X (lv' := [(2, .int q1), (0, .ref (ad 7)), (1, .ref (ad o1))]) dX2_readOperand_6 rfl (by decide) rfl ?_
  refine zb_aload_n X dX2_readOperand_7 rfl 1 rfl ?_
  refine zb_callVi (n := 0) X 7 (zTC_lt (by decide)) 2 [10, 6, 0, 0] rfl (C := RX2) (Tt := TX2) (N := 4) rfl h gX2_readOperand_X2_sign rfl (by decide +kernel) (by decide) rfl rfl (Nat.le_of_ble_eq_true rfl) dX2_readOperand_8 (kc' := 0) (ks' := 0) rfl rfl (fun q2 a2 h => ?_)
  refine zb_istore_n X (lv' := [(3, .int q2), (2, .int q1), (0, .ref (ad 7)), (1, .ref (ad o1))]) dX2_readOperand_11 rfl (by decide) rfl ?_
  refine zb_iload_n X dX2_readOperand_12 rfl 0 rfl ?_
  refine zb_bipush X (48 : Int32) dX2_readOperand_13 (by decide) ?_
  refine zb_icmp_eq X 36 dX2_readOperand_15 (by decide) (fun c3 => ?_) (fun c3 => ?_)
  · have h := h.1 c3
    refine zb_sub [2, 3, 1, 0] rfl ?_
    exact tX2_readOperand_36 X o1 ho1 hR  q1 q2 a2 h
  · have h := h.2 c3
    refine zb_iload_n X dX2_readOperand_18 rfl 1 rfl ?_
    refine zb_if_ne X 34 dX2_readOperand_19 (by decide) (fun c4 => ?_) (fun c4 => ?_)
    · have h := h.1 c4
      refine zb_sub [] rfl ?_
      exact tX2_readOperand_34 X o1 ho1 hR   a2 h
    · have h := h.2 c4
      refine zb_iload_n X dX2_readOperand_22 rfl 0 rfl ?_
      refine zb_bipush X (114 : Int32) dX2_readOperand_23 (by decide) ?_
      refine zb_icmp_eq X 36 dX2_readOperand_25 (by decide) (fun c5 => ?_) (fun c5 => ?_)
      · have h := h.1 c5
        refine zb_sub [2, 3, 1, 0] rfl ?_
        exact tX2_readOperand_36 X o1 ho1 hR  q1 q2 a2 h
      · have h := h.2 c5
        refine zb_iload_n X dX2_readOperand_28 rfl 0 rfl ?_
        refine zb_bipush X (105 : Int32) dX2_readOperand_29 (by decide) ?_
        refine zb_icmp_eq X 36 dX2_readOperand_31 (by decide) (fun c6 => ?_) (fun c6 => ?_)
        · have h := h.1 c6
          refine zb_sub [2, 3, 1, 0] rfl ?_
          exact tX2_readOperand_36 X o1 ho1 hR  q1 q2 a2 h
        · have h := h.2 c6
          refine zb_sub [] rfl ?_
          exact tX2_readOperand_34 X o1 ho1 hR   a2 h

abbrev rmX2_readOperator : Room := { frames := 1, cells := 0, slots := 0, locals := 20 }
theorem kX2_readOperator_0 : Cond.fieldLink RX2 94 RX3 "operator" "I" ∈ wsX2_readOperator := by decide +kernel
theorem kX2_readOperator_1 : zIn RX3 TX3 9 wsX2_readOperator := by decide +kernel
theorem kX2_readOperator_2 : Cond.fieldLink RX2 61 RX3 "kind" "I" ∈ wsX2_readOperator := by decide +kernel
theorem kX2_readOperator_3 : Cond.fieldLink RX2 34 RX2 "at" "I" ∈ wsX2_readOperator := by decide +kernel
theorem kX2_readOperator_4 : zIn RX2 TX2 4 wsX2_readOperator := by decide +kernel
def vcX2_readOperator_111 (G : zG) (r : Bool) (ad ln : Nat → Nat) (w1 : Nat) (hw1 : w1 < 48)  (post : Int32 → (Nat → Nat → Int32) → Prop) (s0 : Int32) (al : Nat → Nat → Int32) : Prop :=
  post (1 : Int32) (up2 (up2 al (29 + 3 * w1) 0 s0) 7 2 (((up2 al (29 + 3 * w1) 0 s0) 7 2) + (1 : Int32)))
def vcX2_readOperator_0 (G : zG) (r : Bool) (ad ln : Nat → Nat) (w1 : Nat) (hw1 : w1 < 48)  (post : Int32 → (Nat → Nat → Int32) → Prop) (al : Nat → Nat → Int32) : Prop :=
  zMi G yX2_sign wsX2_sign rmX2_sign (zTC r) ad ln [.ref (ad 7)] al (fun q1 a1 => (q1 = (38 : Int32) → zMi G yX2_sign wsX2_sign rmX2_sign (zTC r) ad ln [.ref (ad 7)] a1 (fun q3 a3 => (¬ q3 = (42 : Int32) → vcX2_readOperator_111 G r ad ln w1 hw1  post (0 : Int32) (up2 a3 (29 + 3 * w1) 1 q3)) ∧ (q3 = (42 : Int32) → vcX2_readOperator_111 G r ad ln w1 hw1  post (1 : Int32) (up2 a3 (29 + 3 * w1) 1 q3)))) ∧ (¬ q1 = (38 : Int32) → (q1 = (42 : Int32) → zMi G yX2_sign wsX2_sign rmX2_sign (zTC r) ad ln [.ref (ad 7)] a1 (fun q4 a4 => (¬ q4 = (42 : Int32) → vcX2_readOperator_111 G r ad ln w1 hw1  post (0 : Int32) (up2 a4 (29 + 3 * w1) 1 q4)) ∧ (q4 = (42 : Int32) → vcX2_readOperator_111 G r ad ln w1 hw1  post (1 : Int32) (up2 a4 (29 + 3 * w1) 1 q4)))) ∧ (¬ q1 = (42 : Int32) → (q1 = (43 : Int32) → zMi G yX2_sign wsX2_sign rmX2_sign (zTC r) ad ln [.ref (ad 7)] a1 (fun q5 a5 => (¬ q5 = (42 : Int32) → vcX2_readOperator_111 G r ad ln w1 hw1  post (0 : Int32) (up2 a5 (29 + 3 * w1) 1 q5)) ∧ (q5 = (42 : Int32) → vcX2_readOperator_111 G r ad ln w1 hw1  post (1 : Int32) (up2 a5 (29 + 3 * w1) 1 q5)))) ∧ (¬ q1 = (43 : Int32) → (q1 = (45 : Int32) → zMi G yX2_sign wsX2_sign rmX2_sign (zTC r) ad ln [.ref (ad 7)] a1 (fun q6 a6 => (¬ q6 = (42 : Int32) → vcX2_readOperator_111 G r ad ln w1 hw1  post (0 : Int32) (up2 a6 (29 + 3 * w1) 1 q6)) ∧ (q6 = (42 : Int32) → vcX2_readOperator_111 G r ad ln w1 hw1  post (1 : Int32) (up2 a6 (29 + 3 * w1) 1 q6)))) ∧ (¬ q1 = (45 : Int32) → (q1 = (60 : Int32) → zMi G yX2_sign wsX2_sign rmX2_sign (zTC r) ad ln [.ref (ad 7)] a1 (fun q7 a7 => (¬ q7 = (42 : Int32) → vcX2_readOperator_111 G r ad ln w1 hw1  post (0 : Int32) (up2 a7 (29 + 3 * w1) 1 q7)) ∧ (q7 = (42 : Int32) → vcX2_readOperator_111 G r ad ln w1 hw1  post (1 : Int32) (up2 a7 (29 + 3 * w1) 1 q7)))) ∧ (¬ q1 = (60 : Int32) → (q1 = (94 : Int32) → zMi G yX2_sign wsX2_sign rmX2_sign (zTC r) ad ln [.ref (ad 7)] a1 (fun q8 a8 => (¬ q8 = (42 : Int32) → vcX2_readOperator_111 G r ad ln w1 hw1  post (0 : Int32) (up2 a8 (29 + 3 * w1) 1 q8)) ∧ (q8 = (42 : Int32) → vcX2_readOperator_111 G r ad ln w1 hw1  post (1 : Int32) (up2 a8 (29 + 3 * w1) 1 q8)))) ∧ (¬ q1 = (94 : Int32) → (q1 = (124 : Int32) → zMi G yX2_sign wsX2_sign rmX2_sign (zTC r) ad ln [.ref (ad 7)] a1 (fun q9 a9 => (¬ q9 = (42 : Int32) → vcX2_readOperator_111 G r ad ln w1 hw1  post (0 : Int32) (up2 a9 (29 + 3 * w1) 1 q9)) ∧ (q9 = (42 : Int32) → vcX2_readOperator_111 G r ad ln w1 hw1  post (1 : Int32) (up2 a9 (29 + 3 * w1) 1 q9)))) ∧ (¬ q1 = (124 : Int32) → (q1 = (256 : Int32) → zMi G yX2_sign wsX2_sign rmX2_sign (zTC r) ad ln [.ref (ad 7)] a1 (fun q10 a10 => (¬ q10 = (42 : Int32) → vcX2_readOperator_111 G r ad ln w1 hw1  post (0 : Int32) (up2 a10 (29 + 3 * w1) 1 q10)) ∧ (q10 = (42 : Int32) → vcX2_readOperator_111 G r ad ln w1 hw1  post (1 : Int32) (up2 a10 (29 + 3 * w1) 1 q10)))) ∧ (¬ q1 = (256 : Int32) → (q1 = (257 : Int32) → zMi G yX2_sign wsX2_sign rmX2_sign (zTC r) ad ln [.ref (ad 7)] a1 (fun q11 a11 => (¬ q11 = (42 : Int32) → vcX2_readOperator_111 G r ad ln w1 hw1  post (0 : Int32) (up2 a11 (29 + 3 * w1) 1 q11)) ∧ (q11 = (42 : Int32) → vcX2_readOperator_111 G r ad ln w1 hw1  post (1 : Int32) (up2 a11 (29 + 3 * w1) 1 q11)))) ∧ (¬ q1 = (257 : Int32) → post (0 : Int32) a1))))))))))
set_option maxRecDepth 20000 in
theorem tX2_readOperator_111 {G : zG} {Z : zC} {r : Bool} {ad ln : Nat → Nat} (X : zX G Z cX2_readOperator 2 RX2 wsX2_readOperator) (w1 : Nat) (hw1 : w1 < 48)  {post : Int32 → (Nat → Nat → Int32) → Prop} (hR : zRi G Z rmX2_readOperator 2 (zTC r) ad ln cX2_readOperator .boolean post)  (s0 : Int32) (al : Nat → Nat → Int32) (h : vcX2_readOperator_111 G r ad ln w1 hw1  post s0 al) : zB G Z rmX2_readOperator 2 (zTC r) ad ln 0 0 111 [(0, .ref (ad 7))] [.int s0, .ref (ad (29 + 3 * w1))] al := by
  unfold vcX2_readOperator_111 at h
  refine zb_putI X (29 + 3 * w1) (zTC_lt (zrow_lt hw1)) 3 [0, 0, 0, 0, 0, 0, 0, (30 + 3 * w1) + 2, (31 + 3 * w1) + 2] (zTC_row r hw1) (C := RX3) (Tt := TX3) (N := 9) rfl kX2_readOperator_1 tyX3 tyX3_ok nmX3 0 (by decide) rfl kX2_readOperator_2 rfl rfl rfl rfl dX2_readOperator_111 ?_
  refine zb_aload_n X dX2_readOperator_114 rfl 0 rfl ?_
  refine zb_dup X dX2_readOperator_115 rfl ?_
  refine zb_getI X 7 (zTC_lt (by decide)) 2 [10, 6, 0, 0] rfl (C := RX2) (Tt := TX2) (N := 4) rfl kX2_readOperator_4 2 (by decide) rfl kX2_readOperator_3 rfl dX2_readOperator_116 ((up2 al (29 + 3 * w1) 0 s0) 7 2) rfl ?_
  refine zb_iconst X (1 : Int32) dX2_readOperator_119 (by decide) ?_
  refine zb_iadd X dX2_readOperator_120 ?_
  refine zb_putI X 7 (zTC_lt (by decide)) 2 [10, 6, 0, 0] rfl (C := RX2) (Tt := TX2) (N := 4) rfl kX2_readOperator_4 tyX2 tyX2_ok nmX2 2 (by decide) rfl kX2_readOperator_3 rfl rfl rfl rfl dX2_readOperator_121 ?_
  refine zb_iconst X (1 : Int32) dX2_readOperator_124 (by decide) ?_
  exact hR 125 _ _ _ dX2_readOperator_125 rfl h
set_option maxRecDepth 20000 in
theorem tX2_readOperator_0 {G : zG} {Z : zC} {r : Bool} {ad ln : Nat → Nat} (X : zX G Z cX2_readOperator 2 RX2 wsX2_readOperator) (w1 : Nat) (hw1 : w1 < 48)  {post : Int32 → (Nat → Nat → Int32) → Prop} (hR : zRi G Z rmX2_readOperator 2 (zTC r) ad ln cX2_readOperator .boolean post)  (al : Nat → Nat → Int32) (h : vcX2_readOperator_0 G r ad ln w1 hw1  post  al) : zB G Z rmX2_readOperator 2 (zTC r) ad ln 0 0 0 [(0, .ref (ad 7)), (1, .ref (ad (29 + 3 * w1)))] [] al := by
  unfold vcX2_readOperator_0 at h
  refine zb_aload_n X dX2_readOperator_0 rfl 0 rfl ?_
  refine zb_callVi (n := 0) X 7 (zTC_lt (by decide)) 2 [10, 6, 0, 0] rfl (C := RX2) (Tt := TX2) (N := 4) rfl h gX2_readOperator_X2_sign rfl (by decide +kernel) (by decide) rfl rfl (Nat.le_of_ble_eq_true rfl) dX2_readOperator_1 (kc' := 0) (ks' := 0) rfl rfl (fun q1 a1 h => ?_)
  by_cases c2 : q1 = (38 : Int32)
  · have h := h.1 c2
    refine zb_look X (off := 84) 88 dX2_readOperator_4 (by decide) (by rw [c2]; rfl) (by decide) ?_
    refine zb_aload_n X dX2_readOperator_88 rfl 1 rfl ?_
    refine zb_aload_n X dX2_readOperator_89 rfl 0 rfl ?_
    refine zb_callVi (n := 0) X 7 (zTC_lt (by decide)) 2 [10, 6, 0, 0] rfl (C := RX2) (Tt := TX2) (N := 4) rfl h gX2_readOperator_X2_sign rfl (by decide +kernel) (by decide) rfl rfl (Nat.le_of_ble_eq_true rfl) dX2_readOperator_90 (kc' := 0) (ks' := 0) rfl rfl (fun q3 a3 h => ?_)
    refine zb_putI X (29 + 3 * w1) (zTC_lt (zrow_lt hw1)) 3 [0, 0, 0, 0, 0, 0, 0, (30 + 3 * w1) + 2, (31 + 3 * w1) + 2] (zTC_row r hw1) (C := RX3) (Tt := TX3) (N := 9) rfl kX2_readOperator_1 tyX3 tyX3_ok nmX3 1 (by decide) rfl kX2_readOperator_0 rfl rfl rfl rfl dX2_readOperator_93 ?_
    refine zb_aload_n X dX2_readOperator_96 rfl 1 rfl ?_
    refine zb_aload_n X dX2_readOperator_97 rfl 1 rfl ?_
    refine zb_getI X (29 + 3 * w1) (zTC_lt (zrow_lt hw1)) 3 [0, 0, 0, 0, 0, 0, 0, (30 + 3 * w1) + 2, (31 + 3 * w1) + 2] (zTC_row r hw1) (C := RX3) (Tt := TX3) (N := 9) rfl kX2_readOperator_1 1 (by decide) rfl kX2_readOperator_0 rfl dX2_readOperator_98 (q3) (by simp [up2]) ?_
    refine zb_bipush X (42 : Int32) dX2_readOperator_101 (by decide) ?_
    refine zb_icmp_ne X 110 dX2_readOperator_103 (by decide) (fun c4 => ?_) (fun c4 => ?_)
    · have h := h.1 c4
      refine zb_iconst X (0 : Int32) dX2_readOperator_110 (by decide) ?_
      refine zb_sub [0] rfl ?_
      exact tX2_readOperator_111 X w1 hw1 hR  (0 : Int32) (up2 a3 (29 + 3 * w1) 1 q3) h
    · have h := h.2 c4
      refine zb_iconst X (1 : Int32) dX2_readOperator_106 (by decide) ?_
      refine zb_goto X 111 dX2_readOperator_107 (by decide) ?_
      refine zb_sub [0] rfl ?_
      exact tX2_readOperator_111 X w1 hw1 hR  (1 : Int32) (up2 a3 (29 + 3 * w1) 1 q3) h
  have h := h.2 c2
  by_cases c3 : q1 = (42 : Int32)
  · have h := h.1 c3
    refine zb_look X (off := 84) 88 dX2_readOperator_4 (by decide) (by rw [c3]; rfl) (by decide) ?_
    refine zb_aload_n X dX2_readOperator_88 rfl 1 rfl ?_
    refine zb_aload_n X dX2_readOperator_89 rfl 0 rfl ?_
    refine zb_callVi (n := 0) X 7 (zTC_lt (by decide)) 2 [10, 6, 0, 0] rfl (C := RX2) (Tt := TX2) (N := 4) rfl h gX2_readOperator_X2_sign rfl (by decide +kernel) (by decide) rfl rfl (Nat.le_of_ble_eq_true rfl) dX2_readOperator_90 (kc' := 0) (ks' := 0) rfl rfl (fun q4 a4 h => ?_)
    refine zb_putI X (29 + 3 * w1) (zTC_lt (zrow_lt hw1)) 3 [0, 0, 0, 0, 0, 0, 0, (30 + 3 * w1) + 2, (31 + 3 * w1) + 2] (zTC_row r hw1) (C := RX3) (Tt := TX3) (N := 9) rfl kX2_readOperator_1 tyX3 tyX3_ok nmX3 1 (by decide) rfl kX2_readOperator_0 rfl rfl rfl rfl dX2_readOperator_93 ?_
    refine zb_aload_n X dX2_readOperator_96 rfl 1 rfl ?_
    refine zb_aload_n X dX2_readOperator_97 rfl 1 rfl ?_
    refine zb_getI X (29 + 3 * w1) (zTC_lt (zrow_lt hw1)) 3 [0, 0, 0, 0, 0, 0, 0, (30 + 3 * w1) + 2, (31 + 3 * w1) + 2] (zTC_row r hw1) (C := RX3) (Tt := TX3) (N := 9) rfl kX2_readOperator_1 1 (by decide) rfl kX2_readOperator_0 rfl dX2_readOperator_98 (q4) (by simp [up2]) ?_
    refine zb_bipush X (42 : Int32) dX2_readOperator_101 (by decide) ?_
    refine zb_icmp_ne X 110 dX2_readOperator_103 (by decide) (fun c5 => ?_) (fun c5 => ?_)
    · have h := h.1 c5
      refine zb_iconst X (0 : Int32) dX2_readOperator_110 (by decide) ?_
      refine zb_sub [0] rfl ?_
      exact tX2_readOperator_111 X w1 hw1 hR  (0 : Int32) (up2 a4 (29 + 3 * w1) 1 q4) h
    · have h := h.2 c5
      refine zb_iconst X (1 : Int32) dX2_readOperator_106 (by decide) ?_
      refine zb_goto X 111 dX2_readOperator_107 (by decide) ?_
      refine zb_sub [0] rfl ?_
      exact tX2_readOperator_111 X w1 hw1 hR  (1 : Int32) (up2 a4 (29 + 3 * w1) 1 q4) h
  have h := h.2 c3
  by_cases c4 : q1 = (43 : Int32)
  · have h := h.1 c4
    refine zb_look X (off := 84) 88 dX2_readOperator_4 (by decide) (by rw [c4]; rfl) (by decide) ?_
    refine zb_aload_n X dX2_readOperator_88 rfl 1 rfl ?_
    refine zb_aload_n X dX2_readOperator_89 rfl 0 rfl ?_
    refine zb_callVi (n := 0) X 7 (zTC_lt (by decide)) 2 [10, 6, 0, 0] rfl (C := RX2) (Tt := TX2) (N := 4) rfl h gX2_readOperator_X2_sign rfl (by decide +kernel) (by decide) rfl rfl (Nat.le_of_ble_eq_true rfl) dX2_readOperator_90 (kc' := 0) (ks' := 0) rfl rfl (fun q5 a5 h => ?_)
    refine zb_putI X (29 + 3 * w1) (zTC_lt (zrow_lt hw1)) 3 [0, 0, 0, 0, 0, 0, 0, (30 + 3 * w1) + 2, (31 + 3 * w1) + 2] (zTC_row r hw1) (C := RX3) (Tt := TX3) (N := 9) rfl kX2_readOperator_1 tyX3 tyX3_ok nmX3 1 (by decide) rfl kX2_readOperator_0 rfl rfl rfl rfl dX2_readOperator_93 ?_
    refine zb_aload_n X dX2_readOperator_96 rfl 1 rfl ?_
    refine zb_aload_n X dX2_readOperator_97 rfl 1 rfl ?_
    refine zb_getI X (29 + 3 * w1) (zTC_lt (zrow_lt hw1)) 3 [0, 0, 0, 0, 0, 0, 0, (30 + 3 * w1) + 2, (31 + 3 * w1) + 2] (zTC_row r hw1) (C := RX3) (Tt := TX3) (N := 9) rfl kX2_readOperator_1 1 (by decide) rfl kX2_readOperator_0 rfl dX2_readOperator_98 (q5) (by simp [up2]) ?_
    refine zb_bipush X (42 : Int32) dX2_readOperator_101 (by decide) ?_
    refine zb_icmp_ne X 110 dX2_readOperator_103 (by decide) (fun c6 => ?_) (fun c6 => ?_)
    · have h := h.1 c6
      refine zb_iconst X (0 : Int32) dX2_readOperator_110 (by decide) ?_
      refine zb_sub [0] rfl ?_
      exact tX2_readOperator_111 X w1 hw1 hR  (0 : Int32) (up2 a5 (29 + 3 * w1) 1 q5) h
    · have h := h.2 c6
      refine zb_iconst X (1 : Int32) dX2_readOperator_106 (by decide) ?_
      refine zb_goto X 111 dX2_readOperator_107 (by decide) ?_
      refine zb_sub [0] rfl ?_
      exact tX2_readOperator_111 X w1 hw1 hR  (1 : Int32) (up2 a5 (29 + 3 * w1) 1 q5) h
  have h := h.2 c4
  by_cases c5 : q1 = (45 : Int32)
  · have h := h.1 c5
    refine zb_look X (off := 84) 88 dX2_readOperator_4 (by decide) (by rw [c5]; rfl) (by decide) ?_
    refine zb_aload_n X dX2_readOperator_88 rfl 1 rfl ?_
    refine zb_aload_n X dX2_readOperator_89 rfl 0 rfl ?_
    refine zb_callVi (n := 0) X 7 (zTC_lt (by decide)) 2 [10, 6, 0, 0] rfl (C := RX2) (Tt := TX2) (N := 4) rfl h gX2_readOperator_X2_sign rfl (by decide +kernel) (by decide) rfl rfl (Nat.le_of_ble_eq_true rfl) dX2_readOperator_90 (kc' := 0) (ks' := 0) rfl rfl (fun q6 a6 h => ?_)
    refine zb_putI X (29 + 3 * w1) (zTC_lt (zrow_lt hw1)) 3 [0, 0, 0, 0, 0, 0, 0, (30 + 3 * w1) + 2, (31 + 3 * w1) + 2] (zTC_row r hw1) (C := RX3) (Tt := TX3) (N := 9) rfl kX2_readOperator_1 tyX3 tyX3_ok nmX3 1 (by decide) rfl kX2_readOperator_0 rfl rfl rfl rfl dX2_readOperator_93 ?_
    refine zb_aload_n X dX2_readOperator_96 rfl 1 rfl ?_
    refine zb_aload_n X dX2_readOperator_97 rfl 1 rfl ?_
    refine zb_getI X (29 + 3 * w1) (zTC_lt (zrow_lt hw1)) 3 [0, 0, 0, 0, 0, 0, 0, (30 + 3 * w1) + 2, (31 + 3 * w1) + 2] (zTC_row r hw1) (C := RX3) (Tt := TX3) (N := 9) rfl kX2_readOperator_1 1 (by decide) rfl kX2_readOperator_0 rfl dX2_readOperator_98 (q6) (by simp [up2]) ?_
    refine zb_bipush X (42 : Int32) dX2_readOperator_101 (by decide) ?_
    refine zb_icmp_ne X 110 dX2_readOperator_103 (by decide) (fun c7 => ?_) (fun c7 => ?_)
    · have h := h.1 c7
      refine zb_iconst X (0 : Int32) dX2_readOperator_110 (by decide) ?_
      refine zb_sub [0] rfl ?_
      exact tX2_readOperator_111 X w1 hw1 hR  (0 : Int32) (up2 a6 (29 + 3 * w1) 1 q6) h
    · have h := h.2 c7
      refine zb_iconst X (1 : Int32) dX2_readOperator_106 (by decide) ?_
      refine zb_goto X 111 dX2_readOperator_107 (by decide) ?_
      refine zb_sub [0] rfl ?_
      exact tX2_readOperator_111 X w1 hw1 hR  (1 : Int32) (up2 a6 (29 + 3 * w1) 1 q6) h
  have h := h.2 c5
  by_cases c6 : q1 = (60 : Int32)
  · have h := h.1 c6
    refine zb_look X (off := 84) 88 dX2_readOperator_4 (by decide) (by rw [c6]; rfl) (by decide) ?_
    refine zb_aload_n X dX2_readOperator_88 rfl 1 rfl ?_
    refine zb_aload_n X dX2_readOperator_89 rfl 0 rfl ?_
    refine zb_callVi (n := 0) X 7 (zTC_lt (by decide)) 2 [10, 6, 0, 0] rfl (C := RX2) (Tt := TX2) (N := 4) rfl h gX2_readOperator_X2_sign rfl (by decide +kernel) (by decide) rfl rfl (Nat.le_of_ble_eq_true rfl) dX2_readOperator_90 (kc' := 0) (ks' := 0) rfl rfl (fun q7 a7 h => ?_)
    refine zb_putI X (29 + 3 * w1) (zTC_lt (zrow_lt hw1)) 3 [0, 0, 0, 0, 0, 0, 0, (30 + 3 * w1) + 2, (31 + 3 * w1) + 2] (zTC_row r hw1) (C := RX3) (Tt := TX3) (N := 9) rfl kX2_readOperator_1 tyX3 tyX3_ok nmX3 1 (by decide) rfl kX2_readOperator_0 rfl rfl rfl rfl dX2_readOperator_93 ?_
    refine zb_aload_n X dX2_readOperator_96 rfl 1 rfl ?_
    refine zb_aload_n X dX2_readOperator_97 rfl 1 rfl ?_
    refine zb_getI X (29 + 3 * w1) (zTC_lt (zrow_lt hw1)) 3 [0, 0, 0, 0, 0, 0, 0, (30 + 3 * w1) + 2, (31 + 3 * w1) + 2] (zTC_row r hw1) (C := RX3) (Tt := TX3) (N := 9) rfl kX2_readOperator_1 1 (by decide) rfl kX2_readOperator_0 rfl dX2_readOperator_98 (q7) (by simp [up2]) ?_
    refine zb_bipush X (42 : Int32) dX2_readOperator_101 (by decide) ?_
    refine zb_icmp_ne X 110 dX2_readOperator_103 (by decide) (fun c8 => ?_) (fun c8 => ?_)
    · have h := h.1 c8
      refine zb_iconst X (0 : Int32) dX2_readOperator_110 (by decide) ?_
      refine zb_sub [0] rfl ?_
      exact tX2_readOperator_111 X w1 hw1 hR  (0 : Int32) (up2 a7 (29 + 3 * w1) 1 q7) h
    · have h := h.2 c8
      refine zb_iconst X (1 : Int32) dX2_readOperator_106 (by decide) ?_
      refine zb_goto X 111 dX2_readOperator_107 (by decide) ?_
      refine zb_sub [0] rfl ?_
      exact tX2_readOperator_111 X w1 hw1 hR  (1 : Int32) (up2 a7 (29 + 3 * w1) 1 q7) h
  have h := h.2 c6
  by_cases c7 : q1 = (94 : Int32)
  · have h := h.1 c7
    refine zb_look X (off := 84) 88 dX2_readOperator_4 (by decide) (by rw [c7]; rfl) (by decide) ?_
    refine zb_aload_n X dX2_readOperator_88 rfl 1 rfl ?_
    refine zb_aload_n X dX2_readOperator_89 rfl 0 rfl ?_
    refine zb_callVi (n := 0) X 7 (zTC_lt (by decide)) 2 [10, 6, 0, 0] rfl (C := RX2) (Tt := TX2) (N := 4) rfl h gX2_readOperator_X2_sign rfl (by decide +kernel) (by decide) rfl rfl (Nat.le_of_ble_eq_true rfl) dX2_readOperator_90 (kc' := 0) (ks' := 0) rfl rfl (fun q8 a8 h => ?_)
    refine zb_putI X (29 + 3 * w1) (zTC_lt (zrow_lt hw1)) 3 [0, 0, 0, 0, 0, 0, 0, (30 + 3 * w1) + 2, (31 + 3 * w1) + 2] (zTC_row r hw1) (C := RX3) (Tt := TX3) (N := 9) rfl kX2_readOperator_1 tyX3 tyX3_ok nmX3 1 (by decide) rfl kX2_readOperator_0 rfl rfl rfl rfl dX2_readOperator_93 ?_
    refine zb_aload_n X dX2_readOperator_96 rfl 1 rfl ?_
    refine zb_aload_n X dX2_readOperator_97 rfl 1 rfl ?_
    refine zb_getI X (29 + 3 * w1) (zTC_lt (zrow_lt hw1)) 3 [0, 0, 0, 0, 0, 0, 0, (30 + 3 * w1) + 2, (31 + 3 * w1) + 2] (zTC_row r hw1) (C := RX3) (Tt := TX3) (N := 9) rfl kX2_readOperator_1 1 (by decide) rfl kX2_readOperator_0 rfl dX2_readOperator_98 (q8) (by simp [up2]) ?_
    refine zb_bipush X (42 : Int32) dX2_readOperator_101 (by decide) ?_
    refine zb_icmp_ne X 110 dX2_readOperator_103 (by decide) (fun c9 => ?_) (fun c9 => ?_)
    · have h := h.1 c9
      refine zb_iconst X (0 : Int32) dX2_readOperator_110 (by decide) ?_
      refine zb_sub [0] rfl ?_
      exact tX2_readOperator_111 X w1 hw1 hR  (0 : Int32) (up2 a8 (29 + 3 * w1) 1 q8) h
    · have h := h.2 c9
      refine zb_iconst X (1 : Int32) dX2_readOperator_106 (by decide) ?_
      refine zb_goto X 111 dX2_readOperator_107 (by decide) ?_
      refine zb_sub [0] rfl ?_
      exact tX2_readOperator_111 X w1 hw1 hR  (1 : Int32) (up2 a8 (29 + 3 * w1) 1 q8) h
  have h := h.2 c7
  by_cases c8 : q1 = (124 : Int32)
  · have h := h.1 c8
    refine zb_look X (off := 84) 88 dX2_readOperator_4 (by decide) (by rw [c8]; rfl) (by decide) ?_
    refine zb_aload_n X dX2_readOperator_88 rfl 1 rfl ?_
    refine zb_aload_n X dX2_readOperator_89 rfl 0 rfl ?_
    refine zb_callVi (n := 0) X 7 (zTC_lt (by decide)) 2 [10, 6, 0, 0] rfl (C := RX2) (Tt := TX2) (N := 4) rfl h gX2_readOperator_X2_sign rfl (by decide +kernel) (by decide) rfl rfl (Nat.le_of_ble_eq_true rfl) dX2_readOperator_90 (kc' := 0) (ks' := 0) rfl rfl (fun q9 a9 h => ?_)
    refine zb_putI X (29 + 3 * w1) (zTC_lt (zrow_lt hw1)) 3 [0, 0, 0, 0, 0, 0, 0, (30 + 3 * w1) + 2, (31 + 3 * w1) + 2] (zTC_row r hw1) (C := RX3) (Tt := TX3) (N := 9) rfl kX2_readOperator_1 tyX3 tyX3_ok nmX3 1 (by decide) rfl kX2_readOperator_0 rfl rfl rfl rfl dX2_readOperator_93 ?_
    refine zb_aload_n X dX2_readOperator_96 rfl 1 rfl ?_
    refine zb_aload_n X dX2_readOperator_97 rfl 1 rfl ?_
    refine zb_getI X (29 + 3 * w1) (zTC_lt (zrow_lt hw1)) 3 [0, 0, 0, 0, 0, 0, 0, (30 + 3 * w1) + 2, (31 + 3 * w1) + 2] (zTC_row r hw1) (C := RX3) (Tt := TX3) (N := 9) rfl kX2_readOperator_1 1 (by decide) rfl kX2_readOperator_0 rfl dX2_readOperator_98 (q9) (by simp [up2]) ?_
    refine zb_bipush X (42 : Int32) dX2_readOperator_101 (by decide) ?_
    refine zb_icmp_ne X 110 dX2_readOperator_103 (by decide) (fun c10 => ?_) (fun c10 => ?_)
    · have h := h.1 c10
      refine zb_iconst X (0 : Int32) dX2_readOperator_110 (by decide) ?_
      refine zb_sub [0] rfl ?_
      exact tX2_readOperator_111 X w1 hw1 hR  (0 : Int32) (up2 a9 (29 + 3 * w1) 1 q9) h
    · have h := h.2 c10
      refine zb_iconst X (1 : Int32) dX2_readOperator_106 (by decide) ?_
      refine zb_goto X 111 dX2_readOperator_107 (by decide) ?_
      refine zb_sub [0] rfl ?_
      exact tX2_readOperator_111 X w1 hw1 hR  (1 : Int32) (up2 a9 (29 + 3 * w1) 1 q9) h
  have h := h.2 c8
  by_cases c9 : q1 = (256 : Int32)
  · have h := h.1 c9
    refine zb_look X (off := 84) 88 dX2_readOperator_4 (by decide) (by rw [c9]; rfl) (by decide) ?_
    refine zb_aload_n X dX2_readOperator_88 rfl 1 rfl ?_
    refine zb_aload_n X dX2_readOperator_89 rfl 0 rfl ?_
    refine zb_callVi (n := 0) X 7 (zTC_lt (by decide)) 2 [10, 6, 0, 0] rfl (C := RX2) (Tt := TX2) (N := 4) rfl h gX2_readOperator_X2_sign rfl (by decide +kernel) (by decide) rfl rfl (Nat.le_of_ble_eq_true rfl) dX2_readOperator_90 (kc' := 0) (ks' := 0) rfl rfl (fun q10 a10 h => ?_)
    refine zb_putI X (29 + 3 * w1) (zTC_lt (zrow_lt hw1)) 3 [0, 0, 0, 0, 0, 0, 0, (30 + 3 * w1) + 2, (31 + 3 * w1) + 2] (zTC_row r hw1) (C := RX3) (Tt := TX3) (N := 9) rfl kX2_readOperator_1 tyX3 tyX3_ok nmX3 1 (by decide) rfl kX2_readOperator_0 rfl rfl rfl rfl dX2_readOperator_93 ?_
    refine zb_aload_n X dX2_readOperator_96 rfl 1 rfl ?_
    refine zb_aload_n X dX2_readOperator_97 rfl 1 rfl ?_
    refine zb_getI X (29 + 3 * w1) (zTC_lt (zrow_lt hw1)) 3 [0, 0, 0, 0, 0, 0, 0, (30 + 3 * w1) + 2, (31 + 3 * w1) + 2] (zTC_row r hw1) (C := RX3) (Tt := TX3) (N := 9) rfl kX2_readOperator_1 1 (by decide) rfl kX2_readOperator_0 rfl dX2_readOperator_98 (q10) (by simp [up2]) ?_
    refine zb_bipush X (42 : Int32) dX2_readOperator_101 (by decide) ?_
    refine zb_icmp_ne X 110 dX2_readOperator_103 (by decide) (fun c11 => ?_) (fun c11 => ?_)
    · have h := h.1 c11
      refine zb_iconst X (0 : Int32) dX2_readOperator_110 (by decide) ?_
      refine zb_sub [0] rfl ?_
      exact tX2_readOperator_111 X w1 hw1 hR  (0 : Int32) (up2 a10 (29 + 3 * w1) 1 q10) h
    · have h := h.2 c11
      refine zb_iconst X (1 : Int32) dX2_readOperator_106 (by decide) ?_
      refine zb_goto X 111 dX2_readOperator_107 (by decide) ?_
      refine zb_sub [0] rfl ?_
      exact tX2_readOperator_111 X w1 hw1 hR  (1 : Int32) (up2 a10 (29 + 3 * w1) 1 q10) h
  have h := h.2 c9
  by_cases c10 : q1 = (257 : Int32)
  · have h := h.1 c10
    refine zb_look X (off := 84) 88 dX2_readOperator_4 (by decide) (by rw [c10]; rfl) (by decide) ?_
    refine zb_aload_n X dX2_readOperator_88 rfl 1 rfl ?_
    refine zb_aload_n X dX2_readOperator_89 rfl 0 rfl ?_
    refine zb_callVi (n := 0) X 7 (zTC_lt (by decide)) 2 [10, 6, 0, 0] rfl (C := RX2) (Tt := TX2) (N := 4) rfl h gX2_readOperator_X2_sign rfl (by decide +kernel) (by decide) rfl rfl (Nat.le_of_ble_eq_true rfl) dX2_readOperator_90 (kc' := 0) (ks' := 0) rfl rfl (fun q11 a11 h => ?_)
    refine zb_putI X (29 + 3 * w1) (zTC_lt (zrow_lt hw1)) 3 [0, 0, 0, 0, 0, 0, 0, (30 + 3 * w1) + 2, (31 + 3 * w1) + 2] (zTC_row r hw1) (C := RX3) (Tt := TX3) (N := 9) rfl kX2_readOperator_1 tyX3 tyX3_ok nmX3 1 (by decide) rfl kX2_readOperator_0 rfl rfl rfl rfl dX2_readOperator_93 ?_
    refine zb_aload_n X dX2_readOperator_96 rfl 1 rfl ?_
    refine zb_aload_n X dX2_readOperator_97 rfl 1 rfl ?_
    refine zb_getI X (29 + 3 * w1) (zTC_lt (zrow_lt hw1)) 3 [0, 0, 0, 0, 0, 0, 0, (30 + 3 * w1) + 2, (31 + 3 * w1) + 2] (zTC_row r hw1) (C := RX3) (Tt := TX3) (N := 9) rfl kX2_readOperator_1 1 (by decide) rfl kX2_readOperator_0 rfl dX2_readOperator_98 (q11) (by simp [up2]) ?_
    refine zb_bipush X (42 : Int32) dX2_readOperator_101 (by decide) ?_
    refine zb_icmp_ne X 110 dX2_readOperator_103 (by decide) (fun c12 => ?_) (fun c12 => ?_)
    · have h := h.1 c12
      refine zb_iconst X (0 : Int32) dX2_readOperator_110 (by decide) ?_
      refine zb_sub [0] rfl ?_
      exact tX2_readOperator_111 X w1 hw1 hR  (0 : Int32) (up2 a11 (29 + 3 * w1) 1 q11) h
    · have h := h.2 c12
      refine zb_iconst X (1 : Int32) dX2_readOperator_106 (by decide) ?_
      refine zb_goto X 111 dX2_readOperator_107 (by decide) ?_
      refine zb_sub [0] rfl ?_
      exact tX2_readOperator_111 X w1 hw1 hR  (1 : Int32) (up2 a11 (29 + 3 * w1) 1 q11) h
  have h := h.2 c10
  refine zb_look X (off := 122) 126 dX2_readOperator_4 (by decide) (by have e0 := zne_int c2; rw [show (38 : Int32).toInt = 38 from by decide] at e0; have e1 := zne_int c3; rw [show (42 : Int32).toInt = 42 from by decide] at e1; have e2 := zne_int c4; rw [show (43 : Int32).toInt = 43 from by decide] at e2; have e3 := zne_int c5; rw [show (45 : Int32).toInt = 45 from by decide] at e3; have e4 := zne_int c6; rw [show (60 : Int32).toInt = 60 from by decide] at e4; have e5 := zne_int c7; rw [show (94 : Int32).toInt = 94 from by decide] at e5; have e6 := zne_int c8; rw [show (124 : Int32).toInt = 124 from by decide] at e6; have e7 := zne_int c9; rw [show (256 : Int32).toInt = 256 from by decide] at e7; have e8 := zne_int c10; rw [show (257 : Int32).toInt = 257 from by decide] at e8; simp only [Op.lookupswitch.offset, List.toList_toArray]; rw [if_neg (fun h => e0 h.symm), if_neg (fun h => e1 h.symm), if_neg (fun h => e2 h.symm), if_neg (fun h => e3 h.symm), if_neg (fun h => e4 h.symm), if_neg (fun h => e5 h.symm), if_neg (fun h => e6 h.symm), if_neg (fun h => e7 h.symm), if_neg (fun h => e8 h.symm)]) (by decide) ?_
  refine zb_iconst X (0 : Int32) dX2_readOperator_126 (by decide) ?_
  exact hR 127 _ _ _ dX2_readOperator_127 rfl h

abbrev rmX2_readSpot : Room := { frames := 3, cells := 0, slots := 0, locals := 63 }
theorem kX2_readSpot_0 : Cond.fieldLink RX2 103 RX3 "array" "I" ∈ wsX2_readSpot := by decide +kernel
theorem kX2_readSpot_1 : zIn RX3 TX3 9 wsX2_readSpot := by decide +kernel
theorem kX2_readSpot_2 : Cond.fieldLink RX2 34 RX2 "at" "I" ∈ wsX2_readSpot := by decide +kernel
theorem kX2_readSpot_3 : zIn RX2 TX2 4 wsX2_readSpot := by decide +kernel
theorem kX2_readSpot_4 : Cond.fieldLink RX2 109 RX3 "shift" "I" ∈ wsX2_readSpot := by decide +kernel
theorem kX2_readSpot_5 : Cond.fieldLink RX2 112 RX3 "step" "I" ∈ wsX2_readSpot := by decide +kernel
def vcX2_readSpot_26 (G : zG) (r : Bool) (ad ln : Nat → Nat) (w1 : Nat) (hw1 : w1 < 48)  (post : Int32 → (Nat → Nat → Int32) → Prop) (al : Nat → Nat → Int32) : Prop :=
  post (0 : Int32) al
def vcX2_readSpot_161 (G : zG) (r : Bool) (ad ln : Nat → Nat) (w1 : Nat) (hw1 : w1 < 48)  (post : Int32 → (Nat → Nat → Int32) → Prop) (s0 : Int32) (al : Nat → Nat → Int32) : Prop :=
  zOk .boolean s0 ∧ post s0 al
def vcX2_readSpot_160 (G : zG) (r : Bool) (ad ln : Nat → Nat) (w1 : Nat) (hw1 : w1 < 48)  (post : Int32 → (Nat → Nat → Int32) → Prop) (al : Nat → Nat → Int32) : Prop :=
  vcX2_readSpot_161 G r ad ln w1 hw1  post (0 : Int32) al
def vcX2_readSpot_118 (G : zG) (r : Bool) (ad ln : Nat → Nat) (w1 : Nat) (hw1 : w1 < 48)  (post : Int32 → (Nat → Nat → Int32) → Prop) (s0 : Int32) (al : Nat → Nat → Int32) : Prop :=
  zMi G yX2_skip wsX2_skip rmX2_skip (zTC r) ad ln [.ref (ad 7), .int (42 : Int32)] (up2 al (29 + 3 * w1) 5 s0) (fun q1 a1 => (q1 = 0 → vcX2_readSpot_160 G r ad ln w1 hw1  post  a1) ∧ (¬ q1 = 0 → zMi G yX2_skip wsX2_skip rmX2_skip (zTC r) ad ln [.ref (ad 7), .int (105 : Int32)] a1 (fun q3 a3 => (q3 = 0 → vcX2_readSpot_160 G r ad ln w1 hw1  post  a3) ∧ (¬ q3 = 0 → zMi G yX2_readShift wsX2_readShift rmX2_readShift (zTC r) ad ln [.ref (ad 7), .ref (ad (29 + 3 * w1))] a3 (fun q5 a5 => (q5 = 0 → vcX2_readSpot_160 G r ad ln w1 hw1  post  a5) ∧ (¬ q5 = 0 → zMi G yX2_skip wsX2_skip rmX2_skip (zTC r) ad ln [.ref (ad 7), .int (93 : Int32)] a5 (fun q7 a7 => (q7 = 0 → vcX2_readSpot_160 G r ad ln w1 hw1  post  a7) ∧ (¬ q7 = 0 → vcX2_readSpot_161 G r ad ln w1 hw1  post (1 : Int32) a7))))))))
def vcX2_readSpot_92 (G : zG) (r : Bool) (ad ln : Nat → Nat) (w1 : Nat) (hw1 : w1 < 48)  (post : Int32 → (Nat → Nat → Int32) → Prop) (x2 x3 x4 : Int32) (al : Nat → Nat → Int32) : Prop :=
  (x4 ≤ (4 : Int32) → (x2 = 0 → vcX2_readSpot_118 G r ad ln w1 hw1  post x4 al) ∧ (¬ x2 = 0 → vcX2_readSpot_118 G r ad ln w1 hw1  post (-x4) al)) ∧ (¬ x4 ≤ (4 : Int32) → post (0 : Int32) (up2 al 7 2 x3))
def vcX2_readSpot_58 (G : zG) (r : Bool) (ad ln : Nat → Nat) (w1 : Nat) (hw1 : w1 < 48)  (post : Int32 → (Nat → Nat → Int32) → Prop) (x2 x3 x4 s0 : Int32) (al : Nat → Nat → Int32) : Prop :=
  zMi G yX2_skipNumber wsX2_skipNumber rmX2_skipNumber (zTC r) ad ln [.ref (ad 7), .int s0] al (fun q1 a1 => (¬ q1 = 0 → (¬ x2 = 0 → vcX2_readSpot_92 G r ad ln w1 hw1  post x2 x3 x4 a1) ∧ (x2 = 0 → zMi G yX2_sign wsX2_sign rmX2_sign (zTC r) ad ln [.ref (ad 7)] a1 (fun q4 a4 => (q4 = (42 : Int32) → vcX2_readSpot_92 G r ad ln w1 hw1  post x2 x3 x4 a4) ∧ (¬ q4 = (42 : Int32) → zMi G yX2_skip wsX2_skip rmX2_skip (zTC r) ad ln [.ref (ad 7), .int (93 : Int32)] (up2 a4 (29 + 3 * w1) 6 x4) (fun q6 a6 => zOk .boolean q6 ∧ post q6 a6))))) ∧ (q1 = 0 → post (0 : Int32) a1))
def vcX2_readSpot_0 (G : zG) (r : Bool) (ad ln : Nat → Nat) (w1 : Nat) (hw1 : w1 < 48)  (post : Int32 → (Nat → Nat → Int32) → Prop) (al : Nat → Nat → Int32) : Prop :=
  zMi G yX2_value wsX2_value rmX2_value (zTC r) ad ln [.ref (ad 7)] al (fun q1 a1 => zMi G yX2_skip wsX2_skip rmX2_skip (zTC r) ad ln [.ref (ad 7), .int (97 : Int32)] (up2 a1 (29 + 3 * w1) 4 q1) (fun q2 a2 => (q2 = 0 → vcX2_readSpot_26 G r ad ln w1 hw1  post  a2) ∧ (¬ q2 = 0 → zMi G yX2_skip wsX2_skip rmX2_skip (zTC r) ad ln [.ref (ad 7), .int (91 : Int32)] a2 (fun q4 a4 => (¬ q4 = 0 → zMi G yX2_skip wsX2_skip rmX2_skip (zTC r) ad ln [.ref (ad 7), .int (45 : Int32)] a4 (fun q6 a6 => zMi G yX2_value wsX2_value rmX2_value (zTC r) ad ln [.ref (ad 7)] a6 (fun q7 a7 => (q6 = 0 → vcX2_readSpot_58 G r ad ln w1 hw1  post q6 (a6 7 2) q7 (250 : Int32) a7) ∧ (¬ q6 = 0 → vcX2_readSpot_58 G r ad ln w1 hw1  post q6 (a6 7 2) q7 (4 : Int32) a7)))) ∧ (q4 = 0 → vcX2_readSpot_26 G r ad ln w1 hw1  post  a4)))))
set_option maxRecDepth 20000 in
theorem tX2_readSpot_26 {G : zG} {Z : zC} {r : Bool} {ad ln : Nat → Nat} (X : zX G Z cX2_readSpot 5 RX2 wsX2_readSpot) (w1 : Nat) (hw1 : w1 < 48)  {post : Int32 → (Nat → Nat → Int32) → Prop} (hR : zRi G Z rmX2_readSpot 5 (zTC r) ad ln cX2_readSpot .boolean post)  (al : Nat → Nat → Int32) (h : vcX2_readSpot_26 G r ad ln w1 hw1  post  al) : zB G Z rmX2_readSpot 5 (zTC r) ad ln 0 0 26 [] [] al := by
  unfold vcX2_readSpot_26 at h
  refine zb_iconst X (0 : Int32) dX2_readSpot_26 (by decide) ?_
  exact hR 27 _ _ _ dX2_readSpot_27 rfl h
set_option maxRecDepth 20000 in
theorem tX2_readSpot_161 {G : zG} {Z : zC} {r : Bool} {ad ln : Nat → Nat} (X : zX G Z cX2_readSpot 5 RX2 wsX2_readSpot) (w1 : Nat) (hw1 : w1 < 48)  {post : Int32 → (Nat → Nat → Int32) → Prop} (hR : zRi G Z rmX2_readSpot 5 (zTC r) ad ln cX2_readSpot .boolean post)  (s0 : Int32) (al : Nat → Nat → Int32) (h : vcX2_readSpot_161 G r ad ln w1 hw1  post s0 al) : zB G Z rmX2_readSpot 5 (zTC r) ad ln 0 0 161 [] [.int s0] al := by
  unfold vcX2_readSpot_161 at h
  exact hR 161 _ _ _ dX2_readSpot_161 h.1 h.2
set_option maxRecDepth 20000 in
theorem tX2_readSpot_160 {G : zG} {Z : zC} {r : Bool} {ad ln : Nat → Nat} (X : zX G Z cX2_readSpot 5 RX2 wsX2_readSpot) (w1 : Nat) (hw1 : w1 < 48)  {post : Int32 → (Nat → Nat → Int32) → Prop} (hR : zRi G Z rmX2_readSpot 5 (zTC r) ad ln cX2_readSpot .boolean post)  (al : Nat → Nat → Int32) (h : vcX2_readSpot_160 G r ad ln w1 hw1  post  al) : zB G Z rmX2_readSpot 5 (zTC r) ad ln 0 0 160 [] [] al := by
  unfold vcX2_readSpot_160 at h
  refine zb_iconst X (0 : Int32) dX2_readSpot_160 (by decide) ?_
  refine zb_sub [] rfl ?_
  exact tX2_readSpot_161 X w1 hw1 hR  (0 : Int32) al h
set_option maxRecDepth 20000 in
theorem tX2_readSpot_118 {G : zG} {Z : zC} {r : Bool} {ad ln : Nat → Nat} (X : zX G Z cX2_readSpot 5 RX2 wsX2_readSpot) (w1 : Nat) (hw1 : w1 < 48)  {post : Int32 → (Nat → Nat → Int32) → Prop} (hR : zRi G Z rmX2_readSpot 5 (zTC r) ad ln cX2_readSpot .boolean post)  (s0 : Int32) (al : Nat → Nat → Int32) (h : vcX2_readSpot_118 G r ad ln w1 hw1  post s0 al) : zB G Z rmX2_readSpot 5 (zTC r) ad ln 0 0 118 [(0, .ref (ad 7)), (1, .ref (ad (29 + 3 * w1)))] [.int s0, .ref (ad (29 + 3 * w1))] al := by
  unfold vcX2_readSpot_118 at h
  refine zb_putI X (29 + 3 * w1) (zTC_lt (zrow_lt hw1)) 3 [0, 0, 0, 0, 0, 0, 0, (30 + 3 * w1) + 2, (31 + 3 * w1) + 2] (zTC_row r hw1) (C := RX3) (Tt := TX3) (N := 9) rfl kX2_readSpot_1 tyX3 tyX3_ok nmX3 5 (by decide) rfl kX2_readSpot_5 rfl rfl rfl rfl dX2_readSpot_118 ?_
  refine zb_aload_n X dX2_readSpot_121 rfl 0 rfl ?_
  refine zb_bipush X (42 : Int32) dX2_readSpot_122 (by decide) ?_
  refine zb_callVi (n := 1) X 7 (zTC_lt (by decide)) 2 [10, 6, 0, 0] rfl (C := RX2) (Tt := TX2) (N := 4) rfl h gX2_readSpot_X2_skip rfl (by decide +kernel) (by decide) rfl rfl (Nat.le_of_ble_eq_true rfl) dX2_readSpot_124 (kc' := 0) (ks' := 0) rfl rfl (fun q1 a1 h => ?_)
  refine zb_if_eq X 160 dX2_readSpot_127 (by decide) (fun c2 => ?_) (fun c2 => ?_)
  · have h := h.1 c2
    refine zb_sub [] rfl ?_
    exact tX2_readSpot_160 X w1 hw1 hR   a1 h
  · have h := h.2 c2
    refine zb_aload_n X dX2_readSpot_130 rfl 0 rfl ?_
    refine zb_bipush X (105 : Int32) dX2_readSpot_131 (by decide) ?_
    refine zb_callVi (n := 1) X 7 (zTC_lt (by decide)) 2 [10, 6, 0, 0] rfl (C := RX2) (Tt := TX2) (N := 4) rfl h gX2_readSpot_X2_skip rfl (by decide +kernel) (by decide) rfl rfl (Nat.le_of_ble_eq_true rfl) dX2_readSpot_133 (kc' := 0) (ks' := 0) rfl rfl (fun q3 a3 h => ?_)
    refine zb_if_eq X 160 dX2_readSpot_136 (by decide) (fun c4 => ?_) (fun c4 => ?_)
    · have h := h.1 c4
      refine zb_sub [] rfl ?_
      exact tX2_readSpot_160 X w1 hw1 hR   a3 h
    · have h := h.2 c4
      refine zb_aload_n X dX2_readSpot_139 rfl 0 rfl ?_
      refine zb_aload_n X dX2_readSpot_140 rfl 1 rfl ?_
      refine zb_callVi (n := 1) X 7 (zTC_lt (by decide)) 2 [10, 6, 0, 0] rfl (C := RX2) (Tt := TX2) (N := 4) rfl h gX2_readSpot_X2_readShift rfl (by decide +kernel) (by decide) rfl rfl (Nat.le_of_ble_eq_true rfl) dX2_readSpot_141 (kc' := 0) (ks' := 0) rfl rfl (fun q5 a5 h => ?_)
      refine zb_if_eq X 160 dX2_readSpot_144 (by decide) (fun c6 => ?_) (fun c6 => ?_)
      · have h := h.1 c6
        refine zb_sub [] rfl ?_
        exact tX2_readSpot_160 X w1 hw1 hR   a5 h
      · have h := h.2 c6
        refine zb_aload_n X dX2_readSpot_147 rfl 0 rfl ?_
        refine zb_bipush X (93 : Int32) dX2_readSpot_148 (by decide) ?_
        refine zb_callVi (n := 1) X 7 (zTC_lt (by decide)) 2 [10, 6, 0, 0] rfl (C := RX2) (Tt := TX2) (N := 4) rfl h gX2_readSpot_X2_skip rfl (by decide +kernel) (by decide) rfl rfl (Nat.le_of_ble_eq_true rfl) dX2_readSpot_150 (kc' := 0) (ks' := 0) rfl rfl (fun q7 a7 h => ?_)
        refine zb_if_eq X 160 dX2_readSpot_153 (by decide) (fun c8 => ?_) (fun c8 => ?_)
        · have h := h.1 c8
          refine zb_sub [] rfl ?_
          exact tX2_readSpot_160 X w1 hw1 hR   a7 h
        · have h := h.2 c8
          refine zb_iconst X (1 : Int32) dX2_readSpot_156 (by decide) ?_
          refine zb_goto X 161 dX2_readSpot_157 (by decide) ?_
          refine zb_sub [] rfl ?_
          exact tX2_readSpot_161 X w1 hw1 hR  (1 : Int32) a7 h
set_option maxRecDepth 20000 in
theorem tX2_readSpot_92 {G : zG} {Z : zC} {r : Bool} {ad ln : Nat → Nat} (X : zX G Z cX2_readSpot 5 RX2 wsX2_readSpot) (w1 : Nat) (hw1 : w1 < 48)  {post : Int32 → (Nat → Nat → Int32) → Prop} (hR : zRi G Z rmX2_readSpot 5 (zTC r) ad ln cX2_readSpot .boolean post)  (x2 x3 x4 : Int32) (al : Nat → Nat → Int32) (h : vcX2_readSpot_92 G r ad ln w1 hw1  post x2 x3 x4 al) : zB G Z rmX2_readSpot 5 (zTC r) ad ln 0 0 92 [(0, .ref (ad 7)), (1, .ref (ad (29 + 3 * w1))), (2, .int x2), (3, .int x3), (4, .int x4)] [] al := by
  unfold vcX2_readSpot_92 at h
  refine zb_iload X dX2_readSpot_92 4 rfl ?_
  refine zb_iconst X (4 : Int32) dX2_readSpot_94 (by decide) ?_
  refine zb_icmp_le X 105 dX2_readSpot_95 (by decide) (fun c1 => ?_) (fun c1 => ?_)
  · have h := h.1 c1
    refine zb_aload_n X dX2_readSpot_105 rfl 1 rfl ?_
    refine zb_iload_n X dX2_readSpot_106 rfl 2 rfl ?_
    refine zb_if_eq X 116 dX2_readSpot_107 (by decide) (fun c2 => ?_) (fun c2 => ?_)
    · have h := h.1 c2
      refine zb_iload X dX2_readSpot_116 4 rfl ?_
      refine zb_sub [0, 1] rfl ?_
      exact tX2_readSpot_118 X w1 hw1 hR  x4 al h
    · have h := h.2 c2
      refine zb_iload X dX2_readSpot_110 4 rfl ?_
      refine zb_ineg X dX2_readSpot_112 ?_
      refine zb_goto X 118 dX2_readSpot_113 (by decide) ?_
      refine zb_sub [0, 1] rfl ?_
      exact tX2_readSpot_118 X w1 hw1 hR  (-x4) al h
  · have h := h.2 c1
    refine zb_aload_n X dX2_readSpot_98 rfl 0 rfl ?_
    refine zb_iload_n X dX2_readSpot_99 rfl 3 rfl ?_
    refine zb_putI X 7 (zTC_lt (by decide)) 2 [10, 6, 0, 0] rfl (C := RX2) (Tt := TX2) (N := 4) rfl kX2_readSpot_3 tyX2 tyX2_ok nmX2 2 (by decide) rfl kX2_readSpot_2 rfl rfl rfl rfl dX2_readSpot_100 ?_
    refine zb_iconst X (0 : Int32) dX2_readSpot_103 (by decide) ?_
    exact hR 104 _ _ _ dX2_readSpot_104 rfl h
set_option maxRecDepth 20000 in
theorem tX2_readSpot_58 {G : zG} {Z : zC} {r : Bool} {ad ln : Nat → Nat} (X : zX G Z cX2_readSpot 5 RX2 wsX2_readSpot) (w1 : Nat) (hw1 : w1 < 48)  {post : Int32 → (Nat → Nat → Int32) → Prop} (hR : zRi G Z rmX2_readSpot 5 (zTC r) ad ln cX2_readSpot .boolean post)  (x2 x3 x4 s0 : Int32) (al : Nat → Nat → Int32) (h : vcX2_readSpot_58 G r ad ln w1 hw1  post x2 x3 x4 s0 al) : zB G Z rmX2_readSpot 5 (zTC r) ad ln 0 0 58 [(0, .ref (ad 7)), (1, .ref (ad (29 + 3 * w1))), (2, .int x2), (3, .int x3), (4, .int x4)] [.int s0, .ref (ad 7)] al := by
  unfold vcX2_readSpot_58 at h
  refine zb_callVi (n := 1) X 7 (zTC_lt (by decide)) 2 [10, 6, 0, 0] rfl (C := RX2) (Tt := TX2) (N := 4) rfl h gX2_readSpot_X2_skipNumber rfl (by decide +kernel) (by decide) rfl rfl (Nat.le_of_ble_eq_true rfl) dX2_readSpot_58 (kc' := 0) (ks' := 0) rfl rfl (fun q1 a1 h => ?_)
  refine zb_if_ne X 66 dX2_readSpot_61 (by decide) (fun c2 => ?_) (fun c2 => ?_)
  · have h := h.1 c2
    refine zb_iload_n X dX2_readSpot_66 rfl 2 rfl ?_
    refine zb_if_ne X 92 dX2_readSpot_67 (by decide) (fun c3 => ?_) (fun c3 => ?_)
    · have h := h.1 c3
      refine zb_sub [0, 1, 2, 3, 4] rfl ?_
      exact tX2_readSpot_92 X w1 hw1 hR  x2 x3 x4 a1 h
    · have h := h.2 c3
      refine zb_aload_n X dX2_readSpot_70 rfl 0 rfl ?_
      refine zb_callVi (n := 0) X 7 (zTC_lt (by decide)) 2 [10, 6, 0, 0] rfl (C := RX2) (Tt := TX2) (N := 4) rfl h gX2_readSpot_X2_sign rfl (by decide +kernel) (by decide) rfl rfl (Nat.le_of_ble_eq_true rfl) dX2_readSpot_71 (kc' := 0) (ks' := 0) rfl rfl (fun q4 a4 h => ?_)
      refine zb_bipush X (42 : Int32) dX2_readSpot_74 (by decide) ?_
      refine zb_icmp_eq X 92 dX2_readSpot_76 (by decide) (fun c5 => ?_) (fun c5 => ?_)
      · have h := h.1 c5
        refine zb_sub [0, 1, 2, 3, 4] rfl ?_
        exact tX2_readSpot_92 X w1 hw1 hR  x2 x3 x4 a4 h
      · have h := h.2 c5
        refine zb_aload_n X dX2_readSpot_79 rfl 1 rfl ?_
        refine zb_iload X dX2_readSpot_80 4 rfl ?_
        refine zb_putI X (29 + 3 * w1) (zTC_lt (zrow_lt hw1)) 3 [0, 0, 0, 0, 0, 0, 0, (30 + 3 * w1) + 2, (31 + 3 * w1) + 2] (zTC_row r hw1) (C := RX3) (Tt := TX3) (N := 9) rfl kX2_readSpot_1 tyX3 tyX3_ok nmX3 6 (by decide) rfl kX2_readSpot_4 rfl rfl rfl rfl dX2_readSpot_82 ?_
        refine zb_aload_n X dX2_readSpot_85 rfl 0 rfl ?_
        refine zb_bipush X (93 : Int32) dX2_readSpot_86 (by decide) ?_
        refine zb_callVi (n := 1) X 7 (zTC_lt (by decide)) 2 [10, 6, 0, 0] rfl (C := RX2) (Tt := TX2) (N := 4) rfl h gX2_readSpot_X2_skip rfl (by decide +kernel) (by decide) rfl rfl (Nat.le_of_ble_eq_true rfl) dX2_readSpot_88 (kc' := 0) (ks' := 0) rfl rfl (fun q6 a6 h => ?_)
        exact hR 91 _ _ _ dX2_readSpot_91 h.1 h.2
  · have h := h.2 c2
    refine zb_iconst X (0 : Int32) dX2_readSpot_64 (by decide) ?_
    exact hR 65 _ _ _ dX2_readSpot_65 rfl h
set_option maxRecDepth 20000 in
theorem tX2_readSpot_0 {G : zG} {Z : zC} {r : Bool} {ad ln : Nat → Nat} (X : zX G Z cX2_readSpot 5 RX2 wsX2_readSpot) (w1 : Nat) (hw1 : w1 < 48)  {post : Int32 → (Nat → Nat → Int32) → Prop} (hR : zRi G Z rmX2_readSpot 5 (zTC r) ad ln cX2_readSpot .boolean post)  (al : Nat → Nat → Int32) (h : vcX2_readSpot_0 G r ad ln w1 hw1  post  al) : zB G Z rmX2_readSpot 5 (zTC r) ad ln 0 0 0 [(0, .ref (ad 7)), (1, .ref (ad (29 + 3 * w1)))] [] al := by
  unfold vcX2_readSpot_0 at h
  refine zb_aload_n X dX2_readSpot_0 rfl 1 rfl ?_
  refine zb_aload_n X dX2_readSpot_1 rfl 0 rfl ?_
  refine zb_callVi (n := 0) X 7 (zTC_lt (by decide)) 2 [10, 6, 0, 0] rfl (C := RX2) (Tt := TX2) (N := 4) rfl h gX2_readSpot_X2_value rfl (by decide +kernel) (by decide) rfl rfl (Nat.le_of_ble_eq_true rfl) dX2_readSpot_2 (kc' := 0) (ks' := 0) rfl rfl (fun q1 a1 h => ?_)
  refine zb_putI X (29 + 3 * w1) (zTC_lt (zrow_lt hw1)) 3 [0, 0, 0, 0, 0, 0, 0, (30 + 3 * w1) + 2, (31 + 3 * w1) + 2] (zTC_row r hw1) (C := RX3) (Tt := TX3) (N := 9) rfl kX2_readSpot_1 tyX3 tyX3_ok nmX3 4 (by decide) rfl kX2_readSpot_0 rfl rfl rfl rfl dX2_readSpot_5 ?_
  refine zb_aload_n X dX2_readSpot_8 rfl 0 rfl ?_
  refine zb_bipush X (97 : Int32) dX2_readSpot_9 (by decide) ?_
  refine zb_callVi (n := 1) X 7 (zTC_lt (by decide)) 2 [10, 6, 0, 0] rfl (C := RX2) (Tt := TX2) (N := 4) rfl h gX2_readSpot_X2_skip rfl (by decide +kernel) (by decide) rfl rfl (Nat.le_of_ble_eq_true rfl) dX2_readSpot_11 (kc' := 0) (ks' := 0) rfl rfl (fun q2 a2 h => ?_)
  refine zb_if_eq X 26 dX2_readSpot_14 (by decide) (fun c3 => ?_) (fun c3 => ?_)
  · have h := h.1 c3
    refine zb_sub [] rfl ?_
    exact tX2_readSpot_26 X w1 hw1 hR   a2 h
  · have h := h.2 c3
    refine zb_aload_n X dX2_readSpot_17 rfl 0 rfl ?_
    refine zb_bipush X (91 : Int32) dX2_readSpot_18 (by decide) ?_
    refine zb_callVi (n := 1) X 7 (zTC_lt (by decide)) 2 [10, 6, 0, 0] rfl (C := RX2) (Tt := TX2) (N := 4) rfl h gX2_readSpot_X2_skip rfl (by decide +kernel) (by decide) rfl rfl (Nat.le_of_ble_eq_true rfl) dX2_readSpot_20 (kc' := 0) (ks' := 0) rfl rfl (fun q4 a4 h => ?_)
    refine zb_if_ne X 28 dX2_readSpot_23 (by decide) (fun c5 => ?_) (fun c5 => ?_)
    · have h := h.1 c5
      refine zb_aload_n X dX2_readSpot_28 rfl 0 rfl ?_
      refine zb_bipush X (45 : Int32) dX2_readSpot_29 (by decide) ?_
      refine zb_callVi (n := 1) X 7 (zTC_lt (by decide)) 2 [10, 6, 0, 0] rfl (C := RX2) (Tt := TX2) (N := 4) rfl h gX2_readSpot_X2_skip rfl (by decide +kernel) (by decide) rfl rfl (Nat.le_of_ble_eq_true rfl) dX2_readSpot_31 (kc' := 0) (ks' := 0) rfl rfl (fun q6 a6 h => ?_)
      refine zb_istore_n X (lv' := [(2, .int q6), (0, .ref (ad 7)), (1, .ref (ad (29 + 3 * w1)))]) dX2_readSpot_34 rfl (by decide) rfl ?_
      refine zb_aload_n X dX2_readSpot_35 rfl 1 rfl ?_
      refine zb_getI X 7 (zTC_lt (by decide)) 2 [10, 6, 0, 0] rfl (C := RX2) (Tt := TX2) (N := 4) rfl kX2_readSpot_3 2 (by decide) rfl kX2_readSpot_2 rfl dX2_readSpot_36 (a6 7 2) rfl ?_
      refine zb_istore_n X (lv' := [(3, .int (a6 7 2)), (2, .int q6), (0, .ref (ad 7)), (1, .ref (ad (29 + 3 * w1)))]) dX2_readSpot_39 rfl (by decide) rfl ?_
      refine zb_aload_n X dX2_readSpot_40 rfl 2 rfl ?_
      refine zb_callVi (n := 0) X 7 (zTC_lt (by decide)) 2 [10, 6, 0, 0] rfl (C := RX2) (Tt := TX2) (N := 4) rfl h gX2_readSpot_X2_value rfl (by decide +kernel) (by decide) rfl rfl (Nat.le_of_ble_eq_true rfl) dX2_readSpot_41 (kc' := 0) (ks' := 0) rfl rfl (fun q7 a7 h => ?_)
      refine zb_istore X (lv' := [(4, .int q7), (3, .int (a6 7 2)), (2, .int q6), (0, .ref (ad 7)), (1, .ref (ad (29 + 3 * w1)))]) dX2_readSpot_44 (by decide) rfl ?_
      refine zb_aload_n X dX2_readSpot_46 rfl 3 rfl ?_
      refine zb_iload_n X dX2_readSpot_47 rfl 2 rfl ?_
      refine zb_if_eq X 55 dX2_readSpot_48 (by decide) (fun c8 => ?_) (fun c8 => ?_)
      · have h := h.1 c8
        refine zb_sipush X (250 : Int32) dX2_readSpot_55 (by decide) ?_
        refine zb_sub [3, 4, 2, 1, 0] rfl ?_
        exact tX2_readSpot_58 X w1 hw1 hR  q6 (a6 7 2) q7 (250 : Int32) a7 h
      · have h := h.2 c8
        refine zb_iconst X (4 : Int32) dX2_readSpot_51 (by decide) ?_
        refine zb_goto X 58 dX2_readSpot_52 (by decide) ?_
        refine zb_sub [3, 4, 2, 1, 0] rfl ?_
        exact tX2_readSpot_58 X w1 hw1 hR  q6 (a6 7 2) q7 (4 : Int32) a7 h
    · have h := h.2 c5
      refine zb_sub [] rfl ?_
      exact tX2_readSpot_26 X w1 hw1 hR   a4 h

abbrev rmX2_readReckoning : Room := { frames := 3, cells := 0, slots := 0, locals := 64 }
theorem kX2_readReckoning_0 : Cond.fieldLink RX2 71 RX3 "left" "LLoopForge$Operand;" ∈ wsX2_readReckoning := by decide +kernel
theorem kX2_readReckoning_1 : zIn RX3 TX3 9 wsX2_readReckoning := by decide +kernel
theorem kX2_readReckoning_2 : Cond.fieldLink RX2 91 RX3 "right" "LLoopForge$Operand;" ∈ wsX2_readReckoning := by decide +kernel
theorem kX2_readReckoning_3 : Cond.fieldLink RX2 94 RX3 "operator" "I" ∈ wsX2_readReckoning := by decide +kernel
theorem kX2_readReckoning_4 : Cond.fieldLink RX2 34 RX2 "at" "I" ∈ wsX2_readReckoning := by decide +kernel
theorem kX2_readReckoning_5 : zIn RX2 TX2 4 wsX2_readReckoning := by decide +kernel
def vcX2_readReckoning_119 (G : zG) (r : Bool) (ad ln : Nat → Nat) (w1 : Nat) (hw1 : w1 < 48)  (post : Int32 → (Nat → Nat → Int32) → Prop) (s0 : Int32) (al : Nat → Nat → Int32) : Prop :=
  zOk .boolean s0 ∧ post s0 al
def vcX2_readReckoning_118 (G : zG) (r : Bool) (ad ln : Nat → Nat) (w1 : Nat) (hw1 : w1 < 48)  (post : Int32 → (Nat → Nat → Int32) → Prop) (al : Nat → Nat → Int32) : Prop :=
  vcX2_readReckoning_119 G r ad ln w1 hw1  post (0 : Int32) al
def vcX2_readReckoning_56 (G : zG) (r : Bool) (ad ln : Nat → Nat) (w1 : Nat) (hw1 : w1 < 48)  (post : Int32 → (Nat → Nat → Int32) → Prop) (al : Nat → Nat → Int32) : Prop :=
  zMi G yX2_sign wsX2_sign rmX2_sign (zTC r) ad ln [.ref (ad 7)] al (fun q1 a1 => zMi G yX2_skip wsX2_skip rmX2_skip (zTC r) ad ln [.ref (ad 7), .int (40 : Int32)] (up2 (up2 a1 (29 + 3 * w1) 1 q1) 7 2 (((up2 a1 (29 + 3 * w1) 1 q1) 7 2) + (1 : Int32))) (fun q2 a2 => (q2 = 0 → vcX2_readReckoning_118 G r ad ln w1 hw1  post  a2) ∧ (¬ q2 = 0 → zMi G yX2_readOperand wsX2_readOperand rmX2_readOperand (zTC r) ad ln [.ref (ad 7), .ref (ad (30 + 3 * w1))] a2 (fun q4 a4 => (q4 = 0 → vcX2_readReckoning_118 G r ad ln w1 hw1  post  a4) ∧ (¬ q4 = 0 → zMi G yX2_readOperand wsX2_readOperand rmX2_readOperand (zTC r) ad ln [.ref (ad 7), .ref (ad (31 + 3 * w1))] a4 (fun q6 a6 => (q6 = 0 → vcX2_readReckoning_118 G r ad ln w1 hw1  post  a6) ∧ (¬ q6 = 0 → zMi G yX2_skip wsX2_skip rmX2_skip (zTC r) ad ln [.ref (ad 7), .int (41 : Int32)] a6 (fun q8 a8 => (q8 = 0 → vcX2_readReckoning_118 G r ad ln w1 hw1  post  a8) ∧ (¬ q8 = 0 → vcX2_readReckoning_119 G r ad ln w1 hw1  post (1 : Int32) a8)))))))))
def vcX2_readReckoning_55 (G : zG) (r : Bool) (ad ln : Nat → Nat) (w1 : Nat) (hw1 : w1 < 48)  (post : Int32 → (Nat → Nat → Int32) → Prop) (s0 : Int32) (al : Nat → Nat → Int32) : Prop :=
  zOk .boolean s0 ∧ post s0 al
def vcX2_readReckoning_54 (G : zG) (r : Bool) (ad ln : Nat → Nat) (w1 : Nat) (hw1 : w1 < 48)  (post : Int32 → (Nat → Nat → Int32) → Prop) (al : Nat → Nat → Int32) : Prop :=
  vcX2_readReckoning_55 G r ad ln w1 hw1  post (0 : Int32) al
def vcX2_readReckoning_0 (G : zG) (r : Bool) (ad ln : Nat → Nat) (w1 : Nat) (hw1 : w1 < 48)  (post : Int32 → (Nat → Nat → Int32) → Prop) (al : Nat → Nat → Int32) : Prop :=
  zMi G yX2_sign wsX2_sign rmX2_sign (zTC r) ad ln [.ref (ad 7)] al (fun q1 a1 => (q1 = (258 : Int32) → vcX2_readReckoning_56 G r ad ln w1 hw1  post  a1) ∧ (¬ q1 = (258 : Int32) → zMi G yX2_sign wsX2_sign rmX2_sign (zTC r) ad ln [.ref (ad 7)] a1 (fun q3 a3 => (q3 = (259 : Int32) → vcX2_readReckoning_56 G r ad ln w1 hw1  post  a3) ∧ (¬ q3 = (259 : Int32) → zMi G yX2_readOperand wsX2_readOperand rmX2_readOperand (zTC r) ad ln [.ref (ad 7), .ref (ad (30 + 3 * w1))] a3 (fun q5 a5 => (q5 = 0 → vcX2_readReckoning_54 G r ad ln w1 hw1  post  a5) ∧ (¬ q5 = 0 → zMi G yX2_readOperator wsX2_readOperator rmX2_readOperator (zTC r) ad ln [.ref (ad 7), .ref (ad (29 + 3 * w1))] a5 (fun q7 a7 => (q7 = 0 → vcX2_readReckoning_54 G r ad ln w1 hw1  post  a7) ∧ (¬ q7 = 0 → zMi G yX2_readOperand wsX2_readOperand rmX2_readOperand (zTC r) ad ln [.ref (ad 7), .ref (ad (31 + 3 * w1))] a7 (fun q9 a9 => (q9 = 0 → vcX2_readReckoning_54 G r ad ln w1 hw1  post  a9) ∧ (¬ q9 = 0 → vcX2_readReckoning_55 G r ad ln w1 hw1  post (1 : Int32) a9))))))))))
set_option maxRecDepth 20000 in
theorem tX2_readReckoning_119 {G : zG} {Z : zC} {r : Bool} {ad ln : Nat → Nat} (X : zX G Z cX2_readReckoning 2 RX2 wsX2_readReckoning) (w1 : Nat) (hw1 : w1 < 48)  {post : Int32 → (Nat → Nat → Int32) → Prop} (hR : zRi G Z rmX2_readReckoning 2 (zTC r) ad ln cX2_readReckoning .boolean post)  (s0 : Int32) (al : Nat → Nat → Int32) (h : vcX2_readReckoning_119 G r ad ln w1 hw1  post s0 al) : zB G Z rmX2_readReckoning 2 (zTC r) ad ln 0 0 119 [] [.int s0] al := by
  unfold vcX2_readReckoning_119 at h
  exact hR 119 _ _ _ dX2_readReckoning_119 h.1 h.2
set_option maxRecDepth 20000 in
theorem tX2_readReckoning_118 {G : zG} {Z : zC} {r : Bool} {ad ln : Nat → Nat} (X : zX G Z cX2_readReckoning 2 RX2 wsX2_readReckoning) (w1 : Nat) (hw1 : w1 < 48)  {post : Int32 → (Nat → Nat → Int32) → Prop} (hR : zRi G Z rmX2_readReckoning 2 (zTC r) ad ln cX2_readReckoning .boolean post)  (al : Nat → Nat → Int32) (h : vcX2_readReckoning_118 G r ad ln w1 hw1  post  al) : zB G Z rmX2_readReckoning 2 (zTC r) ad ln 0 0 118 [] [] al := by
  unfold vcX2_readReckoning_118 at h
  refine zb_iconst X (0 : Int32) dX2_readReckoning_118 (by decide) ?_
  refine zb_sub [] rfl ?_
  exact tX2_readReckoning_119 X w1 hw1 hR  (0 : Int32) al h
set_option maxRecDepth 20000 in
theorem tX2_readReckoning_56 {G : zG} {Z : zC} {r : Bool} {ad ln : Nat → Nat} (X : zX G Z cX2_readReckoning 2 RX2 wsX2_readReckoning) (w1 : Nat) (hw1 : w1 < 48)  {post : Int32 → (Nat → Nat → Int32) → Prop} (hR : zRi G Z rmX2_readReckoning 2 (zTC r) ad ln cX2_readReckoning .boolean post)  (al : Nat → Nat → Int32) (h : vcX2_readReckoning_56 G r ad ln w1 hw1  post  al) : zB G Z rmX2_readReckoning 2 (zTC r) ad ln 0 0 56 [(0, .ref (ad 7)), (1, .ref (ad (29 + 3 * w1)))] [] al := by
  unfold vcX2_readReckoning_56 at h
  refine zb_aload_n X dX2_readReckoning_56 rfl 1 rfl ?_
  refine zb_aload_n X dX2_readReckoning_57 rfl 0 rfl ?_
  refine zb_callVi (n := 0) X 7 (zTC_lt (by decide)) 2 [10, 6, 0, 0] rfl (C := RX2) (Tt := TX2) (N := 4) rfl h gX2_readReckoning_X2_sign rfl (by decide +kernel) (by decide) rfl rfl (Nat.le_of_ble_eq_true rfl) dX2_readReckoning_58 (kc' := 0) (ks' := 0) rfl rfl (fun q1 a1 h => ?_)
  refine zb_putI X (29 + 3 * w1) (zTC_lt (zrow_lt hw1)) 3 [0, 0, 0, 0, 0, 0, 0, (30 + 3 * w1) + 2, (31 + 3 * w1) + 2] (zTC_row r hw1) (C := RX3) (Tt := TX3) (N := 9) rfl kX2_readReckoning_1 tyX3 tyX3_ok nmX3 1 (by decide) rfl kX2_readReckoning_3 rfl rfl rfl rfl dX2_readReckoning_61 ?_
  refine zb_aload_n X dX2_readReckoning_64 rfl 0 rfl ?_
  refine zb_dup X dX2_readReckoning_65 rfl ?_
  refine zb_getI X 7 (zTC_lt (by decide)) 2 [10, 6, 0, 0] rfl (C := RX2) (Tt := TX2) (N := 4) rfl kX2_readReckoning_5 2 (by decide) rfl kX2_readReckoning_4 rfl dX2_readReckoning_66 ((up2 a1 (29 + 3 * w1) 1 q1) 7 2) rfl ?_
  refine zb_iconst X (1 : Int32) dX2_readReckoning_69 (by decide) ?_
  refine zb_iadd X dX2_readReckoning_70 ?_
  refine zb_putI X 7 (zTC_lt (by decide)) 2 [10, 6, 0, 0] rfl (C := RX2) (Tt := TX2) (N := 4) rfl kX2_readReckoning_5 tyX2 tyX2_ok nmX2 2 (by decide) rfl kX2_readReckoning_4 rfl rfl rfl rfl dX2_readReckoning_71 ?_
  refine zb_aload_n X dX2_readReckoning_74 rfl 0 rfl ?_
  refine zb_bipush X (40 : Int32) dX2_readReckoning_75 (by decide) ?_
  refine zb_callVi (n := 1) X 7 (zTC_lt (by decide)) 2 [10, 6, 0, 0] rfl (C := RX2) (Tt := TX2) (N := 4) rfl h gX2_readReckoning_X2_skip rfl (by decide +kernel) (by decide) rfl rfl (Nat.le_of_ble_eq_true rfl) dX2_readReckoning_77 (kc' := 0) (ks' := 0) rfl rfl (fun q2 a2 h => ?_)
  refine zb_if_eq X 118 dX2_readReckoning_80 (by decide) (fun c3 => ?_) (fun c3 => ?_)
  · have h := h.1 c3
    refine zb_sub [] rfl ?_
    exact tX2_readReckoning_118 X w1 hw1 hR   a2 h
  · have h := h.2 c3
    refine zb_aload_n X dX2_readReckoning_83 rfl 0 rfl ?_
    refine zb_aload_n X dX2_readReckoning_84 rfl 1 rfl ?_
    refine zb_getR X (29 + 3 * w1) (zTC_lt (zrow_lt hw1)) 3 [0, 0, 0, 0, 0, 0, 0, (30 + 3 * w1) + 2, (31 + 3 * w1) + 2] (zTC_row r hw1) (C := RX3) (Tt := TX3) (N := 9) rfl kX2_readReckoning_1 7 (by decide) (30 + 3 * w1) rfl kX2_readReckoning_0 rfl dX2_readReckoning_85 ?_
    refine zb_callVi (n := 1) X 7 (zTC_lt (by decide)) 2 [10, 6, 0, 0] rfl (C := RX2) (Tt := TX2) (N := 4) rfl h gX2_readReckoning_X2_readOperand rfl (by decide +kernel) (by decide) rfl rfl (Nat.le_of_ble_eq_true rfl) dX2_readReckoning_88 (kc' := 0) (ks' := 0) rfl rfl (fun q4 a4 h => ?_)
    refine zb_if_eq X 118 dX2_readReckoning_91 (by decide) (fun c5 => ?_) (fun c5 => ?_)
    · have h := h.1 c5
      refine zb_sub [] rfl ?_
      exact tX2_readReckoning_118 X w1 hw1 hR   a4 h
    · have h := h.2 c5
      refine zb_aload_n X dX2_readReckoning_94 rfl 0 rfl ?_
      refine zb_aload_n X dX2_readReckoning_95 rfl 1 rfl ?_
      refine zb_getR X (29 + 3 * w1) (zTC_lt (zrow_lt hw1)) 3 [0, 0, 0, 0, 0, 0, 0, (30 + 3 * w1) + 2, (31 + 3 * w1) + 2] (zTC_row r hw1) (C := RX3) (Tt := TX3) (N := 9) rfl kX2_readReckoning_1 8 (by decide) (31 + 3 * w1) rfl kX2_readReckoning_2 rfl dX2_readReckoning_96 ?_
      refine zb_callVi (n := 1) X 7 (zTC_lt (by decide)) 2 [10, 6, 0, 0] rfl (C := RX2) (Tt := TX2) (N := 4) rfl h gX2_readReckoning_X2_readOperand rfl (by decide +kernel) (by decide) rfl rfl (Nat.le_of_ble_eq_true rfl) dX2_readReckoning_99 (kc' := 0) (ks' := 0) rfl rfl (fun q6 a6 h => ?_)
      refine zb_if_eq X 118 dX2_readReckoning_102 (by decide) (fun c7 => ?_) (fun c7 => ?_)
      · have h := h.1 c7
        refine zb_sub [] rfl ?_
        exact tX2_readReckoning_118 X w1 hw1 hR   a6 h
      · have h := h.2 c7
        refine zb_aload_n X dX2_readReckoning_105 rfl 0 rfl ?_
        refine zb_bipush X (41 : Int32) dX2_readReckoning_106 (by decide) ?_
        refine zb_callVi (n := 1) X 7 (zTC_lt (by decide)) 2 [10, 6, 0, 0] rfl (C := RX2) (Tt := TX2) (N := 4) rfl h gX2_readReckoning_X2_skip rfl (by decide +kernel) (by decide) rfl rfl (Nat.le_of_ble_eq_true rfl) dX2_readReckoning_108 (kc' := 0) (ks' := 0) rfl rfl (fun q8 a8 h => ?_)
        refine zb_if_eq X 118 dX2_readReckoning_111 (by decide) (fun c9 => ?_) (fun c9 => ?_)
        · have h := h.1 c9
          refine zb_sub [] rfl ?_
          exact tX2_readReckoning_118 X w1 hw1 hR   a8 h
        · have h := h.2 c9
          refine zb_iconst X (1 : Int32) dX2_readReckoning_114 (by decide) ?_
          refine zb_goto X 119 dX2_readReckoning_115 (by decide) ?_
          refine zb_sub [] rfl ?_
          exact tX2_readReckoning_119 X w1 hw1 hR  (1 : Int32) a8 h
set_option maxRecDepth 20000 in
theorem tX2_readReckoning_55 {G : zG} {Z : zC} {r : Bool} {ad ln : Nat → Nat} (X : zX G Z cX2_readReckoning 2 RX2 wsX2_readReckoning) (w1 : Nat) (hw1 : w1 < 48)  {post : Int32 → (Nat → Nat → Int32) → Prop} (hR : zRi G Z rmX2_readReckoning 2 (zTC r) ad ln cX2_readReckoning .boolean post)  (s0 : Int32) (al : Nat → Nat → Int32) (h : vcX2_readReckoning_55 G r ad ln w1 hw1  post s0 al) : zB G Z rmX2_readReckoning 2 (zTC r) ad ln 0 0 55 [] [.int s0] al := by
  unfold vcX2_readReckoning_55 at h
  exact hR 55 _ _ _ dX2_readReckoning_55 h.1 h.2
set_option maxRecDepth 20000 in
theorem tX2_readReckoning_54 {G : zG} {Z : zC} {r : Bool} {ad ln : Nat → Nat} (X : zX G Z cX2_readReckoning 2 RX2 wsX2_readReckoning) (w1 : Nat) (hw1 : w1 < 48)  {post : Int32 → (Nat → Nat → Int32) → Prop} (hR : zRi G Z rmX2_readReckoning 2 (zTC r) ad ln cX2_readReckoning .boolean post)  (al : Nat → Nat → Int32) (h : vcX2_readReckoning_54 G r ad ln w1 hw1  post  al) : zB G Z rmX2_readReckoning 2 (zTC r) ad ln 0 0 54 [] [] al := by
  unfold vcX2_readReckoning_54 at h
  refine zb_iconst X (0 : Int32) dX2_readReckoning_54 (by decide) ?_
  refine zb_sub [] rfl ?_
  exact tX2_readReckoning_55 X w1 hw1 hR  (0 : Int32) al h
set_option maxRecDepth 20000 in
theorem tX2_readReckoning_0 {G : zG} {Z : zC} {r : Bool} {ad ln : Nat → Nat} (X : zX G Z cX2_readReckoning 2 RX2 wsX2_readReckoning) (w1 : Nat) (hw1 : w1 < 48)  {post : Int32 → (Nat → Nat → Int32) → Prop} (hR : zRi G Z rmX2_readReckoning 2 (zTC r) ad ln cX2_readReckoning .boolean post)  (al : Nat → Nat → Int32) (h : vcX2_readReckoning_0 G r ad ln w1 hw1  post  al) : zB G Z rmX2_readReckoning 2 (zTC r) ad ln 0 0 0 [(0, .ref (ad 7)), (1, .ref (ad (29 + 3 * w1)))] [] al := by
  unfold vcX2_readReckoning_0 at h
  refine zb_aload_n X dX2_readReckoning_0 rfl 0 rfl ?_
  refine zb_callVi (n := 0) X 7 (zTC_lt (by decide)) 2 [10, 6, 0, 0] rfl (C := RX2) (Tt := TX2) (N := 4) rfl h gX2_readReckoning_X2_sign rfl (by decide +kernel) (by decide) rfl rfl (Nat.le_of_ble_eq_true rfl) dX2_readReckoning_1 (kc' := 0) (ks' := 0) rfl rfl (fun q1 a1 h => ?_)
  refine zb_sipush X (258 : Int32) dX2_readReckoning_4 (by decide) ?_
  refine zb_icmp_eq X 56 dX2_readReckoning_7 (by decide) (fun c2 => ?_) (fun c2 => ?_)
  · have h := h.1 c2
    refine zb_sub [0, 1] rfl ?_
    exact tX2_readReckoning_56 X w1 hw1 hR   a1 h
  · have h := h.2 c2
    refine zb_aload_n X dX2_readReckoning_10 rfl 0 rfl ?_
    refine zb_callVi (n := 0) X 7 (zTC_lt (by decide)) 2 [10, 6, 0, 0] rfl (C := RX2) (Tt := TX2) (N := 4) rfl h gX2_readReckoning_X2_sign rfl (by decide +kernel) (by decide) rfl rfl (Nat.le_of_ble_eq_true rfl) dX2_readReckoning_11 (kc' := 0) (ks' := 0) rfl rfl (fun q3 a3 h => ?_)
    refine zb_sipush X (259 : Int32) dX2_readReckoning_14 (by decide) ?_
    refine zb_icmp_eq X 56 dX2_readReckoning_17 (by decide) (fun c4 => ?_) (fun c4 => ?_)
    · have h := h.1 c4
      refine zb_sub [0, 1] rfl ?_
      exact tX2_readReckoning_56 X w1 hw1 hR   a3 h
    · have h := h.2 c4
      refine zb_aload_n X dX2_readReckoning_20 rfl 0 rfl ?_
      refine zb_aload_n X dX2_readReckoning_21 rfl 1 rfl ?_
      refine zb_getR X (29 + 3 * w1) (zTC_lt (zrow_lt hw1)) 3 [0, 0, 0, 0, 0, 0, 0, (30 + 3 * w1) + 2, (31 + 3 * w1) + 2] (zTC_row r hw1) (C := RX3) (Tt := TX3) (N := 9) rfl kX2_readReckoning_1 7 (by decide) (30 + 3 * w1) rfl kX2_readReckoning_0 rfl dX2_readReckoning_22 ?_
      refine zb_callVi (n := 1) X 7 (zTC_lt (by decide)) 2 [10, 6, 0, 0] rfl (C := RX2) (Tt := TX2) (N := 4) rfl h gX2_readReckoning_X2_readOperand rfl (by decide +kernel) (by decide) rfl rfl (Nat.le_of_ble_eq_true rfl) dX2_readReckoning_25 (kc' := 0) (ks' := 0) rfl rfl (fun q5 a5 h => ?_)
      refine zb_if_eq X 54 dX2_readReckoning_28 (by decide) (fun c6 => ?_) (fun c6 => ?_)
      · have h := h.1 c6
        refine zb_sub [] rfl ?_
        exact tX2_readReckoning_54 X w1 hw1 hR   a5 h
      · have h := h.2 c6
        refine zb_aload_n X dX2_readReckoning_31 rfl 0 rfl ?_
        refine zb_aload_n X dX2_readReckoning_32 rfl 1 rfl ?_
        refine zb_callVi (n := 1) X 7 (zTC_lt (by decide)) 2 [10, 6, 0, 0] rfl (C := RX2) (Tt := TX2) (N := 4) rfl h gX2_readReckoning_X2_readOperator rfl (by decide +kernel) (by decide) rfl rfl (Nat.le_of_ble_eq_true rfl) dX2_readReckoning_33 (kc' := 0) (ks' := 0) rfl rfl (fun q7 a7 h => ?_)
        refine zb_if_eq X 54 dX2_readReckoning_36 (by decide) (fun c8 => ?_) (fun c8 => ?_)
        · have h := h.1 c8
          refine zb_sub [] rfl ?_
          exact tX2_readReckoning_54 X w1 hw1 hR   a7 h
        · have h := h.2 c8
          refine zb_aload_n X dX2_readReckoning_39 rfl 0 rfl ?_
          refine zb_aload_n X dX2_readReckoning_40 rfl 1 rfl ?_
          refine zb_getR X (29 + 3 * w1) (zTC_lt (zrow_lt hw1)) 3 [0, 0, 0, 0, 0, 0, 0, (30 + 3 * w1) + 2, (31 + 3 * w1) + 2] (zTC_row r hw1) (C := RX3) (Tt := TX3) (N := 9) rfl kX2_readReckoning_1 8 (by decide) (31 + 3 * w1) rfl kX2_readReckoning_2 rfl dX2_readReckoning_41 ?_
          refine zb_callVi (n := 1) X 7 (zTC_lt (by decide)) 2 [10, 6, 0, 0] rfl (C := RX2) (Tt := TX2) (N := 4) rfl h gX2_readReckoning_X2_readOperand rfl (by decide +kernel) (by decide) rfl rfl (Nat.le_of_ble_eq_true rfl) dX2_readReckoning_44 (kc' := 0) (ks' := 0) rfl rfl (fun q9 a9 h => ?_)
          refine zb_if_eq X 54 dX2_readReckoning_47 (by decide) (fun c10 => ?_) (fun c10 => ?_)
          · have h := h.1 c10
            refine zb_sub [] rfl ?_
            exact tX2_readReckoning_54 X w1 hw1 hR   a9 h
          · have h := h.2 c10
            refine zb_iconst X (1 : Int32) dX2_readReckoning_50 (by decide) ?_
            refine zb_goto X 55 dX2_readReckoning_51 (by decide) ?_
            refine zb_sub [] rfl ?_
            exact tX2_readReckoning_55 X w1 hw1 hR  (1 : Int32) a9 h

abbrev rmX2_readRow : Room := { frames := 4, cells := 0, slots := 0, locals := 87 }
theorem kX2_readRow_0 : Cond.fieldLink RX2 82 RX3 "target" "I" ∈ wsX2_readRow := by decide +kernel
theorem kX2_readRow_1 : zIn RX3 TX3 9 wsX2_readRow := by decide +kernel
theorem kX2_readRow_2 : Cond.fieldLink RX2 34 RX2 "at" "I" ∈ wsX2_readRow := by decide +kernel
theorem kX2_readRow_3 : zIn RX2 TX2 4 wsX2_readRow := by decide +kernel
theorem kX2_readRow_4 : Cond.fieldLink RX2 61 RX3 "kind" "I" ∈ wsX2_readRow := by decide +kernel
theorem kX2_readRow_5 : Cond.fieldLink RX2 71 RX3 "left" "LLoopForge$Operand;" ∈ wsX2_readRow := by decide +kernel
def vcX2_readRow_55 (G : zG) (r : Bool) (ad ln : Nat → Nat) (w1 : Nat) (hw1 : w1 < 48)  (post : Int32 → (Nat → Nat → Int32) → Prop) (s0 : Int32) (al : Nat → Nat → Int32) : Prop :=
  zOk .boolean s0 ∧ post s0 al
def vcX2_readRow_54 (G : zG) (r : Bool) (ad ln : Nat → Nat) (w1 : Nat) (hw1 : w1 < 48)  (post : Int32 → (Nat → Nat → Int32) → Prop) (al : Nat → Nat → Int32) : Prop :=
  vcX2_readRow_55 G r ad ln w1 hw1  post (0 : Int32) al
def vcX2_readRow_0 (G : zG) (r : Bool) (ad ln : Nat → Nat) (w1 : Nat) (hw1 : w1 < 48)  (post : Int32 → (Nat → Nat → Int32) → Prop) (al : Nat → Nat → Int32) : Prop :=
  zMi G yX2_place wsX2_place rmX2_place (zTC r) ad ln [.ref (ad 7)] al (fun q1 a1 => zMv G yX3_clear wsX3_clear rmX3_clear (zTC r) ad ln [.ref (ad (29 + 3 * w1)), .int q1] a1 (fun a2 => zMi G yX2_sign wsX2_sign rmX2_sign (zTC r) ad ln [.ref (ad 7)] a2 (fun q3 a3 => (q3 = (114 : Int32) → zMi G yX2_value wsX2_value rmX2_value (zTC r) ad ln [.ref (ad 7)] a3 (fun q5 a5 => zMi G yX2_skip wsX2_skip rmX2_skip (zTC r) ad ln [.ref (ad 7), .int (61 : Int32)] (up2 (up2 a5 (29 + 3 * w1) 2 q5) 7 2 (((up2 a5 (29 + 3 * w1) 2 q5) 7 2) + (1 : Int32))) (fun q6 a6 => (¬ q6 = 0 → zMi G yX2_sign wsX2_sign rmX2_sign (zTC r) ad ln [.ref (ad 7)] a6 (fun q8 a8 => (q8 = (97 : Int32) → zMi G yX2_readSpot wsX2_readSpot rmX2_readSpot (zTC r) ad ln [.ref (ad 7), .ref (ad (29 + 3 * w1))] (up2 a8 (29 + 3 * w1) 0 (2 : Int32)) (fun q10 a10 => zOk .boolean q10 ∧ post q10 a10)) ∧ (¬ q8 = (97 : Int32) → zMi G yX2_readReckoning wsX2_readReckoning rmX2_readReckoning (zTC r) ad ln [.ref (ad 7), .ref (ad (29 + 3 * w1))] a8 (fun q10 a10 => zOk .boolean q10 ∧ post q10 a10)))) ∧ (q6 = 0 → post (0 : Int32) a6)))) ∧ (¬ q3 = (114 : Int32) → zMi G yX2_readSpot wsX2_readSpot rmX2_readSpot (zTC r) ad ln [.ref (ad 7), .ref (ad (29 + 3 * w1))] (up2 a3 (29 + 3 * w1) 0 (3 : Int32)) (fun q5 a5 => (q5 = 0 → vcX2_readRow_54 G r ad ln w1 hw1  post  a5) ∧ (¬ q5 = 0 → zMi G yX2_skip wsX2_skip rmX2_skip (zTC r) ad ln [.ref (ad 7), .int (61 : Int32)] a5 (fun q7 a7 => (q7 = 0 → vcX2_readRow_54 G r ad ln w1 hw1  post  a7) ∧ (¬ q7 = 0 → zMi G yX2_readOperand wsX2_readOperand rmX2_readOperand (zTC r) ad ln [.ref (ad 7), .ref (ad (30 + 3 * w1))] a7 (fun q9 a9 => (q9 = 0 → vcX2_readRow_54 G r ad ln w1 hw1  post  a9) ∧ (¬ q9 = 0 → vcX2_readRow_55 G r ad ln w1 hw1  post (1 : Int32) a9))))))))))
set_option maxRecDepth 20000 in
theorem tX2_readRow_55 {G : zG} {Z : zC} {r : Bool} {ad ln : Nat → Nat} (X : zX G Z cX2_readRow 2 RX2 wsX2_readRow) (w1 : Nat) (hw1 : w1 < 48)  {post : Int32 → (Nat → Nat → Int32) → Prop} (hR : zRi G Z rmX2_readRow 2 (zTC r) ad ln cX2_readRow .boolean post)  (s0 : Int32) (al : Nat → Nat → Int32) (h : vcX2_readRow_55 G r ad ln w1 hw1  post s0 al) : zB G Z rmX2_readRow 2 (zTC r) ad ln 0 0 55 [] [.int s0] al := by
  unfold vcX2_readRow_55 at h
  exact hR 55 _ _ _ dX2_readRow_55 h.1 h.2
set_option maxRecDepth 20000 in
theorem tX2_readRow_54 {G : zG} {Z : zC} {r : Bool} {ad ln : Nat → Nat} (X : zX G Z cX2_readRow 2 RX2 wsX2_readRow) (w1 : Nat) (hw1 : w1 < 48)  {post : Int32 → (Nat → Nat → Int32) → Prop} (hR : zRi G Z rmX2_readRow 2 (zTC r) ad ln cX2_readRow .boolean post)  (al : Nat → Nat → Int32) (h : vcX2_readRow_54 G r ad ln w1 hw1  post  al) : zB G Z rmX2_readRow 2 (zTC r) ad ln 0 0 54 [] [] al := by
  unfold vcX2_readRow_54 at h
  refine zb_iconst X (0 : Int32) dX2_readRow_54 (by decide) ?_
  refine zb_sub [] rfl ?_
  exact tX2_readRow_55 X w1 hw1 hR  (0 : Int32) al h
set_option maxRecDepth 20000 in
theorem tX2_readRow_0 {G : zG} {Z : zC} {r : Bool} {ad ln : Nat → Nat} (X : zX G Z cX2_readRow 2 RX2 wsX2_readRow) (w1 : Nat) (hw1 : w1 < 48)  {post : Int32 → (Nat → Nat → Int32) → Prop} (hR : zRi G Z rmX2_readRow 2 (zTC r) ad ln cX2_readRow .boolean post)  (al : Nat → Nat → Int32) (h : vcX2_readRow_0 G r ad ln w1 hw1  post  al) : zB G Z rmX2_readRow 2 (zTC r) ad ln 0 0 0 [(0, .ref (ad 7)), (1, .ref (ad (29 + 3 * w1)))] [] al := by
  unfold vcX2_readRow_0 at h
  refine zb_aload_n X dX2_readRow_0 rfl 1 rfl ?_
  refine zb_aload_n X dX2_readRow_1 rfl 0 rfl ?_
  refine zb_callVi (n := 0) X 7 (zTC_lt (by decide)) 2 [10, 6, 0, 0] rfl (C := RX2) (Tt := TX2) (N := 4) rfl h gX2_readRow_X2_place rfl (by decide +kernel) (by decide) rfl rfl (Nat.le_of_ble_eq_true rfl) dX2_readRow_2 (kc' := 0) (ks' := 0) rfl rfl (fun q1 a1 h => ?_)
  refine zb_callVv (n := 1) X (29 + 3 * w1) (zTC_lt (zrow_lt hw1)) 3 [0, 0, 0, 0, 0, 0, 0, (30 + 3 * w1) + 2, (31 + 3 * w1) + 2] (zTC_row r hw1) (C := RX3) (Tt := TX3) (N := 9) rfl h gX2_readRow_X3_clear rfl (by decide +kernel) (by decide) rfl rfl (Nat.le_of_ble_eq_true rfl) dX2_readRow_5 (kc' := 0) (ks' := 0) rfl rfl (fun a2 h => ?_)
  refine zb_aload_n X dX2_readRow_8 rfl 0 rfl ?_
  refine zb_callVi (n := 0) X 7 (zTC_lt (by decide)) 2 [10, 6, 0, 0] rfl (C := RX2) (Tt := TX2) (N := 4) rfl h gX2_readRow_X2_sign rfl (by decide +kernel) (by decide) rfl rfl (Nat.le_of_ble_eq_true rfl) dX2_readRow_9 (kc' := 0) (ks' := 0) rfl rfl (fun q3 a3 h => ?_)
  refine zb_bipush X (114 : Int32) dX2_readRow_12 (by decide) ?_
  refine zb_icmp_eq X 56 dX2_readRow_14 (by decide) (fun c4 => ?_) (fun c4 => ?_)
  · have h := h.1 c4
    refine zb_aload_n X dX2_readRow_56 rfl 1 rfl ?_
    refine zb_aload_n X dX2_readRow_57 rfl 0 rfl ?_
    refine zb_callVi (n := 0) X 7 (zTC_lt (by decide)) 2 [10, 6, 0, 0] rfl (C := RX2) (Tt := TX2) (N := 4) rfl h gX2_readRow_X2_value rfl (by decide +kernel) (by decide) rfl rfl (Nat.le_of_ble_eq_true rfl) dX2_readRow_58 (kc' := 0) (ks' := 0) rfl rfl (fun q5 a5 h => ?_)
    refine zb_putI X (29 + 3 * w1) (zTC_lt (zrow_lt hw1)) 3 [0, 0, 0, 0, 0, 0, 0, (30 + 3 * w1) + 2, (31 + 3 * w1) + 2] (zTC_row r hw1) (C := RX3) (Tt := TX3) (N := 9) rfl kX2_readRow_1 tyX3 tyX3_ok nmX3 2 (by decide) rfl kX2_readRow_0 rfl rfl rfl rfl dX2_readRow_61 ?_
    refine zb_aload_n X dX2_readRow_64 rfl 0 rfl ?_
    refine zb_dup X dX2_readRow_65 rfl ?_
    refine zb_getI X 7 (zTC_lt (by decide)) 2 [10, 6, 0, 0] rfl (C := RX2) (Tt := TX2) (N := 4) rfl kX2_readRow_3 2 (by decide) rfl kX2_readRow_2 rfl dX2_readRow_66 ((up2 a5 (29 + 3 * w1) 2 q5) 7 2) rfl ?_
    refine zb_iconst X (1 : Int32) dX2_readRow_69 (by decide) ?_
    refine zb_iadd X dX2_readRow_70 ?_
    refine zb_putI X 7 (zTC_lt (by decide)) 2 [10, 6, 0, 0] rfl (C := RX2) (Tt := TX2) (N := 4) rfl kX2_readRow_3 tyX2 tyX2_ok nmX2 2 (by decide) rfl kX2_readRow_2 rfl rfl rfl rfl dX2_readRow_71 ?_
    refine zb_aload_n X dX2_readRow_74 rfl 0 rfl ?_
    refine zb_bipush X (61 : Int32) dX2_readRow_75 (by decide) ?_
    refine zb_callVi (n := 1) X 7 (zTC_lt (by decide)) 2 [10, 6, 0, 0] rfl (C := RX2) (Tt := TX2) (N := 4) rfl h gX2_readRow_X2_skip rfl (by decide +kernel) (by decide) rfl rfl (Nat.le_of_ble_eq_true rfl) dX2_readRow_77 (kc' := 0) (ks' := 0) rfl rfl (fun q6 a6 h => ?_)
    refine zb_if_ne X 85 dX2_readRow_80 (by decide) (fun c7 => ?_) (fun c7 => ?_)
    · have h := h.1 c7
      refine zb_aload_n X dX2_readRow_85 rfl 0 rfl ?_
      refine zb_callVi (n := 0) X 7 (zTC_lt (by decide)) 2 [10, 6, 0, 0] rfl (C := RX2) (Tt := TX2) (N := 4) rfl h gX2_readRow_X2_sign rfl (by decide +kernel) (by decide) rfl rfl (Nat.le_of_ble_eq_true rfl) dX2_readRow_86 (kc' := 0) (ks' := 0) rfl rfl (fun q8 a8 h => ?_)
      refine zb_bipush X (97 : Int32) dX2_readRow_89 (by decide) ?_
      refine zb_icmp_eq X 100 dX2_readRow_91 (by decide) (fun c9 => ?_) (fun c9 => ?_)
      · have h := h.1 c9
        refine zb_aload_n X dX2_readRow_100 rfl 1 rfl ?_
        refine zb_iconst X (2 : Int32) dX2_readRow_101 (by decide) ?_
        refine zb_putI X (29 + 3 * w1) (zTC_lt (zrow_lt hw1)) 3 [0, 0, 0, 0, 0, 0, 0, (30 + 3 * w1) + 2, (31 + 3 * w1) + 2] (zTC_row r hw1) (C := RX3) (Tt := TX3) (N := 9) rfl kX2_readRow_1 tyX3 tyX3_ok nmX3 0 (by decide) rfl kX2_readRow_4 rfl rfl rfl rfl dX2_readRow_102 ?_
        refine zb_aload_n X dX2_readRow_105 rfl 0 rfl ?_
        refine zb_aload_n X dX2_readRow_106 rfl 1 rfl ?_
        refine zb_callVi (n := 1) X 7 (zTC_lt (by decide)) 2 [10, 6, 0, 0] rfl (C := RX2) (Tt := TX2) (N := 4) rfl h gX2_readRow_X2_readSpot rfl (by decide +kernel) (by decide) rfl rfl (Nat.le_of_ble_eq_true rfl) dX2_readRow_107 (kc' := 0) (ks' := 0) rfl rfl (fun q10 a10 h => ?_)
        exact hR 110 _ _ _ dX2_readRow_110 h.1 h.2
      · have h := h.2 c9
        refine zb_aload_n X dX2_readRow_94 rfl 0 rfl ?_
        refine zb_aload_n X dX2_readRow_95 rfl 1 rfl ?_
        refine zb_callVi (n := 1) X 7 (zTC_lt (by decide)) 2 [10, 6, 0, 0] rfl (C := RX2) (Tt := TX2) (N := 4) rfl h gX2_readRow_X2_readReckoning rfl (by decide +kernel) (by decide) rfl rfl (Nat.le_of_ble_eq_true rfl) dX2_readRow_96 (kc' := 0) (ks' := 0) rfl rfl (fun q10 a10 h => ?_)
        exact hR 99 _ _ _ dX2_readRow_99 h.1 h.2
    · have h := h.2 c7
      refine zb_iconst X (0 : Int32) dX2_readRow_83 (by decide) ?_
      exact hR 84 _ _ _ dX2_readRow_84 rfl h
  · have h := h.2 c4
    refine zb_aload_n X dX2_readRow_17 rfl 1 rfl ?_
    refine zb_iconst X (3 : Int32) dX2_readRow_18 (by decide) ?_
    refine zb_putI X (29 + 3 * w1) (zTC_lt (zrow_lt hw1)) 3 [0, 0, 0, 0, 0, 0, 0, (30 + 3 * w1) + 2, (31 + 3 * w1) + 2] (zTC_row r hw1) (C := RX3) (Tt := TX3) (N := 9) rfl kX2_readRow_1 tyX3 tyX3_ok nmX3 0 (by decide) rfl kX2_readRow_4 rfl rfl rfl rfl dX2_readRow_19 ?_
    refine zb_aload_n X dX2_readRow_22 rfl 0 rfl ?_
    refine zb_aload_n X dX2_readRow_23 rfl 1 rfl ?_
    refine zb_callVi (n := 1) X 7 (zTC_lt (by decide)) 2 [10, 6, 0, 0] rfl (C := RX2) (Tt := TX2) (N := 4) rfl h gX2_readRow_X2_readSpot rfl (by decide +kernel) (by decide) rfl rfl (Nat.le_of_ble_eq_true rfl) dX2_readRow_24 (kc' := 0) (ks' := 0) rfl rfl (fun q5 a5 h => ?_)
    refine zb_if_eq X 54 dX2_readRow_27 (by decide) (fun c6 => ?_) (fun c6 => ?_)
    · have h := h.1 c6
      refine zb_sub [] rfl ?_
      exact tX2_readRow_54 X w1 hw1 hR   a5 h
    · have h := h.2 c6
      refine zb_aload_n X dX2_readRow_30 rfl 0 rfl ?_
      refine zb_bipush X (61 : Int32) dX2_readRow_31 (by decide) ?_
      refine zb_callVi (n := 1) X 7 (zTC_lt (by decide)) 2 [10, 6, 0, 0] rfl (C := RX2) (Tt := TX2) (N := 4) rfl h gX2_readRow_X2_skip rfl (by decide +kernel) (by decide) rfl rfl (Nat.le_of_ble_eq_true rfl) dX2_readRow_33 (kc' := 0) (ks' := 0) rfl rfl (fun q7 a7 h => ?_)
      refine zb_if_eq X 54 dX2_readRow_36 (by decide) (fun c8 => ?_) (fun c8 => ?_)
      · have h := h.1 c8
        refine zb_sub [] rfl ?_
        exact tX2_readRow_54 X w1 hw1 hR   a7 h
      · have h := h.2 c8
        refine zb_aload_n X dX2_readRow_39 rfl 0 rfl ?_
        refine zb_aload_n X dX2_readRow_40 rfl 1 rfl ?_
        refine zb_getR X (29 + 3 * w1) (zTC_lt (zrow_lt hw1)) 3 [0, 0, 0, 0, 0, 0, 0, (30 + 3 * w1) + 2, (31 + 3 * w1) + 2] (zTC_row r hw1) (C := RX3) (Tt := TX3) (N := 9) rfl kX2_readRow_1 7 (by decide) (30 + 3 * w1) rfl kX2_readRow_5 rfl dX2_readRow_41 ?_
        refine zb_callVi (n := 1) X 7 (zTC_lt (by decide)) 2 [10, 6, 0, 0] rfl (C := RX2) (Tt := TX2) (N := 4) rfl h gX2_readRow_X2_readOperand rfl (by decide +kernel) (by decide) rfl rfl (Nat.le_of_ble_eq_true rfl) dX2_readRow_44 (kc' := 0) (ks' := 0) rfl rfl (fun q9 a9 h => ?_)
        refine zb_if_eq X 54 dX2_readRow_47 (by decide) (fun c10 => ?_) (fun c10 => ?_)
        · have h := h.1 c10
          refine zb_sub [] rfl ?_
          exact tX2_readRow_54 X w1 hw1 hR   a9 h
        · have h := h.2 c10
          refine zb_iconst X (1 : Int32) dX2_readRow_50 (by decide) ?_
          refine zb_goto X 55 dX2_readRow_51 (by decide) ?_
          refine zb_sub [] rfl ?_
          exact tX2_readRow_55 X w1 hw1 hR  (1 : Int32) a9 h

abbrev rmX2_readText : Room := { frames := 5, cells := 0, slots := 0, locals := 109 }
theorem kX2_readText_0 : Cond.fieldLink RX2 19 RX2 "loop" "LLoopForge$Loop;" ∈ wsX2_readText := by decide +kernel
theorem kX2_readText_1 : zIn RX2 TX2 4 wsX2_readText := by decide +kernel
theorem kX2_readText_2 : Cond.fieldLink RX2 23 RX0 "size" "I" ∈ wsX2_readText := by decide +kernel
theorem kX2_readText_3 : zIn RX0 TX0 3 wsX2_readText := by decide +kernel
theorem kX2_readText_4 : Cond.fieldLink RX2 15 RX2 "signs" "LLoopForge$Signs;" ∈ wsX2_readText := by decide +kernel
theorem kX2_readText_5 : Cond.fieldLink RX2 34 RX2 "at" "I" ∈ wsX2_readText := by decide +kernel
theorem kX2_readText_6 : Cond.fieldLink RX2 9 RX2 "wrong" "I" ∈ wsX2_readText := by decide +kernel
theorem kX2_readText_7 : Cond.fieldLink RX2 41 RX0 "rows" "[LLoopForge$Row;" ∈ wsX2_readText := by decide +kernel
abbrev BX2_readText_25 (G : zG) (Z : zC) (r : Bool) (ad ln : Nat → Nat) (p1 : Int32) (x2 x3 : Int32) (al : Nat → Nat → Int32) : Prop := zB G Z rmX2_readText 4 (zTC r) ad ln 0 0 25 [(0, .ref (ad 7)), (2, .int x2), (3, .int x3)] [] al
def vcX2_readText_0 (G : zG) (r : Bool) (ad ln : Nat → Nat) (p1 : Int32) (K25 : Int32 → Int32 → (Nat → Nat → Int32) → Prop) (post : Int32 → (Nat → Nat → Int32) → Prop) (al : Nat → Nat → Int32) : Prop :=
  zMv G yX5_cut wsX5_cut rmX5_cut (zTC r) ad ln [.ref (ad 8), .int p1] (up2 al 4 1 (0 : Int32)) (fun a1 => K25 (0 : Int32) (1 : Int32) (up2 a1 7 2 (0 : Int32)))
def vcX2_readText_79 (G : zG) (r : Bool) (ad ln : Nat → Nat) (p1 : Int32) (K25 : Int32 → Int32 → (Nat → Nat → Int32) → Prop) (post : Int32 → (Nat → Nat → Int32) → Prop) (al : Nat → Nat → Int32) : Prop :=
  zMi G yX2_place wsX2_place rmX2_place (zTC r) ad ln [.ref (ad 7)] al (fun q1 a1 => post (1 : Int32) (up2 a1 7 3 q1))
def vcX2_readText_67 (G : zG) (r : Bool) (ad ln : Nat → Nat) (p1 : Int32) (K25 : Int32 → Int32 → (Nat → Nat → Int32) → Prop) (post : Int32 → (Nat → Nat → Int32) → Prop) (x2 x3 : Int32) (al : Nat → Nat → Int32) : Prop :=
  (x3 = 0 → vcX2_readText_79 G r ad ln p1 K25 post  al) ∧ (¬ x3 = 0 → zMi G yX2_sign wsX2_sign rmX2_sign (zTC r) ad ln [.ref (ad 7)] al (fun q2 a2 => (q2 = (-1 : Int32) → zMi G yX0_noteSetters wsX0_noteSetters rmX0_noteSetters (zTC r) ad ln [.ref (ad 4), .int x2] a2 (fun q4 a4 => (q4 < 0 → post (0 : Int32) (up2 (up2 a4 7 3 q4) 4 1 x2)) ∧ (¬ q4 < 0 → post (2 : Int32) (up2 a4 7 3 q4)))) ∧ (¬ q2 = (-1 : Int32) → vcX2_readText_79 G r ad ln p1 K25 post  a2)))
def vcX2_readText_47 (G : zG) (r : Bool) (ad ln : Nat → Nat) (p1 : Int32) (K25 : Int32 → Int32 → (Nat → Nat → Int32) → Prop) (post : Int32 → (Nat → Nat → Int32) → Prop) (x2 : Int32) (al : Nat → Nat → Int32) : Prop :=
  (vp_in x2 48 ∧ zMi G yX2_readRow wsX2_readRow rmX2_readRow (zTC r) ad ln [.ref (ad 7), .ref (ad (29 + 3 * x2.toNatClampNeg))] al (fun q2 a2 => K25 (x2 + (1 : Int32)) q2 a2))
def vcX2_readText_25 (G : zG) (r : Bool) (ad ln : Nat → Nat) (p1 : Int32) (K25 : Int32 → Int32 → (Nat → Nat → Int32) → Prop) (post : Int32 → (Nat → Nat → Int32) → Prop) (x2 x3 : Int32) (al : Nat → Nat → Int32) : Prop :=
  (x3 = 0 → vcX2_readText_67 G r ad ln p1 K25 post x2 x3 al) ∧ (¬ x3 = 0 → ((48 : Int32) ≤ x2 → vcX2_readText_67 G r ad ln p1 K25 post x2 x3 al) ∧ (¬ (48 : Int32) ≤ x2 → (x2 = 0 → vcX2_readText_47 G r ad ln p1 K25 post x2 al) ∧ (¬ x2 = 0 → zMi G yX2_sign wsX2_sign rmX2_sign (zTC r) ad ln [.ref (ad 7)] al (fun q4 a4 => (q4 = (-1 : Int32) → vcX2_readText_67 G r ad ln p1 K25 post x2 x3 a4) ∧ (¬ q4 = (-1 : Int32) → vcX2_readText_47 G r ad ln p1 K25 post x2 a4)))))
set_option maxRecDepth 20000 in
theorem tX2_readText_0 {G : zG} {Z : zC} {r : Bool} {ad ln : Nat → Nat} (X : zX G Z cX2_readText 4 RX2 wsX2_readText) (p1 : Int32) {K25 : Int32 → Int32 → (Nat → Nat → Int32) → Prop} {post : Int32 → (Nat → Nat → Int32) → Prop} (hR : zRi G Z rmX2_readText 4 (zTC r) ad ln cX2_readText .int post) (hK25 : ∀ x2 x3 : Int32, ∀ al, K25 x2 x3 al → zB G Z rmX2_readText 4 (zTC r) ad ln 0 0 25 [(0, .ref (ad 7)), (2, .int x2), (3, .int x3)] [] al) (al : Nat → Nat → Int32) (h : vcX2_readText_0 G r ad ln p1 K25 post  al) : zB G Z rmX2_readText 4 (zTC r) ad ln 0 0 0 [(0, .ref (ad 7)), (1, .int p1)] [] al := by
  unfold vcX2_readText_0 at h
  refine zb_aload_n X dX2_readText_0 rfl 0 rfl ?_
  refine zb_getR X 7 (zTC_lt (by decide)) 2 [10, 6, 0, 0] rfl (C := RX2) (Tt := TX2) (N := 4) rfl kX2_readText_1 1 (by decide) 4 rfl kX2_readText_0 rfl dX2_readText_1 ?_
  refine zb_iconst X (0 : Int32) dX2_readText_4 (by decide) ?_
  refine zb_putI X 4 (zTC_lt (by decide)) 0 [7, 0, 8] rfl (C := RX0) (Tt := TX0) (N := 3) rfl kX2_readText_3 tyX0 tyX0_ok nmX0 1 (by decide) rfl kX2_readText_2 rfl rfl rfl rfl dX2_readText_5 ?_
  refine zb_aload_n X dX2_readText_8 rfl 0 rfl ?_
  refine zb_getR X 7 (zTC_lt (by decide)) 2 [10, 6, 0, 0] rfl (C := RX2) (Tt := TX2) (N := 4) rfl kX2_readText_1 0 (by decide) 8 rfl kX2_readText_4 rfl dX2_readText_9 ?_
  refine zb_iload_n X dX2_readText_12 rfl 1 rfl ?_
  refine zb_callVv (n := 1) X 8 (zTC_lt (by decide)) 5 [3, 0, 0, 11, 12, 13] rfl (C := RX5) (Tt := TX5) (N := 6) rfl h gX2_readText_X5_cut rfl (by decide +kernel) (by decide) rfl rfl (Nat.le_of_ble_eq_true rfl) dX2_readText_13 (kc' := 0) (ks' := 0) rfl rfl (fun a1 h => ?_)
  refine zb_aload_n X dX2_readText_16 rfl 0 rfl ?_
  refine zb_iconst X (0 : Int32) dX2_readText_17 (by decide) ?_
  refine zb_putI X 7 (zTC_lt (by decide)) 2 [10, 6, 0, 0] rfl (C := RX2) (Tt := TX2) (N := 4) rfl kX2_readText_1 tyX2 tyX2_ok nmX2 2 (by decide) rfl kX2_readText_5 rfl rfl rfl rfl dX2_readText_18 ?_
  refine zb_iconst X (0 : Int32) dX2_readText_21 (by decide) ?_
  refine zb_istore_n X (lv' := [(2, .int (0 : Int32)), (0, .ref (ad 7)), (1, .int p1)]) dX2_readText_22 rfl (by decide) rfl ?_
  refine zb_iconst X (1 : Int32) dX2_readText_23 (by decide) ?_
  refine zb_istore_n X (lv' := [(3, .int (1 : Int32)), (2, .int (0 : Int32)), (0, .ref (ad 7)), (1, .int p1)]) dX2_readText_24 rfl (by decide) rfl ?_
  refine zb_sub [2, 1, 0] rfl ?_
  exact hK25 (0 : Int32) (1 : Int32) (up2 a1 7 2 (0 : Int32)) h
set_option maxRecDepth 20000 in
theorem tX2_readText_79 {G : zG} {Z : zC} {r : Bool} {ad ln : Nat → Nat} (X : zX G Z cX2_readText 4 RX2 wsX2_readText) (p1 : Int32) {K25 : Int32 → Int32 → (Nat → Nat → Int32) → Prop} {post : Int32 → (Nat → Nat → Int32) → Prop} (hR : zRi G Z rmX2_readText 4 (zTC r) ad ln cX2_readText .int post) (hK25 : ∀ x2 x3 : Int32, ∀ al, K25 x2 x3 al → zB G Z rmX2_readText 4 (zTC r) ad ln 0 0 25 [(0, .ref (ad 7)), (2, .int x2), (3, .int x3)] [] al) (al : Nat → Nat → Int32) (h : vcX2_readText_79 G r ad ln p1 K25 post  al) : zB G Z rmX2_readText 4 (zTC r) ad ln 0 0 79 [(0, .ref (ad 7))] [] al := by
  unfold vcX2_readText_79 at h
  refine zb_aload_n X dX2_readText_79 rfl 0 rfl ?_
  refine zb_aload_n X dX2_readText_80 rfl 0 rfl ?_
  refine zb_callVi (n := 0) X 7 (zTC_lt (by decide)) 2 [10, 6, 0, 0] rfl (C := RX2) (Tt := TX2) (N := 4) rfl h gX2_readText_X2_place rfl (by decide +kernel) (by decide) rfl rfl (Nat.le_of_ble_eq_true rfl) dX2_readText_81 (kc' := 0) (ks' := 0) rfl rfl (fun q1 a1 h => ?_)
  refine zb_putI X 7 (zTC_lt (by decide)) 2 [10, 6, 0, 0] rfl (C := RX2) (Tt := TX2) (N := 4) rfl kX2_readText_1 tyX2 tyX2_ok nmX2 3 (by decide) rfl kX2_readText_6 rfl rfl rfl rfl dX2_readText_84 ?_
  refine zb_iconst X (1 : Int32) dX2_readText_87 (by decide) ?_
  exact hR 88 _ _ _ dX2_readText_88 rfl h
set_option maxRecDepth 20000 in
theorem tX2_readText_67 {G : zG} {Z : zC} {r : Bool} {ad ln : Nat → Nat} (X : zX G Z cX2_readText 4 RX2 wsX2_readText) (p1 : Int32) {K25 : Int32 → Int32 → (Nat → Nat → Int32) → Prop} {post : Int32 → (Nat → Nat → Int32) → Prop} (hR : zRi G Z rmX2_readText 4 (zTC r) ad ln cX2_readText .int post) (hK25 : ∀ x2 x3 : Int32, ∀ al, K25 x2 x3 al → zB G Z rmX2_readText 4 (zTC r) ad ln 0 0 25 [(0, .ref (ad 7)), (2, .int x2), (3, .int x3)] [] al) (x2 x3 : Int32) (al : Nat → Nat → Int32) (h : vcX2_readText_67 G r ad ln p1 K25 post x2 x3 al) : zB G Z rmX2_readText 4 (zTC r) ad ln 0 0 67 [(0, .ref (ad 7)), (2, .int x2), (3, .int x3)] [] al := by
  unfold vcX2_readText_67 at h
  refine zb_iload_n X dX2_readText_67 rfl 2 rfl ?_
  refine zb_if_eq X 79 dX2_readText_68 (by decide) (fun c1 => ?_) (fun c1 => ?_)
  · have h := h.1 c1
    refine zb_sub [0] rfl ?_
    exact tX2_readText_79 X p1 hR hK25  al h
  · have h := h.2 c1
    refine zb_aload_n X dX2_readText_71 rfl 0 rfl ?_
    refine zb_callVi (n := 0) X 7 (zTC_lt (by decide)) 2 [10, 6, 0, 0] rfl (C := RX2) (Tt := TX2) (N := 4) rfl h gX2_readText_X2_sign rfl (by decide +kernel) (by decide) rfl rfl (Nat.le_of_ble_eq_true rfl) dX2_readText_72 (kc' := 0) (ks' := 0) rfl rfl (fun q2 a2 h => ?_)
    refine zb_iconst X (-1 : Int32) dX2_readText_75 (by decide) ?_
    refine zb_icmp_eq X 89 dX2_readText_76 (by decide) (fun c3 => ?_) (fun c3 => ?_)
    · have h := h.1 c3
      refine zb_aload_n X dX2_readText_89 rfl 0 rfl ?_
      refine zb_aload_n X dX2_readText_90 rfl 0 rfl ?_
      refine zb_getR X 7 (zTC_lt (by decide)) 2 [10, 6, 0, 0] rfl (C := RX2) (Tt := TX2) (N := 4) rfl kX2_readText_1 1 (by decide) 4 rfl kX2_readText_0 rfl dX2_readText_91 ?_
      refine zb_iload_n X dX2_readText_94 rfl 1 rfl ?_
      refine zb_callVi (n := 1) X 4 (zTC_lt (by decide)) 0 [7, 0, 8] rfl (C := RX0) (Tt := TX0) (N := 3) rfl h gX2_readText_X0_noteSetters rfl (by decide +kernel) (by decide) rfl rfl (Nat.le_of_ble_eq_true rfl) dX2_readText_95 (kc' := 0) (ks' := 0) rfl rfl (fun q4 a4 h => ?_)
      refine zb_putI X 7 (zTC_lt (by decide)) 2 [10, 6, 0, 0] rfl (C := RX2) (Tt := TX2) (N := 4) rfl kX2_readText_1 tyX2 tyX2_ok nmX2 3 (by decide) rfl kX2_readText_6 rfl rfl rfl rfl dX2_readText_98 ?_
      refine zb_aload_n X dX2_readText_101 rfl 0 rfl ?_
      refine zb_getI X 7 (zTC_lt (by decide)) 2 [10, 6, 0, 0] rfl (C := RX2) (Tt := TX2) (N := 4) rfl kX2_readText_1 3 (by decide) rfl kX2_readText_6 rfl dX2_readText_102 (q4) rfl ?_
      refine zb_if_lt X 110 dX2_readText_105 (by decide) (fun c5 => ?_) (fun c5 => ?_)
      · have h := h.1 c5
        refine zb_aload_n X dX2_readText_110 rfl 0 rfl ?_
        refine zb_getR X 7 (zTC_lt (by decide)) 2 [10, 6, 0, 0] rfl (C := RX2) (Tt := TX2) (N := 4) rfl kX2_readText_1 1 (by decide) 4 rfl kX2_readText_0 rfl dX2_readText_111 ?_
        refine zb_iload_n X dX2_readText_114 rfl 1 rfl ?_
        refine zb_putI X 4 (zTC_lt (by decide)) 0 [7, 0, 8] rfl (C := RX0) (Tt := TX0) (N := 3) rfl kX2_readText_3 tyX0 tyX0_ok nmX0 1 (by decide) rfl kX2_readText_2 rfl rfl rfl rfl dX2_readText_115 ?_
        refine zb_iconst X (0 : Int32) dX2_readText_118 (by decide) ?_
        exact hR 119 _ _ _ dX2_readText_119 rfl h
      · have h := h.2 c5
        refine zb_iconst X (2 : Int32) dX2_readText_108 (by decide) ?_
        exact hR 109 _ _ _ dX2_readText_109 rfl h
    · have h := h.2 c3
      refine zb_sub [0] rfl ?_
      exact tX2_readText_79 X p1 hR hK25  a2 h
set_option maxRecDepth 20000 in
theorem tX2_readText_47 {G : zG} {Z : zC} {r : Bool} {ad ln : Nat → Nat} (X : zX G Z cX2_readText 4 RX2 wsX2_readText) (p1 : Int32) {K25 : Int32 → Int32 → (Nat → Nat → Int32) → Prop} {post : Int32 → (Nat → Nat → Int32) → Prop} (hR : zRi G Z rmX2_readText 4 (zTC r) ad ln cX2_readText .int post) (hK25 : ∀ x2 x3 : Int32, ∀ al, K25 x2 x3 al → zB G Z rmX2_readText 4 (zTC r) ad ln 0 0 25 [(0, .ref (ad 7)), (2, .int x2), (3, .int x3)] [] al) (x2 : Int32) (al : Nat → Nat → Int32) (h : vcX2_readText_47 G r ad ln p1 K25 post x2 al) : zB G Z rmX2_readText 4 (zTC r) ad ln 0 0 47 [(0, .ref (ad 7)), (2, .int x2)] [] al := by
  unfold vcX2_readText_47 at h
  refine zb_aload_n X dX2_readText_47 rfl 0 rfl ?_
  refine zb_aload_n X dX2_readText_48 rfl 0 rfl ?_
  refine zb_getR X 7 (zTC_lt (by decide)) 2 [10, 6, 0, 0] rfl (C := RX2) (Tt := TX2) (N := 4) rfl kX2_readText_1 1 (by decide) 4 rfl kX2_readText_0 rfl dX2_readText_49 ?_
  refine zb_getR X 4 (zTC_lt (by decide)) 0 [7, 0, 8] rfl (C := RX0) (Tt := TX0) (N := 3) rfl kX2_readText_3 0 (by decide) 5 rfl kX2_readText_7 rfl dX2_readText_52 ?_
  refine zb_iload_n X dX2_readText_55 rfl 1 rfl ?_
  obtain ⟨hq1, h⟩ := h
  refine zb_rald X 5 (zTC_lt (by decide)) 48 29 3 rfl hq1 dX2_readText_56 ?_
  refine zb_callVi (n := 1) X 7 (zTC_lt (by decide)) 2 [10, 6, 0, 0] rfl (C := RX2) (Tt := TX2) (N := 4) rfl h gX2_readText_X2_readRow rfl (by decide +kernel) (by decide) rfl rfl (Nat.le_of_ble_eq_true rfl) dX2_readText_57 (kc' := 0) (ks' := 0) rfl rfl (fun q2 a2 h => ?_)
  refine zb_istore_n X (lv' := [(3, .int q2), (0, .ref (ad 7)), (2, .int x2)]) dX2_readText_60 rfl (by decide) rfl ?_
  refine zb_iinc X (lv' := [(2, .int (x2 + (1 : Int32))), (3, .int q2), (0, .ref (ad 7))]) (x2 + (1 : Int32)) dX2_readText_61 2 rfl rfl (by decide) rfl ?_
  refine zb_goto X 25 dX2_readText_64 (by decide) ?_
  refine zb_sub [2, 0, 1] rfl ?_
  exact hK25 (x2 + (1 : Int32)) q2 a2 h
set_option maxRecDepth 20000 in
theorem tX2_readText_25 {G : zG} {Z : zC} {r : Bool} {ad ln : Nat → Nat} (X : zX G Z cX2_readText 4 RX2 wsX2_readText) (p1 : Int32) {K25 : Int32 → Int32 → (Nat → Nat → Int32) → Prop} {post : Int32 → (Nat → Nat → Int32) → Prop} (hR : zRi G Z rmX2_readText 4 (zTC r) ad ln cX2_readText .int post) (hK25 : ∀ x2 x3 : Int32, ∀ al, K25 x2 x3 al → zB G Z rmX2_readText 4 (zTC r) ad ln 0 0 25 [(0, .ref (ad 7)), (2, .int x2), (3, .int x3)] [] al) (x2 x3 : Int32) (al : Nat → Nat → Int32) (h : vcX2_readText_25 G r ad ln p1 K25 post x2 x3 al) : zB G Z rmX2_readText 4 (zTC r) ad ln 0 0 25 [(0, .ref (ad 7)), (2, .int x2), (3, .int x3)] [] al := by
  unfold vcX2_readText_25 at h
  refine zb_iload_n X dX2_readText_25 rfl 2 rfl ?_
  refine zb_if_eq X 67 dX2_readText_26 (by decide) (fun c1 => ?_) (fun c1 => ?_)
  · have h := h.1 c1
    refine zb_sub [0, 1, 2] rfl ?_
    exact tX2_readText_67 X p1 hR hK25 x2 x3 al h
  · have h := h.2 c1
    refine zb_iload_n X dX2_readText_29 rfl 1 rfl ?_
    refine zb_bipush X (48 : Int32) dX2_readText_30 (by decide) ?_
    refine zb_icmp_ge X 67 dX2_readText_32 (by decide) (fun c2 => ?_) (fun c2 => ?_)
    · have h := h.1 c2
      refine zb_sub [0, 1, 2] rfl ?_
      exact tX2_readText_67 X p1 hR hK25 x2 x3 al h
    · have h := h.2 c2
      refine zb_iload_n X dX2_readText_35 rfl 1 rfl ?_
      refine zb_if_eq X 47 dX2_readText_36 (by decide) (fun c3 => ?_) (fun c3 => ?_)
      · have h := h.1 c3
        refine zb_sub [0, 1] rfl ?_
        exact tX2_readText_47 X p1 hR hK25 x2 al h
      · have h := h.2 c3
        refine zb_aload_n X dX2_readText_39 rfl 0 rfl ?_
        refine zb_callVi (n := 0) X 7 (zTC_lt (by decide)) 2 [10, 6, 0, 0] rfl (C := RX2) (Tt := TX2) (N := 4) rfl h gX2_readText_X2_sign rfl (by decide +kernel) (by decide) rfl rfl (Nat.le_of_ble_eq_true rfl) dX2_readText_40 (kc' := 0) (ks' := 0) rfl rfl (fun q4 a4 h => ?_)
        refine zb_iconst X (-1 : Int32) dX2_readText_43 (by decide) ?_
        refine zb_icmp_eq X 67 dX2_readText_44 (by decide) (fun c5 => ?_) (fun c5 => ?_)
        · have h := h.1 c5
          refine zb_sub [0, 1, 2] rfl ?_
          exact tX2_readText_67 X p1 hR hK25 x2 x3 a4 h
        · have h := h.2 c5
          refine zb_sub [0, 1] rfl ?_
          exact tX2_readText_47 X p1 hR hK25 x2 a4 h
theorem uX2_readText_0 {G : zG} {Z : zC} {r : Bool} {ad ln : Nat → Nat} (X : zX G Z cX2_readText 4 RX2 wsX2_readText) (p1 : Int32) {post : Int32 → (Nat → Nat → Int32) → Prop} (hR : zRi G Z rmX2_readText 4 (zTC r) ad ln cX2_readText .int post) (al : Nat → Nat → Int32) (h : vcX2_readText_0 G r ad ln p1 (BX2_readText_25 G Z r ad ln p1) post  al) : zB G Z rmX2_readText 4 (zTC r) ad ln 0 0 0 [(0, .ref (ad 7)), (1, .int p1)] [] al := tX2_readText_0 X p1 hR (fun _ _ _ h => h)  al h
theorem uX2_readText_79 {G : zG} {Z : zC} {r : Bool} {ad ln : Nat → Nat} (X : zX G Z cX2_readText 4 RX2 wsX2_readText) (p1 : Int32) {post : Int32 → (Nat → Nat → Int32) → Prop} (hR : zRi G Z rmX2_readText 4 (zTC r) ad ln cX2_readText .int post) (al : Nat → Nat → Int32) (h : vcX2_readText_79 G r ad ln p1 (BX2_readText_25 G Z r ad ln p1) post  al) : zB G Z rmX2_readText 4 (zTC r) ad ln 0 0 79 [(0, .ref (ad 7))] [] al := tX2_readText_79 X p1 hR (fun _ _ _ h => h)  al h
theorem uX2_readText_67 {G : zG} {Z : zC} {r : Bool} {ad ln : Nat → Nat} (X : zX G Z cX2_readText 4 RX2 wsX2_readText) (p1 : Int32) {post : Int32 → (Nat → Nat → Int32) → Prop} (hR : zRi G Z rmX2_readText 4 (zTC r) ad ln cX2_readText .int post) (x2 x3 : Int32) (al : Nat → Nat → Int32) (h : vcX2_readText_67 G r ad ln p1 (BX2_readText_25 G Z r ad ln p1) post x2 x3 al) : zB G Z rmX2_readText 4 (zTC r) ad ln 0 0 67 [(0, .ref (ad 7)), (2, .int x2), (3, .int x3)] [] al := tX2_readText_67 X p1 hR (fun _ _ _ h => h) x2 x3 al h
theorem uX2_readText_47 {G : zG} {Z : zC} {r : Bool} {ad ln : Nat → Nat} (X : zX G Z cX2_readText 4 RX2 wsX2_readText) (p1 : Int32) {post : Int32 → (Nat → Nat → Int32) → Prop} (hR : zRi G Z rmX2_readText 4 (zTC r) ad ln cX2_readText .int post) (x2 : Int32) (al : Nat → Nat → Int32) (h : vcX2_readText_47 G r ad ln p1 (BX2_readText_25 G Z r ad ln p1) post x2 al) : zB G Z rmX2_readText 4 (zTC r) ad ln 0 0 47 [(0, .ref (ad 7)), (2, .int x2)] [] al := tX2_readText_47 X p1 hR (fun _ _ _ h => h) x2 al h
theorem uX2_readText_25 {G : zG} {Z : zC} {r : Bool} {ad ln : Nat → Nat} (X : zX G Z cX2_readText 4 RX2 wsX2_readText) (p1 : Int32) {post : Int32 → (Nat → Nat → Int32) → Prop} (hR : zRi G Z rmX2_readText 4 (zTC r) ad ln cX2_readText .int post) (x2 x3 : Int32) (al : Nat → Nat → Int32) (h : vcX2_readText_25 G r ad ln p1 (BX2_readText_25 G Z r ad ln p1) post x2 x3 al) : zB G Z rmX2_readText 4 (zTC r) ad ln 0 0 25 [(0, .ref (ad 7)), (2, .int x2), (3, .int x3)] [] al := tX2_readText_25 X p1 hR (fun _ _ _ h => h) x2 x3 al h
