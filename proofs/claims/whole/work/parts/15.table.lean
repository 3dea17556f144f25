abbrev rmX7_isFull : Room := { frames := 2, cells := 0, slots := 0, locals := 43 }
theorem kX7_isFull_0 : Cond.fieldLink RX7 18 RX7 "used" "[I" ∈ wsX7_isFull := by decide +kernel
theorem kX7_isFull_1 : zIn RX7 TX7 9 wsX7_isFull := by decide +kernel
theorem kX7_isFull_2 : Cond.fieldLink RX7 32 RX7 "distance" "I" ∈ wsX7_isFull := by decide +kernel
theorem kX7_isFull_3 : Cond.initialized RX9 ∈ wsX7_isFull := by decide +kernel
theorem kX7_isFull_4 : Cond.static yX9_rest ∈ wsX7_isFull := by decide +kernel
theorem kX7_isFull_5 : Cond.fieldLink RX7 29 RX7 "settings" "[I" ∈ wsX7_isFull := by decide +kernel
def vcX7_isFull_37 (G : zG) (r : Bool) (ad ln : Nat → Nat) (p1 : Int32) (p2 : Int32)  (post : Int32 → (Nat → Nat → Int32) → Prop) (s0 : Int32) (al : Nat → Nat → Int32) : Prop :=
  zOk .boolean s0 ∧ post s0 al
def vcX7_isFull_0 (G : zG) (r : Bool) (ad ln : Nat → Nat) (p1 : Int32) (p2 : Int32)  (post : Int32 → (Nat → Nat → Int32) → Prop) (al : Nat → Nat → Int32) : Prop :=
  zMi G yX9_rest wsX9_rest rmX9_rest (zTC r) ad ln [.int p2, .int (al 18 6)] al (fun q1 a1 => (vp_in ((p1 * (200 : Int32)) + q1) 800 ∧ vp_in p1 4 ∧ vp_in (zGS p1.toNatClampNeg) 9 ∧ ((a1 21 (((p1 * (200 : Int32)) + q1).toNatClampNeg)) < (a1 2 ((zGS p1.toNatClampNeg).toNatClampNeg)) → vcX7_isFull_37 G r ad ln p1 p2  post (0 : Int32) a1) ∧ (¬ (a1 21 (((p1 * (200 : Int32)) + q1).toNatClampNeg)) < (a1 2 ((zGS p1.toNatClampNeg).toNatClampNeg)) → vcX7_isFull_37 G r ad ln p1 p2  post (1 : Int32) a1)))
set_option maxRecDepth 20000 in
theorem tX7_isFull_37 {G : zG} {Z : zC} {r : Bool} {ad ln : Nat → Nat} (X : zX G Z cX7_isFull 3 RX7 wsX7_isFull) (p1 : Int32) (p2 : Int32)  {post : Int32 → (Nat → Nat → Int32) → Prop} (hR : zRi G Z rmX7_isFull 3 (zTC r) ad ln cX7_isFull .boolean post)  (s0 : Int32) (al : Nat → Nat → Int32) (h : vcX7_isFull_37 G r ad ln p1 p2  post s0 al) : zB G Z rmX7_isFull 3 (zTC r) ad ln 0 0 37 [] [.int s0] al := by
  unfold vcX7_isFull_37 at h
  exact hR 37 _ _ _ dX7_isFull_37 h.1 h.2
set_option maxRecDepth 20000 in
theorem tX7_isFull_0 {G : zG} {Z : zC} {r : Bool} {ad ln : Nat → Nat} (X : zX G Z cX7_isFull 3 RX7 wsX7_isFull) (p1 : Int32) (p2 : Int32)  {post : Int32 → (Nat → Nat → Int32) → Prop} (hR : zRi G Z rmX7_isFull 3 (zTC r) ad ln cX7_isFull .boolean post)  (al : Nat → Nat → Int32) (h : vcX7_isFull_0 G r ad ln p1 p2  post  al) : zB G Z rmX7_isFull 3 (zTC r) ad ln 0 0 0 [(0, .ref (ad 18)), (1, .int p1), (2, .int p2)] [] al := by
  unfold vcX7_isFull_0 at h
  refine zb_aload_n X dX7_isFull_0 rfl 0 rfl ?_
  refine zb_getR X 18 (zTC_lt (by decide)) 7 [6, 14, 4, 21, 22, 23, 0, 0, 0] rfl (C := RX7) (Tt := TX7) (N := 9) rfl kX7_isFull_1 5 (by decide) 21 rfl kX7_isFull_0 rfl dX7_isFull_1 ?_
  refine zb_iload_n X dX7_isFull_4 rfl 1 rfl ?_
  refine zb_sipush X (200 : Int32) dX7_isFull_5 (by decide) ?_
  refine zb_imul X dX7_isFull_8 ?_
  refine zb_iload_n X dX7_isFull_9 rfl 2 rfl ?_
  refine zb_aload_n X dX7_isFull_10 rfl 0 rfl ?_
  refine zb_getI X 18 (zTC_lt (by decide)) 7 [6, 14, 4, 21, 22, 23, 0, 0, 0] rfl (C := RX7) (Tt := TX7) (N := 9) rfl kX7_isFull_1 6 (by decide) rfl kX7_isFull_2 rfl dX7_isFull_11 (al 18 6) rfl ?_
  refine zb_callNi (n := 2) X h gX7_isFull_X9_rest_n124 (by decide +kernel) kX7_isFull_3 kX7_isFull_4 rfl (by decide +kernel) (by decide) rfl rfl (Nat.le_of_ble_eq_true rfl) dX7_isFull_14 (kc' := 0) (ks' := 0) rfl rfl (fun q1 a1 h => ?_)
  refine zb_iadd X dX7_isFull_17 ?_
  obtain ⟨hz, h⟩ := h
  refine zb_iald X 21 (zTC_lt (by decide)) 1 800 0 0 rfl (Or.inl rfl) (((p1 * (200 : Int32)) + q1).toNatClampNeg) rfl hz dX7_isFull_18 (a1 21 (((p1 * (200 : Int32)) + q1).toNatClampNeg)) rfl ?_
  refine zb_aload_n X dX7_isFull_19 rfl 0 rfl ?_
  refine zb_getR X 18 (zTC_lt (by decide)) 7 [6, 14, 4, 21, 22, 23, 0, 0, 0] rfl (C := RX7) (Tt := TX7) (N := 9) rfl kX7_isFull_1 2 (by decide) 2 rfl kX7_isFull_5 rfl dX7_isFull_20 ?_
  refine zb_statN X (by decide) dX7_isFull_23 (fun t2 ht2 => ?_)
  refine zb_iload_n X dX7_isFull_26 rfl 1 rfl ?_
  obtain ⟨hz, h⟩ := h
  refine zb_tald X t2 4 zGS ht2 p1.toNatClampNeg rfl hz dX7_isFull_27 ?_
  obtain ⟨hz, h⟩ := h
  refine zb_iald X 2 (zTC_lt (by decide)) 1 9 0 0 rfl (Or.inl rfl) ((zGS p1.toNatClampNeg).toNatClampNeg) rfl hz dX7_isFull_28 (a1 2 ((zGS p1.toNatClampNeg).toNatClampNeg)) rfl ?_
  refine zb_icmp_lt X 36 dX7_isFull_29 (by decide) (fun c3 => ?_) (fun c3 => ?_)
  · have h := h.1 c3
    refine zb_iconst X (0 : Int32) dX7_isFull_36 (by decide) ?_
    refine zb_sub [] rfl ?_
    exact tX7_isFull_37 X p1 p2 hR  (0 : Int32) a1 h
  · have h := h.2 c3
    refine zb_iconst X (1 : Int32) dX7_isFull_32 (by decide) ?_
    refine zb_goto X 37 dX7_isFull_33 (by decide) ?_
    refine zb_sub [] rfl ?_
    exact tX7_isFull_37 X p1 p2 hR  (1 : Int32) a1 h

abbrev rmX7_hasRoom : Room := { frames := 3, cells := 0, slots := 0, locals := 65 }
theorem kX7_hasRoom_0 : Cond.fieldLink RX7 21 RX7 "loop" "LLoopForge$Loop;" ∈ wsX7_hasRoom := by decide +kernel
theorem kX7_hasRoom_1 : zIn RX7 TX7 9 wsX7_hasRoom := by decide +kernel
theorem kX7_hasRoom_2 : Cond.fieldLink RX7 109 RX0 "rows" "[LLoopForge$Row;" ∈ wsX7_hasRoom := by decide +kernel
theorem kX7_hasRoom_3 : zIn RX0 TX0 3 wsX7_hasRoom := by decide +kernel
theorem kX7_hasRoom_4 : Cond.fieldLink RX7 113 RX3 "kind" "I" ∈ wsX7_hasRoom := by decide +kernel
theorem kX7_hasRoom_5 : zIn RX3 TX3 9 wsX7_hasRoom := by decide +kernel
theorem kX7_hasRoom_6 : Cond.initialized RX9 ∈ wsX7_hasRoom := by decide +kernel
theorem kX7_hasRoom_7 : Cond.static yX9_isInGroup ∈ wsX7_hasRoom := by decide +kernel
abbrev BX7_hasRoom_2 (G : zG) (Z : zC) (r : Bool) (ad ln : Nat → Nat) (p1 : Int32) (p2 : Int32) (x3 : Int32) (al : Nat → Nat → Int32) : Prop := zB G Z rmX7_hasRoom 4 (zTC r) ad ln 0 0 2 [(0, .ref (ad 18)), (1, .int p1), (2, .int p2), (3, .int x3)] [] al
def vcX7_hasRoom_0 (G : zG) (r : Bool) (ad ln : Nat → Nat) (p1 : Int32) (p2 : Int32) (K2 : Int32 → (Nat → Nat → Int32) → Prop) (post : Int32 → (Nat → Nat → Int32) → Prop) (al : Nat → Nat → Int32) : Prop :=
  K2 (0 : Int32) al
def vcX7_hasRoom_37 (G : zG) (r : Bool) (ad ln : Nat → Nat) (p1 : Int32) (p2 : Int32) (K2 : Int32 → (Nat → Nat → Int32) → Prop) (post : Int32 → (Nat → Nat → Int32) → Prop) (x3 : Int32) (al : Nat → Nat → Int32) : Prop :=
  K2 (x3 + (1 : Int32)) al
def vcX7_hasRoom_2 (G : zG) (r : Bool) (ad ln : Nat → Nat) (p1 : Int32) (p2 : Int32) (K2 : Int32 → (Nat → Nat → Int32) → Prop) (post : Int32 → (Nat → Nat → Int32) → Prop) (x3 : Int32) (al : Nat → Nat → Int32) : Prop :=
  ((4 : Int32) ≤ x3 → post (1 : Int32) al) ∧ (¬ (4 : Int32) ≤ x3 → (vp_in p1 48 ∧ zMi G yX9_isInGroup wsX9_isInGroup rmX9_isInGroup (zTC r) ad ln [.int (al (29 + 3 * p1.toNatClampNeg) 0), .int x3] al (fun q3 a3 => (q3 = 0 → vcX7_hasRoom_37 G r ad ln p1 p2 K2 post x3 a3) ∧ (¬ q3 = 0 → zMi G yX7_isFull wsX7_isFull rmX7_isFull (zTC r) ad ln [.ref (ad 18), .int x3, .int p2] a3 (fun q5 a5 => (q5 = 0 → vcX7_hasRoom_37 G r ad ln p1 p2 K2 post x3 a5) ∧ (¬ q5 = 0 → post (0 : Int32) a5))))))
set_option maxRecDepth 20000 in
theorem tX7_hasRoom_0 {G : zG} {Z : zC} {r : Bool} {ad ln : Nat → Nat} (X : zX G Z cX7_hasRoom 4 RX7 wsX7_hasRoom) (p1 : Int32) (p2 : Int32) {K2 : Int32 → (Nat → Nat → Int32) → Prop} {post : Int32 → (Nat → Nat → Int32) → Prop} (hR : zRi G Z rmX7_hasRoom 4 (zTC r) ad ln cX7_hasRoom .boolean post) (hK2 : ∀ x3 : Int32, ∀ al, K2 x3 al → zB G Z rmX7_hasRoom 4 (zTC r) ad ln 0 0 2 [(0, .ref (ad 18)), (1, .int p1), (2, .int p2), (3, .int x3)] [] al) (al : Nat → Nat → Int32) (h : vcX7_hasRoom_0 G r ad ln p1 p2 K2 post  al) : zB G Z rmX7_hasRoom 4 (zTC r) ad ln 0 0 0 [(0, .ref (ad 18)), (1, .int p1), (2, .int p2)] [] al := by
  unfold vcX7_hasRoom_0 at h
  refine zb_iconst X (0 : Int32) dX7_hasRoom_0 (by decide) ?_
  refine zb_istore_n X (lv' := [(3, .int (0 : Int32)), (0, .ref (ad 18)), (1, .int p1), (2, .int p2)]) dX7_hasRoom_1 rfl (by decide) rfl ?_
  refine zb_sub [1, 2, 3, 0] rfl ?_
  exact hK2 (0 : Int32) al h
set_option maxRecDepth 20000 in
theorem tX7_hasRoom_37 {G : zG} {Z : zC} {r : Bool} {ad ln : Nat → Nat} (X : zX G Z cX7_hasRoom 4 RX7 wsX7_hasRoom) (p1 : Int32) (p2 : Int32) {K2 : Int32 → (Nat → Nat → Int32) → Prop} {post : Int32 → (Nat → Nat → Int32) → Prop} (hR : zRi G Z rmX7_hasRoom 4 (zTC r) ad ln cX7_hasRoom .boolean post) (hK2 : ∀ x3 : Int32, ∀ al, K2 x3 al → zB G Z rmX7_hasRoom 4 (zTC r) ad ln 0 0 2 [(0, .ref (ad 18)), (1, .int p1), (2, .int p2), (3, .int x3)] [] al) (x3 : Int32) (al : Nat → Nat → Int32) (h : vcX7_hasRoom_37 G r ad ln p1 p2 K2 post x3 al) : zB G Z rmX7_hasRoom 4 (zTC r) ad ln 0 0 37 [(0, .ref (ad 18)), (1, .int p1), (2, .int p2), (3, .int x3)] [] al := by
  unfold vcX7_hasRoom_37 at h
  refine zb_iinc X (lv' := [(3, .int (x3 + (1 : Int32))), (0, .ref (ad 18)), (1, .int p1), (2, .int p2)]) (x3 + (1 : Int32)) dX7_hasRoom_37 3 rfl rfl (by decide) rfl ?_
  refine zb_goto X 2 dX7_hasRoom_40 (by decide) ?_
  refine zb_sub [1, 2, 3, 0] rfl ?_
  exact hK2 (x3 + (1 : Int32)) al h
set_option maxRecDepth 20000 in
theorem tX7_hasRoom_2 {G : zG} {Z : zC} {r : Bool} {ad ln : Nat → Nat} (X : zX G Z cX7_hasRoom 4 RX7 wsX7_hasRoom) (p1 : Int32) (p2 : Int32) {K2 : Int32 → (Nat → Nat → Int32) → Prop} {post : Int32 → (Nat → Nat → Int32) → Prop} (hR : zRi G Z rmX7_hasRoom 4 (zTC r) ad ln cX7_hasRoom .boolean post) (hK2 : ∀ x3 : Int32, ∀ al, K2 x3 al → zB G Z rmX7_hasRoom 4 (zTC r) ad ln 0 0 2 [(0, .ref (ad 18)), (1, .int p1), (2, .int p2), (3, .int x3)] [] al) (x3 : Int32) (al : Nat → Nat → Int32) (h : vcX7_hasRoom_2 G r ad ln p1 p2 K2 post x3 al) : zB G Z rmX7_hasRoom 4 (zTC r) ad ln 0 0 2 [(0, .ref (ad 18)), (1, .int p1), (2, .int p2), (3, .int x3)] [] al := by
  unfold vcX7_hasRoom_2 at h
  refine zb_iload_n X dX7_hasRoom_2 rfl 3 rfl ?_
  refine zb_iconst X (4 : Int32) dX7_hasRoom_3 (by decide) ?_
  refine zb_icmp_ge X 43 dX7_hasRoom_4 (by decide) (fun c1 => ?_) (fun c1 => ?_)
  · have h := h.1 c1
    refine zb_iconst X (1 : Int32) dX7_hasRoom_43 (by decide) ?_
    exact hR 44 _ _ _ dX7_hasRoom_44 rfl h
  · have h := h.2 c1
    refine zb_aload_n X dX7_hasRoom_7 rfl 0 rfl ?_
    refine zb_getR X 18 (zTC_lt (by decide)) 7 [6, 14, 4, 21, 22, 23, 0, 0, 0] rfl (C := RX7) (Tt := TX7) (N := 9) rfl kX7_hasRoom_1 0 (by decide) 4 rfl kX7_hasRoom_0 rfl dX7_hasRoom_8 ?_
    refine zb_getR X 4 (zTC_lt (by decide)) 0 [7, 0, 8] rfl (C := RX0) (Tt := TX0) (N := 3) rfl kX7_hasRoom_3 0 (by decide) 5 rfl kX7_hasRoom_2 rfl dX7_hasRoom_11 ?_
    refine zb_iload_n X dX7_hasRoom_14 rfl 1 rfl ?_
    obtain ⟨hq2, h⟩ := h
    refine zb_rald X 5 (zTC_lt (by decide)) 48 29 3 rfl hq2 dX7_hasRoom_15 ?_
    refine zb_getI X (29 + 3 * p1.toNatClampNeg) (zTC_lt (zrow_lt (zvp_lt hq2))) 3 [0, 0, 0, 0, 0, 0, 0, (30 + 3 * p1.toNatClampNeg) + 2, (31 + 3 * p1.toNatClampNeg) + 2] (zTC_row r (zvp_lt hq2)) (C := RX3) (Tt := TX3) (N := 9) rfl kX7_hasRoom_5 0 (by decide) rfl kX7_hasRoom_4 rfl dX7_hasRoom_16 (al (29 + 3 * p1.toNatClampNeg) 0) rfl ?_
    refine zb_iload_n X dX7_hasRoom_19 rfl 3 rfl ?_
    refine zb_callNi (n := 2) X h gX7_hasRoom_X9_isInGroup_n118 (by decide +kernel) kX7_hasRoom_6 kX7_hasRoom_7 rfl (by decide +kernel) (by decide) rfl rfl (Nat.le_of_ble_eq_true rfl) dX7_hasRoom_20 (kc' := 0) (ks' := 0) rfl rfl (fun q3 a3 h => ?_)
    refine zb_if_eq X 37 dX7_hasRoom_23 (by decide) (fun c4 => ?_) (fun c4 => ?_)
    · have h := h.1 c4
      refine zb_sub [0, 1, 2, 3] rfl ?_
      exact tX7_hasRoom_37 X p1 p2 hR hK2 x3 a3 h
    · have h := h.2 c4
      refine zb_aload_n X dX7_hasRoom_26 rfl 0 rfl ?_
      refine zb_iload_n X dX7_hasRoom_27 rfl 3 rfl ?_
      refine zb_iload_n X dX7_hasRoom_28 rfl 2 rfl ?_
      refine zb_callVi (n := 2) X 18 (zTC_lt (by decide)) 7 [6, 14, 4, 21, 22, 23, 0, 0, 0] rfl (C := RX7) (Tt := TX7) (N := 9) rfl h gX7_hasRoom_X7_isFull rfl (by decide +kernel) (by decide) rfl rfl (Nat.le_of_ble_eq_true rfl) dX7_hasRoom_29 (kc' := 0) (ks' := 0) rfl rfl (fun q5 a5 h => ?_)
      refine zb_if_eq X 37 dX7_hasRoom_32 (by decide) (fun c6 => ?_) (fun c6 => ?_)
      · have h := h.1 c6
        refine zb_sub [0, 1, 2, 3] rfl ?_
        exact tX7_hasRoom_37 X p1 p2 hR hK2 x3 a5 h
      · have h := h.2 c6
        refine zb_iconst X (0 : Int32) dX7_hasRoom_35 (by decide) ?_
        exact hR 36 _ _ _ dX7_hasRoom_36 rfl h
theorem uX7_hasRoom_0 {G : zG} {Z : zC} {r : Bool} {ad ln : Nat → Nat} (X : zX G Z cX7_hasRoom 4 RX7 wsX7_hasRoom) (p1 : Int32) (p2 : Int32) {post : Int32 → (Nat → Nat → Int32) → Prop} (hR : zRi G Z rmX7_hasRoom 4 (zTC r) ad ln cX7_hasRoom .boolean post) (al : Nat → Nat → Int32) (h : vcX7_hasRoom_0 G r ad ln p1 p2 (BX7_hasRoom_2 G Z r ad ln p1 p2) post  al) : zB G Z rmX7_hasRoom 4 (zTC r) ad ln 0 0 0 [(0, .ref (ad 18)), (1, .int p1), (2, .int p2)] [] al := tX7_hasRoom_0 X p1 p2 hR (fun _ _ h => h)  al h
theorem uX7_hasRoom_37 {G : zG} {Z : zC} {r : Bool} {ad ln : Nat → Nat} (X : zX G Z cX7_hasRoom 4 RX7 wsX7_hasRoom) (p1 : Int32) (p2 : Int32) {post : Int32 → (Nat → Nat → Int32) → Prop} (hR : zRi G Z rmX7_hasRoom 4 (zTC r) ad ln cX7_hasRoom .boolean post) (x3 : Int32) (al : Nat → Nat → Int32) (h : vcX7_hasRoom_37 G r ad ln p1 p2 (BX7_hasRoom_2 G Z r ad ln p1 p2) post x3 al) : zB G Z rmX7_hasRoom 4 (zTC r) ad ln 0 0 37 [(0, .ref (ad 18)), (1, .int p1), (2, .int p2), (3, .int x3)] [] al := tX7_hasRoom_37 X p1 p2 hR (fun _ _ h => h) x3 al h
theorem uX7_hasRoom_2 {G : zG} {Z : zC} {r : Bool} {ad ln : Nat → Nat} (X : zX G Z cX7_hasRoom 4 RX7 wsX7_hasRoom) (p1 : Int32) (p2 : Int32) {post : Int32 → (Nat → Nat → Int32) → Prop} (hR : zRi G Z rmX7_hasRoom 4 (zTC r) ad ln cX7_hasRoom .boolean post) (x3 : Int32) (al : Nat → Nat → Int32) (h : vcX7_hasRoom_2 G r ad ln p1 p2 (BX7_hasRoom_2 G Z r ad ln p1 p2) post x3 al) : zB G Z rmX7_hasRoom 4 (zTC r) ad ln 0 0 2 [(0, .ref (ad 18)), (1, .int p1), (2, .int p2), (3, .int x3)] [] al := tX7_hasRoom_2 X p1 p2 hR (fun _ _ h => h) x3 al h

abbrev rmX7_firstWithRoom : Room := { frames := 4, cells := 0, slots := 0, locals := 88 }
theorem kX7_firstWithRoom_0 : Cond.fieldLink RX7 32 RX7 "distance" "I" ∈ wsX7_firstWithRoom := by decide +kernel
theorem kX7_firstWithRoom_1 : zIn RX7 TX7 9 wsX7_firstWithRoom := by decide +kernel
abbrev BX7_firstWithRoom_2 (G : zG) (Z : zC) (r : Bool) (ad ln : Nat → Nat) (p1 : Int32) (p2 : Int32) (x3 : Int32) (al : Nat → Nat → Int32) : Prop := zB G Z rmX7_firstWithRoom 4 (zTC r) ad ln 0 0 2 [(0, .ref (ad 18)), (1, .int p1), (2, .int p2), (3, .int x3)] [] al
def vcX7_firstWithRoom_0 (G : zG) (r : Bool) (ad ln : Nat → Nat) (p1 : Int32) (p2 : Int32) (K2 : Int32 → (Nat → Nat → Int32) → Prop) (post : Int32 → (Nat → Nat → Int32) → Prop) (al : Nat → Nat → Int32) : Prop :=
  K2 p2 al
def vcX7_firstWithRoom_2 (G : zG) (r : Bool) (ad ln : Nat → Nat) (p1 : Int32) (p2 : Int32) (K2 : Int32 → (Nat → Nat → Int32) → Prop) (post : Int32 → (Nat → Nat → Int32) → Prop) (x3 : Int32) (al : Nat → Nat → Int32) : Prop :=
  ((p2 + (al 18 6)) ≤ x3 → post (-1 : Int32) al) ∧ (¬ (p2 + (al 18 6)) ≤ x3 → zMi G yX7_hasRoom wsX7_hasRoom rmX7_hasRoom (zTC r) ad ln [.ref (ad 18), .int p1, .int x3] al (fun q2 a2 => (q2 = 0 → K2 (x3 + (1 : Int32)) a2) ∧ (¬ q2 = 0 → post x3 a2)))
set_option maxRecDepth 20000 in
theorem tX7_firstWithRoom_0 {G : zG} {Z : zC} {r : Bool} {ad ln : Nat → Nat} (X : zX G Z cX7_firstWithRoom 4 RX7 wsX7_firstWithRoom) (p1 : Int32) (p2 : Int32) {K2 : Int32 → (Nat → Nat → Int32) → Prop} {post : Int32 → (Nat → Nat → Int32) → Prop} (hR : zRi G Z rmX7_firstWithRoom 4 (zTC r) ad ln cX7_firstWithRoom .int post) (hK2 : ∀ x3 : Int32, ∀ al, K2 x3 al → zB G Z rmX7_firstWithRoom 4 (zTC r) ad ln 0 0 2 [(0, .ref (ad 18)), (1, .int p1), (2, .int p2), (3, .int x3)] [] al) (al : Nat → Nat → Int32) (h : vcX7_firstWithRoom_0 G r ad ln p1 p2 K2 post  al) : zB G Z rmX7_firstWithRoom 4 (zTC r) ad ln 0 0 0 [(0, .ref (ad 18)), (1, .int p1), (2, .int p2)] [] al := by
  unfold vcX7_firstWithRoom_0 at h
  refine zb_iload_n X dX7_firstWithRoom_0 rfl 2 rfl ?_
  refine zb_istore_n X (lv' := [(3, .int p2), (0, .ref (ad 18)), (1, .int p1), (2, .int p2)]) dX7_firstWithRoom_1 rfl (by decide) rfl ?_
  refine zb_sub [1, 2, 3, 0] rfl ?_
  exact hK2 p2 al h
set_option maxRecDepth 20000 in
theorem tX7_firstWithRoom_2 {G : zG} {Z : zC} {r : Bool} {ad ln : Nat → Nat} (X : zX G Z cX7_firstWithRoom 4 RX7 wsX7_firstWithRoom) (p1 : Int32) (p2 : Int32) {K2 : Int32 → (Nat → Nat → Int32) → Prop} {post : Int32 → (Nat → Nat → Int32) → Prop} (hR : zRi G Z rmX7_firstWithRoom 4 (zTC r) ad ln cX7_firstWithRoom .int post) (hK2 : ∀ x3 : Int32, ∀ al, K2 x3 al → zB G Z rmX7_firstWithRoom 4 (zTC r) ad ln 0 0 2 [(0, .ref (ad 18)), (1, .int p1), (2, .int p2), (3, .int x3)] [] al) (x3 : Int32) (al : Nat → Nat → Int32) (h : vcX7_firstWithRoom_2 G r ad ln p1 p2 K2 post x3 al) : zB G Z rmX7_firstWithRoom 4 (zTC r) ad ln 0 0 2 [(0, .ref (ad 18)), (1, .int p1), (2, .int p2), (3, .int x3)] [] al := by
  unfold vcX7_firstWithRoom_2 at h
  refine zb_iload_n X dX7_firstWithRoom_2 rfl 3 rfl ?_
  refine zb_iload_n X dX7_firstWithRoom_3 rfl 2 rfl ?_
  refine zb_aload_n X dX7_firstWithRoom_4 rfl 0 rfl ?_
  refine zb_getI X 18 (zTC_lt (by decide)) 7 [6, 14, 4, 21, 22, 23, 0, 0, 0] rfl (C := RX7) (Tt := TX7) (N := 9) rfl kX7_firstWithRoom_1 6 (by decide) rfl kX7_firstWithRoom_0 rfl dX7_firstWithRoom_5 (al 18 6) rfl ?_
  refine zb_iadd X dX7_firstWithRoom_8 ?_
  refine zb_icmp_ge X 29 dX7_firstWithRoom_9 (by decide) (fun c1 => ?_) (fun c1 => ?_)
  · have h := h.1 c1
    refine zb_iconst X (-1 : Int32) dX7_firstWithRoom_29 (by decide) ?_
    exact hR 30 _ _ _ dX7_firstWithRoom_30 rfl h
  · have h := h.2 c1
    refine zb_aload_n X dX7_firstWithRoom_12 rfl 0 rfl ?_
    refine zb_iload_n X dX7_firstWithRoom_13 rfl 1 rfl ?_
    refine zb_iload_n X dX7_firstWithRoom_14 rfl 3 rfl ?_
    refine zb_callVi (n := 2) X 18 (zTC_lt (by decide)) 7 [6, 14, 4, 21, 22, 23, 0, 0, 0] rfl (C := RX7) (Tt := TX7) (N := 9) rfl h gX7_firstWithRoom_X7_hasRoom rfl (by decide +kernel) (by decide) rfl rfl (Nat.le_of_ble_eq_true rfl) dX7_firstWithRoom_15 (kc' := 0) (ks' := 0) rfl rfl (fun q2 a2 h => ?_)
    refine zb_if_eq X 23 dX7_firstWithRoom_18 (by decide) (fun c3 => ?_) (fun c3 => ?_)
    · have h := h.1 c3
      refine zb_iinc X (lv' := [(3, .int (x3 + (1 : Int32))), (0, .ref (ad 18)), (1, .int p1), (2, .int p2)]) (x3 + (1 : Int32)) dX7_firstWithRoom_23 3 rfl rfl (by decide) rfl ?_
      refine zb_goto X 2 dX7_firstWithRoom_26 (by decide) ?_
      refine zb_sub [1, 2, 3, 0] rfl ?_
      exact hK2 (x3 + (1 : Int32)) a2 h
    · have h := h.2 c3
      refine zb_iload_n X dX7_firstWithRoom_21 rfl 3 rfl ?_
      exact hR 22 _ _ _ dX7_firstWithRoom_22 rfl h
theorem uX7_firstWithRoom_0 {G : zG} {Z : zC} {r : Bool} {ad ln : Nat → Nat} (X : zX G Z cX7_firstWithRoom 4 RX7 wsX7_firstWithRoom) (p1 : Int32) (p2 : Int32) {post : Int32 → (Nat → Nat → Int32) → Prop} (hR : zRi G Z rmX7_firstWithRoom 4 (zTC r) ad ln cX7_firstWithRoom .int post) (al : Nat → Nat → Int32) (h : vcX7_firstWithRoom_0 G r ad ln p1 p2 (BX7_firstWithRoom_2 G Z r ad ln p1 p2) post  al) : zB G Z rmX7_firstWithRoom 4 (zTC r) ad ln 0 0 0 [(0, .ref (ad 18)), (1, .int p1), (2, .int p2)] [] al := tX7_firstWithRoom_0 X p1 p2 hR (fun _ _ h => h)  al h
theorem uX7_firstWithRoom_2 {G : zG} {Z : zC} {r : Bool} {ad ln : Nat → Nat} (X : zX G Z cX7_firstWithRoom 4 RX7 wsX7_firstWithRoom) (p1 : Int32) (p2 : Int32) {post : Int32 → (Nat → Nat → Int32) → Prop} (hR : zRi G Z rmX7_firstWithRoom 4 (zTC r) ad ln cX7_firstWithRoom .int post) (x3 : Int32) (al : Nat → Nat → Int32) (h : vcX7_firstWithRoom_2 G r ad ln p1 p2 (BX7_firstWithRoom_2 G Z r ad ln p1 p2) post x3 al) : zB G Z rmX7_firstWithRoom 4 (zTC r) ad ln 0 0 2 [(0, .ref (ad 18)), (1, .int p1), (2, .int p2), (3, .int x3)] [] al := tX7_firstWithRoom_2 X p1 p2 hR (fun _ _ h => h) x3 al h

abbrev rmX7_sharesRest : Room := { frames := 2, cells := 0, slots := 0, locals := 43 }
theorem kX7_sharesRest_0 : Cond.fieldLink RX7 9 RX7 "cycle" "[I" ∈ wsX7_sharesRest := by decide +kernel
theorem kX7_sharesRest_1 : zIn RX7 TX7 9 wsX7_sharesRest := by decide +kernel
theorem kX7_sharesRest_2 : Cond.fieldLink RX7 32 RX7 "distance" "I" ∈ wsX7_sharesRest := by decide +kernel
theorem kX7_sharesRest_3 : Cond.initialized RX9 ∈ wsX7_sharesRest := by decide +kernel
theorem kX7_sharesRest_4 : Cond.static yX9_rest ∈ wsX7_sharesRest := by decide +kernel
def vcX7_sharesRest_39 (G : zG) (r : Bool) (ad ln : Nat → Nat) (p1 : Int32) (p2 : Int32)  (post : Int32 → (Nat → Nat → Int32) → Prop) (s0 : Int32) (al : Nat → Nat → Int32) : Prop :=
  zOk .boolean s0 ∧ post s0 al
def vcX7_sharesRest_38 (G : zG) (r : Bool) (ad ln : Nat → Nat) (p1 : Int32) (p2 : Int32)  (post : Int32 → (Nat → Nat → Int32) → Prop) (al : Nat → Nat → Int32) : Prop :=
  vcX7_sharesRest_39 G r ad ln p1 p2  post (0 : Int32) al
def vcX7_sharesRest_0 (G : zG) (r : Bool) (ad ln : Nat → Nat) (p1 : Int32) (p2 : Int32)  (post : Int32 → (Nat → Nat → Int32) → Prop) (al : Nat → Nat → Int32) : Prop :=
  (vp_in p1 48 ∧ ((al 19 p1.toNatClampNeg) = (-1 : Int32) → vcX7_sharesRest_38 G r ad ln p1 p2  post  al) ∧ (¬ (al 19 p1.toNatClampNeg) = (-1 : Int32) → (vp_in p1 48 ∧ zMi G yX9_rest wsX9_rest rmX9_rest (zTC r) ad ln [.int (al 19 p1.toNatClampNeg), .int (al 18 6)] al (fun q2 a2 => zMi G yX9_rest wsX9_rest rmX9_rest (zTC r) ad ln [.int p2, .int (a2 18 6)] a2 (fun q3 a3 => (¬ q2 = q3 → vcX7_sharesRest_38 G r ad ln p1 p2  post  a3) ∧ (q2 = q3 → vcX7_sharesRest_39 G r ad ln p1 p2  post (1 : Int32) a3))))))
set_option maxRecDepth 20000 in
theorem tX7_sharesRest_39 {G : zG} {Z : zC} {r : Bool} {ad ln : Nat → Nat} (X : zX G Z cX7_sharesRest 3 RX7 wsX7_sharesRest) (p1 : Int32) (p2 : Int32)  {post : Int32 → (Nat → Nat → Int32) → Prop} (hR : zRi G Z rmX7_sharesRest 3 (zTC r) ad ln cX7_sharesRest .boolean post)  (s0 : Int32) (al : Nat → Nat → Int32) (h : vcX7_sharesRest_39 G r ad ln p1 p2  post s0 al) : zB G Z rmX7_sharesRest 3 (zTC r) ad ln 0 0 39 [] [.int s0] al := by
  unfold vcX7_sharesRest_39 at h
  exact hR 39 _ _ _ dX7_sharesRest_39 h.1 h.2
set_option maxRecDepth 20000 in
theorem tX7_sharesRest_38 {G : zG} {Z : zC} {r : Bool} {ad ln : Nat → Nat} (X : zX G Z cX7_sharesRest 3 RX7 wsX7_sharesRest) (p1 : Int32) (p2 : Int32)  {post : Int32 → (Nat → Nat → Int32) → Prop} (hR : zRi G Z rmX7_sharesRest 3 (zTC r) ad ln cX7_sharesRest .boolean post)  (al : Nat → Nat → Int32) (h : vcX7_sharesRest_38 G r ad ln p1 p2  post  al) : zB G Z rmX7_sharesRest 3 (zTC r) ad ln 0 0 38 [] [] al := by
  unfold vcX7_sharesRest_38 at h
  refine zb_iconst X (0 : Int32) dX7_sharesRest_38 (by decide) ?_
  refine zb_sub [] rfl ?_
  exact tX7_sharesRest_39 X p1 p2 hR  (0 : Int32) al h
set_option maxRecDepth 20000 in
theorem tX7_sharesRest_0 {G : zG} {Z : zC} {r : Bool} {ad ln : Nat → Nat} (X : zX G Z cX7_sharesRest 3 RX7 wsX7_sharesRest) (p1 : Int32) (p2 : Int32)  {post : Int32 → (Nat → Nat → Int32) → Prop} (hR : zRi G Z rmX7_sharesRest 3 (zTC r) ad ln cX7_sharesRest .boolean post)  (al : Nat → Nat → Int32) (h : vcX7_sharesRest_0 G r ad ln p1 p2  post  al) : zB G Z rmX7_sharesRest 3 (zTC r) ad ln 0 0 0 [(0, .ref (ad 18)), (1, .int p1), (2, .int p2)] [] al := by
  unfold vcX7_sharesRest_0 at h
  refine zb_aload_n X dX7_sharesRest_0 rfl 0 rfl ?_
  refine zb_getR X 18 (zTC_lt (by decide)) 7 [6, 14, 4, 21, 22, 23, 0, 0, 0] rfl (C := RX7) (Tt := TX7) (N := 9) rfl kX7_sharesRest_1 3 (by decide) 19 rfl kX7_sharesRest_0 rfl dX7_sharesRest_1 ?_
  refine zb_iload_n X dX7_sharesRest_4 rfl 1 rfl ?_
  obtain ⟨hz, h⟩ := h
  refine zb_iald X 19 (zTC_lt (by decide)) 1 48 0 0 rfl (Or.inl rfl) p1.toNatClampNeg rfl hz dX7_sharesRest_5 (al 19 p1.toNatClampNeg) rfl ?_
  refine zb_iconst X (-1 : Int32) dX7_sharesRest_6 (by decide) ?_
  refine zb_icmp_eq X 38 dX7_sharesRest_7 (by decide) (fun c1 => ?_) (fun c1 => ?_)
  · have h := h.1 c1
    refine zb_sub [] rfl ?_
    exact tX7_sharesRest_38 X p1 p2 hR   al h
  · have h := h.2 c1
    refine zb_aload_n X dX7_sharesRest_10 rfl 0 rfl ?_
    refine zb_getR X 18 (zTC_lt (by decide)) 7 [6, 14, 4, 21, 22, 23, 0, 0, 0] rfl (C := RX7) (Tt := TX7) (N := 9) rfl kX7_sharesRest_1 3 (by decide) 19 rfl kX7_sharesRest_0 rfl dX7_sharesRest_11 ?_
    refine zb_iload_n X dX7_sharesRest_14 rfl 1 rfl ?_
    obtain ⟨hz, h⟩ := h
    refine zb_iald X 19 (zTC_lt (by decide)) 1 48 0 0 rfl (Or.inl rfl) p1.toNatClampNeg rfl hz dX7_sharesRest_15 (al 19 p1.toNatClampNeg) rfl ?_
    refine zb_aload_n X dX7_sharesRest_16 rfl 0 rfl ?_
    refine zb_getI X 18 (zTC_lt (by decide)) 7 [6, 14, 4, 21, 22, 23, 0, 0, 0] rfl (C := RX7) (Tt := TX7) (N := 9) rfl kX7_sharesRest_1 6 (by decide) rfl kX7_sharesRest_2 rfl dX7_sharesRest_17 (al 18 6) rfl ?_
    refine zb_callNi (n := 2) X h gX7_sharesRest_X9_rest_n124 (by decide +kernel) kX7_sharesRest_3 kX7_sharesRest_4 rfl (by decide +kernel) (by decide) rfl rfl (Nat.le_of_ble_eq_true rfl) dX7_sharesRest_20 (kc' := 0) (ks' := 0) rfl rfl (fun q2 a2 h => ?_)
    refine zb_iload_n X dX7_sharesRest_23 rfl 2 rfl ?_
    refine zb_aload_n X dX7_sharesRest_24 rfl 0 rfl ?_
    refine zb_getI X 18 (zTC_lt (by decide)) 7 [6, 14, 4, 21, 22, 23, 0, 0, 0] rfl (C := RX7) (Tt := TX7) (N := 9) rfl kX7_sharesRest_1 6 (by decide) rfl kX7_sharesRest_2 rfl dX7_sharesRest_25 (a2 18 6) rfl ?_
    refine zb_callNi (n := 2) X h gX7_sharesRest_X9_rest_n124 (by decide +kernel) kX7_sharesRest_3 kX7_sharesRest_4 rfl (by decide +kernel) (by decide) rfl rfl (Nat.le_of_ble_eq_true rfl) dX7_sharesRest_28 (kc' := 0) (ks' := 0) rfl rfl (fun q3 a3 h => ?_)
    refine zb_icmp_ne X 38 dX7_sharesRest_31 (by decide) (fun c4 => ?_) (fun c4 => ?_)
    · have h := h.1 c4
      refine zb_sub [] rfl ?_
      exact tX7_sharesRest_38 X p1 p2 hR   a3 h
    · have h := h.2 c4
      refine zb_iconst X (1 : Int32) dX7_sharesRest_34 (by decide) ?_
      refine zb_goto X 39 dX7_sharesRest_35 (by decide) ?_
      refine zb_sub [] rfl ?_
      exact tX7_sharesRest_39 X p1 p2 hR  (1 : Int32) a3 h

abbrev rmX7_changeUse : Room := { frames := 2, cells := 0, slots := 0, locals := 43 }
theorem kX7_changeUse_0 : Cond.fieldLink RX7 21 RX7 "loop" "LLoopForge$Loop;" ∈ wsX7_changeUse := by decide +kernel
theorem kX7_changeUse_1 : zIn RX7 TX7 9 wsX7_changeUse := by decide +kernel
theorem kX7_changeUse_2 : Cond.fieldLink RX7 109 RX0 "rows" "[LLoopForge$Row;" ∈ wsX7_changeUse := by decide +kernel
theorem kX7_changeUse_3 : zIn RX0 TX0 3 wsX7_changeUse := by decide +kernel
theorem kX7_changeUse_4 : Cond.fieldLink RX7 113 RX3 "kind" "I" ∈ wsX7_changeUse := by decide +kernel
theorem kX7_changeUse_5 : zIn RX3 TX3 9 wsX7_changeUse := by decide +kernel
theorem kX7_changeUse_6 : Cond.initialized RX9 ∈ wsX7_changeUse := by decide +kernel
theorem kX7_changeUse_7 : Cond.static yX9_isInGroup ∈ wsX7_changeUse := by decide +kernel
theorem kX7_changeUse_8 : Cond.fieldLink RX7 18 RX7 "used" "[I" ∈ wsX7_changeUse := by decide +kernel
theorem kX7_changeUse_9 : Cond.fieldLink RX7 9 RX7 "cycle" "[I" ∈ wsX7_changeUse := by decide +kernel
theorem kX7_changeUse_10 : Cond.fieldLink RX7 32 RX7 "distance" "I" ∈ wsX7_changeUse := by decide +kernel
theorem kX7_changeUse_11 : Cond.static yX9_rest ∈ wsX7_changeUse := by decide +kernel
abbrev BX7_changeUse_2 (G : zG) (Z : zC) (r : Bool) (ad ln : Nat → Nat) (p1 : Int32) (p2 : Int32) (x3 : Int32) (al : Nat → Nat → Int32) : Prop := zB G Z rmX7_changeUse 4 (zTC r) ad ln 0 0 2 [(0, .ref (ad 18)), (1, .int p1), (2, .int p2), (3, .int x3)] [] al
def vcX7_changeUse_0 (G : zG) (r : Bool) (ad ln : Nat → Nat) (p1 : Int32) (p2 : Int32) (K2 : Int32 → (Nat → Nat → Int32) → Prop) (post : (Nat → Nat → Int32) → Prop) (al : Nat → Nat → Int32) : Prop :=
  K2 (0 : Int32) al
def vcX7_changeUse_54 (G : zG) (r : Bool) (ad ln : Nat → Nat) (p1 : Int32) (p2 : Int32) (K2 : Int32 → (Nat → Nat → Int32) → Prop) (post : (Nat → Nat → Int32) → Prop) (x3 : Int32) (al : Nat → Nat → Int32) : Prop :=
  K2 (x3 + (1 : Int32)) al
def vcX7_changeUse_2 (G : zG) (r : Bool) (ad ln : Nat → Nat) (p1 : Int32) (p2 : Int32) (K2 : Int32 → (Nat → Nat → Int32) → Prop) (post : (Nat → Nat → Int32) → Prop) (x3 : Int32) (al : Nat → Nat → Int32) : Prop :=
  ((4 : Int32) ≤ x3 → post al) ∧ (¬ (4 : Int32) ≤ x3 → (vp_in p1 48 ∧ zMi G yX9_isInGroup wsX9_isInGroup rmX9_isInGroup (zTC r) ad ln [.int (al (29 + 3 * p1.toNatClampNeg) 0), .int x3] al (fun q3 a3 => (q3 = 0 → vcX7_changeUse_54 G r ad ln p1 p2 K2 post x3 a3) ∧ (¬ q3 = 0 → (vp_in p1 48 ∧ zMi G yX9_rest wsX9_rest rmX9_rest (zTC r) ad ln [.int (a3 19 p1.toNatClampNeg), .int (a3 18 6)] a3 (fun q5 a5 => (vp_in ((x3 * (200 : Int32)) + q5) 800 ∧ vp_in ((x3 * (200 : Int32)) + q5) 800 ∧ vcX7_changeUse_54 G r ad ln p1 p2 K2 post x3 (up2 a5 21 (((x3 * (200 : Int32)) + q5).toNatClampNeg) ((a5 21 (((x3 * (200 : Int32)) + q5).toNatClampNeg)) + p2)))))))))
set_option maxRecDepth 20000 in
theorem tX7_changeUse_0 {G : zG} {Z : zC} {r : Bool} {ad ln : Nat → Nat} (X : zX G Z cX7_changeUse 4 RX7 wsX7_changeUse) (p1 : Int32) (p2 : Int32) {K2 : Int32 → (Nat → Nat → Int32) → Prop} {post : (Nat → Nat → Int32) → Prop} (hR : zRv G Z rmX7_changeUse 4 (zTC r) ad ln cX7_changeUse post) (hK2 : ∀ x3 : Int32, ∀ al, K2 x3 al → zB G Z rmX7_changeUse 4 (zTC r) ad ln 0 0 2 [(0, .ref (ad 18)), (1, .int p1), (2, .int p2), (3, .int x3)] [] al) (al : Nat → Nat → Int32) (h : vcX7_changeUse_0 G r ad ln p1 p2 K2 post  al) : zB G Z rmX7_changeUse 4 (zTC r) ad ln 0 0 0 [(0, .ref (ad 18)), (1, .int p1), (2, .int p2)] [] al := by
  unfold vcX7_changeUse_0 at h
  refine zb_iconst X (0 : Int32) dX7_changeUse_0 (by decide) ?_
  refine zb_istore_n X (lv' := [(3, .int (0 : Int32)), (0, .ref (ad 18)), (1, .int p1), (2, .int p2)]) dX7_changeUse_1 rfl (by decide) rfl ?_
  refine zb_sub [1, 2, 3, 0] rfl ?_
  exact hK2 (0 : Int32) al h
set_option maxRecDepth 20000 in
theorem tX7_changeUse_54 {G : zG} {Z : zC} {r : Bool} {ad ln : Nat → Nat} (X : zX G Z cX7_changeUse 4 RX7 wsX7_changeUse) (p1 : Int32) (p2 : Int32) {K2 : Int32 → (Nat → Nat → Int32) → Prop} {post : (Nat → Nat → Int32) → Prop} (hR : zRv G Z rmX7_changeUse 4 (zTC r) ad ln cX7_changeUse post) (hK2 : ∀ x3 : Int32, ∀ al, K2 x3 al → zB G Z rmX7_changeUse 4 (zTC r) ad ln 0 0 2 [(0, .ref (ad 18)), (1, .int p1), (2, .int p2), (3, .int x3)] [] al) (x3 : Int32) (al : Nat → Nat → Int32) (h : vcX7_changeUse_54 G r ad ln p1 p2 K2 post x3 al) : zB G Z rmX7_changeUse 4 (zTC r) ad ln 0 0 54 [(0, .ref (ad 18)), (1, .int p1), (2, .int p2), (3, .int x3)] [] al := by
  unfold vcX7_changeUse_54 at h
  refine zb_iinc X (lv' := [(3, .int (x3 + (1 : Int32))), (0, .ref (ad 18)), (1, .int p1), (2, .int p2)]) (x3 + (1 : Int32)) dX7_changeUse_54 3 rfl rfl (by decide) rfl ?_
  refine zb_goto X 2 dX7_changeUse_57 (by decide) ?_
  refine zb_sub [1, 2, 3, 0] rfl ?_
  exact hK2 (x3 + (1 : Int32)) al h
set_option maxRecDepth 20000 in
theorem tX7_changeUse_2 {G : zG} {Z : zC} {r : Bool} {ad ln : Nat → Nat} (X : zX G Z cX7_changeUse 4 RX7 wsX7_changeUse) (p1 : Int32) (p2 : Int32) {K2 : Int32 → (Nat → Nat → Int32) → Prop} {post : (Nat → Nat → Int32) → Prop} (hR : zRv G Z rmX7_changeUse 4 (zTC r) ad ln cX7_changeUse post) (hK2 : ∀ x3 : Int32, ∀ al, K2 x3 al → zB G Z rmX7_changeUse 4 (zTC r) ad ln 0 0 2 [(0, .ref (ad 18)), (1, .int p1), (2, .int p2), (3, .int x3)] [] al) (x3 : Int32) (al : Nat → Nat → Int32) (h : vcX7_changeUse_2 G r ad ln p1 p2 K2 post x3 al) : zB G Z rmX7_changeUse 4 (zTC r) ad ln 0 0 2 [(0, .ref (ad 18)), (1, .int p1), (2, .int p2), (3, .int x3)] [] al := by
  unfold vcX7_changeUse_2 at h
  refine zb_iload_n X dX7_changeUse_2 rfl 3 rfl ?_
  refine zb_iconst X (4 : Int32) dX7_changeUse_3 (by decide) ?_
  refine zb_icmp_ge X 60 dX7_changeUse_4 (by decide) (fun c1 => ?_) (fun c1 => ?_)
  · have h := h.1 c1
    exact hR 60 _ _ dX7_changeUse_60 h
  · have h := h.2 c1
    refine zb_aload_n X dX7_changeUse_7 rfl 0 rfl ?_
    refine zb_getR X 18 (zTC_lt (by decide)) 7 [6, 14, 4, 21, 22, 23, 0, 0, 0] rfl (C := RX7) (Tt := TX7) (N := 9) rfl kX7_changeUse_1 0 (by decide) 4 rfl kX7_changeUse_0 rfl dX7_changeUse_8 ?_
    refine zb_getR X 4 (zTC_lt (by decide)) 0 [7, 0, 8] rfl (C := RX0) (Tt := TX0) (N := 3) rfl kX7_changeUse_3 0 (by decide) 5 rfl kX7_changeUse_2 rfl dX7_changeUse_11 ?_
    refine zb_iload_n X dX7_changeUse_14 rfl 1 rfl ?_
    obtain ⟨hq2, h⟩ := h
    refine zb_rald X 5 (zTC_lt (by decide)) 48 29 3 rfl hq2 dX7_changeUse_15 ?_
    refine zb_getI X (29 + 3 * p1.toNatClampNeg) (zTC_lt (zrow_lt (zvp_lt hq2))) 3 [0, 0, 0, 0, 0, 0, 0, (30 + 3 * p1.toNatClampNeg) + 2, (31 + 3 * p1.toNatClampNeg) + 2] (zTC_row r (zvp_lt hq2)) (C := RX3) (Tt := TX3) (N := 9) rfl kX7_changeUse_5 0 (by decide) rfl kX7_changeUse_4 rfl dX7_changeUse_16 (al (29 + 3 * p1.toNatClampNeg) 0) rfl ?_
    refine zb_iload_n X dX7_changeUse_19 rfl 3 rfl ?_
    refine zb_callNi (n := 2) X h gX7_changeUse_X9_isInGroup_n118 (by decide +kernel) kX7_changeUse_6 kX7_changeUse_7 rfl (by decide +kernel) (by decide) rfl rfl (Nat.le_of_ble_eq_true rfl) dX7_changeUse_20 (kc' := 0) (ks' := 0) rfl rfl (fun q3 a3 h => ?_)
    refine zb_if_eq X 54 dX7_changeUse_23 (by decide) (fun c4 => ?_) (fun c4 => ?_)
    · have h := h.1 c4
      refine zb_sub [0, 1, 2, 3] rfl ?_
      exact tX7_changeUse_54 X p1 p2 hR hK2 x3 a3 h
    · have h := h.2 c4
      refine zb_aload_n X dX7_changeUse_26 rfl 0 rfl ?_
      refine zb_getR X 18 (zTC_lt (by decide)) 7 [6, 14, 4, 21, 22, 23, 0, 0, 0] rfl (C := RX7) (Tt := TX7) (N := 9) rfl kX7_changeUse_1 5 (by decide) 21 rfl kX7_changeUse_8 rfl dX7_changeUse_27 ?_
      refine zb_iload_n X dX7_changeUse_30 rfl 3 rfl ?_
      refine zb_sipush X (200 : Int32) dX7_changeUse_31 (by decide) ?_
      refine zb_imul X dX7_changeUse_34 ?_
      refine zb_aload_n X dX7_changeUse_35 rfl 0 rfl ?_
      refine zb_getR X 18 (zTC_lt (by decide)) 7 [6, 14, 4, 21, 22, 23, 0, 0, 0] rfl (C := RX7) (Tt := TX7) (N := 9) rfl kX7_changeUse_1 3 (by decide) 19 rfl kX7_changeUse_9 rfl dX7_changeUse_36 ?_
      refine zb_iload_n X dX7_changeUse_39 rfl 1 rfl ?_
      obtain ⟨hz, h⟩ := h
      refine zb_iald X 19 (zTC_lt (by decide)) 1 48 0 0 rfl (Or.inl rfl) p1.toNatClampNeg rfl hz dX7_changeUse_40 (a3 19 p1.toNatClampNeg) rfl ?_
      refine zb_aload_n X dX7_changeUse_41 rfl 0 rfl ?_
      refine zb_getI X 18 (zTC_lt (by decide)) 7 [6, 14, 4, 21, 22, 23, 0, 0, 0] rfl (C := RX7) (Tt := TX7) (N := 9) rfl kX7_changeUse_1 6 (by decide) rfl kX7_changeUse_10 rfl dX7_changeUse_42 (a3 18 6) rfl ?_
      refine zb_callNi (n := 2) X h gX7_changeUse_X9_rest_n124 (by decide +kernel) kX7_changeUse_6 kX7_changeUse_11 rfl (by decide +kernel) (by decide) rfl rfl (Nat.le_of_ble_eq_true rfl) dX7_changeUse_45 (kc' := 0) (ks' := 0) rfl rfl (fun q5 a5 h => ?_)
      refine zb_iadd X dX7_changeUse_48 ?_
      refine zb_dup2 X dX7_changeUse_49 rfl rfl ?_
      obtain ⟨hz, h⟩ := h
      refine zb_iald X 21 (zTC_lt (by decide)) 1 800 0 0 rfl (Or.inl rfl) (((x3 * (200 : Int32)) + q5).toNatClampNeg) rfl hz dX7_changeUse_50 (a5 21 (((x3 * (200 : Int32)) + q5).toNatClampNeg)) rfl ?_
      refine zb_iload_n X dX7_changeUse_51 rfl 2 rfl ?_
      refine zb_iadd X dX7_changeUse_52 ?_
      obtain ⟨hz, h⟩ := h
      refine zb_iast X 21 (zTC_lt (by decide)) 1 800 0 0 rfl (Or.inl rfl) (((x3 * (200 : Int32)) + q5).toNatClampNeg) rfl hz dX7_changeUse_53 ?_
      refine zb_sub [0, 1, 2, 3] rfl ?_
      exact tX7_changeUse_54 X p1 p2 hR hK2 x3 (up2 a5 21 (((x3 * (200 : Int32)) + q5).toNatClampNeg) ((a5 21 (((x3 * (200 : Int32)) + q5).toNatClampNeg)) + p2)) h
theorem uX7_changeUse_0 {G : zG} {Z : zC} {r : Bool} {ad ln : Nat → Nat} (X : zX G Z cX7_changeUse 4 RX7 wsX7_changeUse) (p1 : Int32) (p2 : Int32) {post : (Nat → Nat → Int32) → Prop} (hR : zRv G Z rmX7_changeUse 4 (zTC r) ad ln cX7_changeUse post) (al : Nat → Nat → Int32) (h : vcX7_changeUse_0 G r ad ln p1 p2 (BX7_changeUse_2 G Z r ad ln p1 p2) post  al) : zB G Z rmX7_changeUse 4 (zTC r) ad ln 0 0 0 [(0, .ref (ad 18)), (1, .int p1), (2, .int p2)] [] al := tX7_changeUse_0 X p1 p2 hR (fun _ _ h => h)  al h
theorem uX7_changeUse_54 {G : zG} {Z : zC} {r : Bool} {ad ln : Nat → Nat} (X : zX G Z cX7_changeUse 4 RX7 wsX7_changeUse) (p1 : Int32) (p2 : Int32) {post : (Nat → Nat → Int32) → Prop} (hR : zRv G Z rmX7_changeUse 4 (zTC r) ad ln cX7_changeUse post) (x3 : Int32) (al : Nat → Nat → Int32) (h : vcX7_changeUse_54 G r ad ln p1 p2 (BX7_changeUse_2 G Z r ad ln p1 p2) post x3 al) : zB G Z rmX7_changeUse 4 (zTC r) ad ln 0 0 54 [(0, .ref (ad 18)), (1, .int p1), (2, .int p2), (3, .int x3)] [] al := tX7_changeUse_54 X p1 p2 hR (fun _ _ h => h) x3 al h
theorem uX7_changeUse_2 {G : zG} {Z : zC} {r : Bool} {ad ln : Nat → Nat} (X : zX G Z cX7_changeUse 4 RX7 wsX7_changeUse) (p1 : Int32) (p2 : Int32) {post : (Nat → Nat → Int32) → Prop} (hR : zRv G Z rmX7_changeUse 4 (zTC r) ad ln cX7_changeUse post) (x3 : Int32) (al : Nat → Nat → Int32) (h : vcX7_changeUse_2 G r ad ln p1 p2 (BX7_changeUse_2 G Z r ad ln p1 p2) post x3 al) : zB G Z rmX7_changeUse 4 (zTC r) ad ln 0 0 2 [(0, .ref (ad 18)), (1, .int p1), (2, .int p2), (3, .int x3)] [] al := tX7_changeUse_2 X p1 p2 hR (fun _ _ h => h) x3 al h

abbrev rmX7_drop : Room := { frames := 3, cells := 0, slots := 0, locals := 66 }
theorem kX7_drop_0 : Cond.fieldLink RX7 9 RX7 "cycle" "[I" ∈ wsX7_drop := by decide +kernel
theorem kX7_drop_1 : zIn RX7 TX7 9 wsX7_drop := by decide +kernel
def vcX7_drop_0 (G : zG) (r : Bool) (ad ln : Nat → Nat) (p1 : Int32)  (post : (Nat → Nat → Int32) → Prop) (al : Nat → Nat → Int32) : Prop :=
  zMv G yX7_changeUse wsX7_changeUse rmX7_changeUse (zTC r) ad ln [.ref (ad 18), .int p1, .int (-1 : Int32)] al (fun a1 => (vp_in p1 48 ∧ post (up2 a1 19 p1.toNatClampNeg (-1 : Int32))))
set_option maxRecDepth 20000 in
theorem tX7_drop_0 {G : zG} {Z : zC} {r : Bool} {ad ln : Nat → Nat} (X : zX G Z cX7_drop 2 RX7 wsX7_drop) (p1 : Int32)  {post : (Nat → Nat → Int32) → Prop} (hR : zRv G Z rmX7_drop 2 (zTC r) ad ln cX7_drop post)  (al : Nat → Nat → Int32) (h : vcX7_drop_0 G r ad ln p1  post  al) : zB G Z rmX7_drop 2 (zTC r) ad ln 0 0 0 [(0, .ref (ad 18)), (1, .int p1)] [] al := by
  unfold vcX7_drop_0 at h
  refine zb_aload_n X dX7_drop_0 rfl 0 rfl ?_
  refine zb_iload_n X dX7_drop_1 rfl 1 rfl ?_
  refine zb_iconst X (-1 : Int32) dX7_drop_2 (by decide) ?_
  refine zb_callVv (n := 2) X 18 (zTC_lt (by decide)) 7 [6, 14, 4, 21, 22, 23, 0, 0, 0] rfl (C := RX7) (Tt := TX7) (N := 9) rfl h gX7_drop_X7_changeUse rfl (by decide +kernel) (by decide) rfl rfl (Nat.le_of_ble_eq_true rfl) dX7_drop_3 (kc' := 0) (ks' := 0) rfl rfl (fun a1 h => ?_)
  refine zb_aload_n X dX7_drop_6 rfl 0 rfl ?_
  refine zb_getR X 18 (zTC_lt (by decide)) 7 [6, 14, 4, 21, 22, 23, 0, 0, 0] rfl (C := RX7) (Tt := TX7) (N := 9) rfl kX7_drop_1 3 (by decide) 19 rfl kX7_drop_0 rfl dX7_drop_7 ?_
  refine zb_iload_n X dX7_drop_10 rfl 1 rfl ?_
  refine zb_iconst X (-1 : Int32) dX7_drop_11 (by decide) ?_
  obtain ⟨hz, h⟩ := h
  refine zb_iast X 19 (zTC_lt (by decide)) 1 48 0 0 rfl (Or.inl rfl) p1.toNatClampNeg rfl hz dX7_drop_12 ?_
  exact hR 13 _ _ dX7_drop_13 h

abbrev rmX7_makeRoom : Room := { frames := 4, cells := 0, slots := 0, locals := 87 }
theorem kX7_makeRoom_0 : Cond.fieldLink RX7 21 RX7 "loop" "LLoopForge$Loop;" ∈ wsX7_makeRoom := by decide +kernel
theorem kX7_makeRoom_1 : zIn RX7 TX7 9 wsX7_makeRoom := by decide +kernel
theorem kX7_makeRoom_2 : Cond.fieldLink RX7 109 RX0 "rows" "[LLoopForge$Row;" ∈ wsX7_makeRoom := by decide +kernel
theorem kX7_makeRoom_3 : zIn RX0 TX0 3 wsX7_makeRoom := by decide +kernel
theorem kX7_makeRoom_4 : Cond.fieldLink RX7 113 RX3 "kind" "I" ∈ wsX7_makeRoom := by decide +kernel
theorem kX7_makeRoom_5 : zIn RX3 TX3 9 wsX7_makeRoom := by decide +kernel
theorem kX7_makeRoom_6 : Cond.initialized RX9 ∈ wsX7_makeRoom := by decide +kernel
theorem kX7_makeRoom_7 : Cond.static yX9_isInGroup ∈ wsX7_makeRoom := by decide +kernel
theorem kX7_makeRoom_8 : Cond.fieldLink RX7 42 RX0 "size" "I" ∈ wsX7_makeRoom := by decide +kernel
abbrev BX7_makeRoom_37 (G : zG) (Z : zC) (r : Bool) (ad ln : Nat → Nat) (p1 : Int32) (p2 : Int32) (x3 x4 : Int32) (al : Nat → Nat → Int32) : Prop := zB G Z rmX7_makeRoom 5 (zTC r) ad ln 0 0 37 [(0, .ref (ad 18)), (1, .int p1), (2, .int p2), (3, .int x3), (4, .int x4)] [] al
abbrev BX7_makeRoom_2 (G : zG) (Z : zC) (r : Bool) (ad ln : Nat → Nat) (p1 : Int32) (p2 : Int32) (x3 : Int32) (al : Nat → Nat → Int32) : Prop := zB G Z rmX7_makeRoom 5 (zTC r) ad ln 0 0 2 [(0, .ref (ad 18)), (1, .int p1), (2, .int p2), (3, .int x3)] [] al
def vcX7_makeRoom_0 (G : zG) (r : Bool) (ad ln : Nat → Nat) (p1 : Int32) (p2 : Int32) (K2 : Int32 → (Nat → Nat → Int32) → Prop) (K37 : Int32 → Int32 → (Nat → Nat → Int32) → Prop) (post : (Nat → Nat → Int32) → Prop) (al : Nat → Nat → Int32) : Prop :=
  K2 (0 : Int32) al
def vcX7_makeRoom_93 (G : zG) (r : Bool) (ad ln : Nat → Nat) (p1 : Int32) (p2 : Int32) (K2 : Int32 → (Nat → Nat → Int32) → Prop) (K37 : Int32 → Int32 → (Nat → Nat → Int32) → Prop) (post : (Nat → Nat → Int32) → Prop) (x3 : Int32) (al : Nat → Nat → Int32) : Prop :=
  K2 (x3 + (1 : Int32)) al
def vcX7_makeRoom_2 (G : zG) (r : Bool) (ad ln : Nat → Nat) (p1 : Int32) (p2 : Int32) (K2 : Int32 → (Nat → Nat → Int32) → Prop) (K37 : Int32 → Int32 → (Nat → Nat → Int32) → Prop) (post : (Nat → Nat → Int32) → Prop) (x3 : Int32) (al : Nat → Nat → Int32) : Prop :=
  ((4 : Int32) ≤ x3 → post al) ∧ (¬ (4 : Int32) ≤ x3 → (vp_in p1 48 ∧ zMi G yX9_isInGroup wsX9_isInGroup rmX9_isInGroup (zTC r) ad ln [.int (al (29 + 3 * p1.toNatClampNeg) 0), .int x3] al (fun q3 a3 => (q3 = 0 → vcX7_makeRoom_93 G r ad ln p1 p2 K2 K37 post x3 a3) ∧ (¬ q3 = 0 → K37 x3 ((a3 4 1) - (1 : Int32)) a3))))
def vcX7_makeRoom_87 (G : zG) (r : Bool) (ad ln : Nat → Nat) (p1 : Int32) (p2 : Int32) (K2 : Int32 → (Nat → Nat → Int32) → Prop) (K37 : Int32 → Int32 → (Nat → Nat → Int32) → Prop) (post : (Nat → Nat → Int32) → Prop) (x3 x4 : Int32) (al : Nat → Nat → Int32) : Prop :=
  K37 x3 (x4 + (-1 : Int32)) al
def vcX7_makeRoom_37 (G : zG) (r : Bool) (ad ln : Nat → Nat) (p1 : Int32) (p2 : Int32) (K2 : Int32 → (Nat → Nat → Int32) → Prop) (K37 : Int32 → Int32 → (Nat → Nat → Int32) → Prop) (post : (Nat → Nat → Int32) → Prop) (x3 x4 : Int32) (al : Nat → Nat → Int32) : Prop :=
  (x4 < 0 → vcX7_makeRoom_93 G r ad ln p1 p2 K2 K37 post x3 al) ∧ (¬ x4 < 0 → zMi G yX7_isFull wsX7_isFull rmX7_isFull (zTC r) ad ln [.ref (ad 18), .int x3, .int p2] al (fun q2 a2 => (q2 = 0 → vcX7_makeRoom_93 G r ad ln p1 p2 K2 K37 post x3 a2) ∧ (¬ q2 = 0 → (vp_in x4 48 ∧ zMi G yX9_isInGroup wsX9_isInGroup rmX9_isInGroup (zTC r) ad ln [.int (a2 (29 + 3 * x4.toNatClampNeg) 0), .int x3] a2 (fun q5 a5 => (q5 = 0 → vcX7_makeRoom_87 G r ad ln p1 p2 K2 K37 post x3 x4 a5) ∧ (¬ q5 = 0 → zMi G yX7_sharesRest wsX7_sharesRest rmX7_sharesRest (zTC r) ad ln [.ref (ad 18), .int x4, .int p2] a5 (fun q7 a7 => (q7 = 0 → vcX7_makeRoom_87 G r ad ln p1 p2 K2 K37 post x3 x4 a7) ∧ (¬ q7 = 0 → zMv G yX7_drop wsX7_drop rmX7_drop (zTC r) ad ln [.ref (ad 18), .int x4] a7 (fun a9 => vcX7_makeRoom_87 G r ad ln p1 p2 K2 K37 post x3 x4 a9)))))))))
set_option maxRecDepth 20000 in
theorem tX7_makeRoom_0 {G : zG} {Z : zC} {r : Bool} {ad ln : Nat → Nat} (X : zX G Z cX7_makeRoom 5 RX7 wsX7_makeRoom) (p1 : Int32) (p2 : Int32) {K2 : Int32 → (Nat → Nat → Int32) → Prop} {K37 : Int32 → Int32 → (Nat → Nat → Int32) → Prop} {post : (Nat → Nat → Int32) → Prop} (hR : zRv G Z rmX7_makeRoom 5 (zTC r) ad ln cX7_makeRoom post) (hK2 : ∀ x3 : Int32, ∀ al, K2 x3 al → zB G Z rmX7_makeRoom 5 (zTC r) ad ln 0 0 2 [(0, .ref (ad 18)), (1, .int p1), (2, .int p2), (3, .int x3)] [] al) (hK37 : ∀ x3 x4 : Int32, ∀ al, K37 x3 x4 al → zB G Z rmX7_makeRoom 5 (zTC r) ad ln 0 0 37 [(0, .ref (ad 18)), (1, .int p1), (2, .int p2), (3, .int x3), (4, .int x4)] [] al) (al : Nat → Nat → Int32) (h : vcX7_makeRoom_0 G r ad ln p1 p2 K2 K37 post  al) : zB G Z rmX7_makeRoom 5 (zTC r) ad ln 0 0 0 [(0, .ref (ad 18)), (1, .int p1), (2, .int p2)] [] al := by
  unfold vcX7_makeRoom_0 at h
  refine zb_iconst X (0 : Int32) dX7_makeRoom_0 (by decide) ?_
  refine zb_istore_n X (lv' := [(3, .int (0 : Int32)), (0, .ref (ad 18)), (1, .int p1), (2, .int p2)]) dX7_makeRoom_1 rfl (by decide) rfl ?_
  refine zb_sub [1, 2, 3, 0] rfl ?_
  exact hK2 (0 : Int32) al h
set_option maxRecDepth 20000 in
theorem tX7_makeRoom_93 {G : zG} {Z : zC} {r : Bool} {ad ln : Nat → Nat} (X : zX G Z cX7_makeRoom 5 RX7 wsX7_makeRoom) (p1 : Int32) (p2 : Int32) {K2 : Int32 → (Nat → Nat → Int32) → Prop} {K37 : Int32 → Int32 → (Nat → Nat → Int32) → Prop} {post : (Nat → Nat → Int32) → Prop} (hR : zRv G Z rmX7_makeRoom 5 (zTC r) ad ln cX7_makeRoom post) (hK2 : ∀ x3 : Int32, ∀ al, K2 x3 al → zB G Z rmX7_makeRoom 5 (zTC r) ad ln 0 0 2 [(0, .ref (ad 18)), (1, .int p1), (2, .int p2), (3, .int x3)] [] al) (hK37 : ∀ x3 x4 : Int32, ∀ al, K37 x3 x4 al → zB G Z rmX7_makeRoom 5 (zTC r) ad ln 0 0 37 [(0, .ref (ad 18)), (1, .int p1), (2, .int p2), (3, .int x3), (4, .int x4)] [] al) (x3 : Int32) (al : Nat → Nat → Int32) (h : vcX7_makeRoom_93 G r ad ln p1 p2 K2 K37 post x3 al) : zB G Z rmX7_makeRoom 5 (zTC r) ad ln 0 0 93 [(0, .ref (ad 18)), (1, .int p1), (2, .int p2), (3, .int x3)] [] al := by
  unfold vcX7_makeRoom_93 at h
  refine zb_iinc X (lv' := [(3, .int (x3 + (1 : Int32))), (0, .ref (ad 18)), (1, .int p1), (2, .int p2)]) (x3 + (1 : Int32)) dX7_makeRoom_93 3 rfl rfl (by decide) rfl ?_
  refine zb_goto X 2 dX7_makeRoom_96 (by decide) ?_
  refine zb_sub [1, 2, 3, 0] rfl ?_
  exact hK2 (x3 + (1 : Int32)) al h
set_option maxRecDepth 20000 in
theorem tX7_makeRoom_2 {G : zG} {Z : zC} {r : Bool} {ad ln : Nat → Nat} (X : zX G Z cX7_makeRoom 5 RX7 wsX7_makeRoom) (p1 : Int32) (p2 : Int32) {K2 : Int32 → (Nat → Nat → Int32) → Prop} {K37 : Int32 → Int32 → (Nat → Nat → Int32) → Prop} {post : (Nat → Nat → Int32) → Prop} (hR : zRv G Z rmX7_makeRoom 5 (zTC r) ad ln cX7_makeRoom post) (hK2 : ∀ x3 : Int32, ∀ al, K2 x3 al → zB G Z rmX7_makeRoom 5 (zTC r) ad ln 0 0 2 [(0, .ref (ad 18)), (1, .int p1), (2, .int p2), (3, .int x3)] [] al) (hK37 : ∀ x3 x4 : Int32, ∀ al, K37 x3 x4 al → zB G Z rmX7_makeRoom 5 (zTC r) ad ln 0 0 37 [(0, .ref (ad 18)), (1, .int p1), (2, .int p2), (3, .int x3), (4, .int x4)] [] al) (x3 : Int32) (al : Nat → Nat → Int32) (h : vcX7_makeRoom_2 G r ad ln p1 p2 K2 K37 post x3 al) : zB G Z rmX7_makeRoom 5 (zTC r) ad ln 0 0 2 [(0, .ref (ad 18)), (1, .int p1), (2, .int p2), (3, .int x3)] [] al := by
  unfold vcX7_makeRoom_2 at h
  refine zb_iload_n X dX7_makeRoom_2 rfl 3 rfl ?_
  refine zb_iconst X (4 : Int32) dX7_makeRoom_3 (by decide) ?_
  refine zb_icmp_ge X 99 dX7_makeRoom_4 (by decide) (fun c1 => ?_) (fun c1 => ?_)
  · have h := h.1 c1
    exact hR 99 _ _ dX7_makeRoom_99 h
  · have h := h.2 c1
    refine zb_aload_n X dX7_makeRoom_7 rfl 0 rfl ?_
    refine zb_getR X 18 (zTC_lt (by decide)) 7 [6, 14, 4, 21, 22, 23, 0, 0, 0] rfl (C := RX7) (Tt := TX7) (N := 9) rfl kX7_makeRoom_1 0 (by decide) 4 rfl kX7_makeRoom_0 rfl dX7_makeRoom_8 ?_
    refine zb_getR X 4 (zTC_lt (by decide)) 0 [7, 0, 8] rfl (C := RX0) (Tt := TX0) (N := 3) rfl kX7_makeRoom_3 0 (by decide) 5 rfl kX7_makeRoom_2 rfl dX7_makeRoom_11 ?_
    refine zb_iload_n X dX7_makeRoom_14 rfl 1 rfl ?_
    obtain ⟨hq2, h⟩ := h
    refine zb_rald X 5 (zTC_lt (by decide)) 48 29 3 rfl hq2 dX7_makeRoom_15 ?_
    refine zb_getI X (29 + 3 * p1.toNatClampNeg) (zTC_lt (zrow_lt (zvp_lt hq2))) 3 [0, 0, 0, 0, 0, 0, 0, (30 + 3 * p1.toNatClampNeg) + 2, (31 + 3 * p1.toNatClampNeg) + 2] (zTC_row r (zvp_lt hq2)) (C := RX3) (Tt := TX3) (N := 9) rfl kX7_makeRoom_5 0 (by decide) rfl kX7_makeRoom_4 rfl dX7_makeRoom_16 (al (29 + 3 * p1.toNatClampNeg) 0) rfl ?_
    refine zb_iload_n X dX7_makeRoom_19 rfl 3 rfl ?_
    refine zb_callNi (n := 2) X h gX7_makeRoom_X9_isInGroup_n118 (by decide +kernel) kX7_makeRoom_6 kX7_makeRoom_7 rfl (by decide +kernel) (by decide) rfl rfl (Nat.le_of_ble_eq_true rfl) dX7_makeRoom_20 (kc' := 0) (ks' := 0) rfl rfl (fun q3 a3 h => ?_)
    refine zb_if_eq X 93 dX7_makeRoom_23 (by decide) (fun c4 => ?_) (fun c4 => ?_)
    · have h := h.1 c4
      refine zb_sub [0, 1, 2, 3] rfl ?_
      exact tX7_makeRoom_93 X p1 p2 hR hK2 hK37 x3 a3 h
    · have h := h.2 c4
      refine zb_aload_n X dX7_makeRoom_26 rfl 0 rfl ?_
      refine zb_getR X 18 (zTC_lt (by decide)) 7 [6, 14, 4, 21, 22, 23, 0, 0, 0] rfl (C := RX7) (Tt := TX7) (N := 9) rfl kX7_makeRoom_1 0 (by decide) 4 rfl kX7_makeRoom_0 rfl dX7_makeRoom_27 ?_
      refine zb_getI X 4 (zTC_lt (by decide)) 0 [7, 0, 8] rfl (C := RX0) (Tt := TX0) (N := 3) rfl kX7_makeRoom_3 1 (by decide) rfl kX7_makeRoom_8 rfl dX7_makeRoom_30 (a3 4 1) rfl ?_
      refine zb_iconst X (1 : Int32) dX7_makeRoom_33 (by decide) ?_
      refine zb_isub X dX7_makeRoom_34 ?_
      refine zb_istore X (lv' := [(4, .int ((a3 4 1) - (1 : Int32))), (0, .ref (ad 18)), (1, .int p1), (2, .int p2), (3, .int x3)]) dX7_makeRoom_35 (by decide) rfl ?_
      refine zb_sub [1, 2, 3, 4, 0] rfl ?_
      exact hK37 x3 ((a3 4 1) - (1 : Int32)) a3 h
set_option maxRecDepth 20000 in
theorem tX7_makeRoom_87 {G : zG} {Z : zC} {r : Bool} {ad ln : Nat → Nat} (X : zX G Z cX7_makeRoom 5 RX7 wsX7_makeRoom) (p1 : Int32) (p2 : Int32) {K2 : Int32 → (Nat → Nat → Int32) → Prop} {K37 : Int32 → Int32 → (Nat → Nat → Int32) → Prop} {post : (Nat → Nat → Int32) → Prop} (hR : zRv G Z rmX7_makeRoom 5 (zTC r) ad ln cX7_makeRoom post) (hK2 : ∀ x3 : Int32, ∀ al, K2 x3 al → zB G Z rmX7_makeRoom 5 (zTC r) ad ln 0 0 2 [(0, .ref (ad 18)), (1, .int p1), (2, .int p2), (3, .int x3)] [] al) (hK37 : ∀ x3 x4 : Int32, ∀ al, K37 x3 x4 al → zB G Z rmX7_makeRoom 5 (zTC r) ad ln 0 0 37 [(0, .ref (ad 18)), (1, .int p1), (2, .int p2), (3, .int x3), (4, .int x4)] [] al) (x3 x4 : Int32) (al : Nat → Nat → Int32) (h : vcX7_makeRoom_87 G r ad ln p1 p2 K2 K37 post x3 x4 al) : zB G Z rmX7_makeRoom 5 (zTC r) ad ln 0 0 87 [(0, .ref (ad 18)), (1, .int p1), (2, .int p2), (3, .int x3), (4, .int x4)] [] al := by
  unfold vcX7_makeRoom_87 at h
  refine zb_iinc X (lv' := [(4, .int (x4 + (-1 : Int32))), (0, .ref (ad 18)), (1, .int p1), (2, .int p2), (3, .int x3)]) (x4 + (-1 : Int32)) dX7_makeRoom_87 4 rfl rfl (by decide) rfl ?_
  refine zb_goto X 37 dX7_makeRoom_90 (by decide) ?_
  refine zb_sub [1, 2, 3, 4, 0] rfl ?_
  exact hK37 x3 (x4 + (-1 : Int32)) al h
set_option maxRecDepth 20000 in
theorem tX7_makeRoom_37 {G : zG} {Z : zC} {r : Bool} {ad ln : Nat → Nat} (X : zX G Z cX7_makeRoom 5 RX7 wsX7_makeRoom) (p1 : Int32) (p2 : Int32) {K2 : Int32 → (Nat → Nat → Int32) → Prop} {K37 : Int32 → Int32 → (Nat → Nat → Int32) → Prop} {post : (Nat → Nat → Int32) → Prop} (hR : zRv G Z rmX7_makeRoom 5 (zTC r) ad ln cX7_makeRoom post) (hK2 : ∀ x3 : Int32, ∀ al, K2 x3 al → zB G Z rmX7_makeRoom 5 (zTC r) ad ln 0 0 2 [(0, .ref (ad 18)), (1, .int p1), (2, .int p2), (3, .int x3)] [] al) (hK37 : ∀ x3 x4 : Int32, ∀ al, K37 x3 x4 al → zB G Z rmX7_makeRoom 5 (zTC r) ad ln 0 0 37 [(0, .ref (ad 18)), (1, .int p1), (2, .int p2), (3, .int x3), (4, .int x4)] [] al) (x3 x4 : Int32) (al : Nat → Nat → Int32) (h : vcX7_makeRoom_37 G r ad ln p1 p2 K2 K37 post x3 x4 al) : zB G Z rmX7_makeRoom 5 (zTC r) ad ln 0 0 37 [(0, .ref (ad 18)), (1, .int p1), (2, .int p2), (3, .int x3), (4, .int x4)] [] al := by
  unfold vcX7_makeRoom_37 at h
  refine zb_iload X dX7_makeRoom_37 4 rfl ?_
  refine zb_if_lt X 93 dX7_makeRoom_39 (by decide) (fun c1 => ?_) (fun c1 => ?_)
  · have h := h.1 c1
    refine zb_sub [0, 1, 2, 3] rfl ?_
    exact tX7_makeRoom_93 X p1 p2 hR hK2 hK37 x3 al h
  · have h := h.2 c1
    refine zb_aload_n X dX7_makeRoom_42 rfl 0 rfl ?_
    refine zb_iload_n X dX7_makeRoom_43 rfl 3 rfl ?_
    refine zb_iload_n X dX7_makeRoom_44 rfl 2 rfl ?_
    refine zb_callVi (n := 2) X 18 (zTC_lt (by decide)) 7 [6, 14, 4, 21, 22, 23, 0, 0, 0] rfl (C := RX7) (Tt := TX7) (N := 9) rfl h gX7_makeRoom_X7_isFull rfl (by decide +kernel) (by decide) rfl rfl (Nat.le_of_ble_eq_true rfl) dX7_makeRoom_45 (kc' := 0) (ks' := 0) rfl rfl (fun q2 a2 h => ?_)
    refine zb_if_eq X 93 dX7_makeRoom_48 (by decide) (fun c3 => ?_) (fun c3 => ?_)
    · have h := h.1 c3
      refine zb_sub [0, 1, 2, 3] rfl ?_
      exact tX7_makeRoom_93 X p1 p2 hR hK2 hK37 x3 a2 h
    · have h := h.2 c3
      refine zb_aload_n X dX7_makeRoom_51 rfl 0 rfl ?_
      refine zb_getR X 18 (zTC_lt (by decide)) 7 [6, 14, 4, 21, 22, 23, 0, 0, 0] rfl (C := RX7) (Tt := TX7) (N := 9) rfl kX7_makeRoom_1 0 (by decide) 4 rfl kX7_makeRoom_0 rfl dX7_makeRoom_52 ?_
      refine zb_getR X 4 (zTC_lt (by decide)) 0 [7, 0, 8] rfl (C := RX0) (Tt := TX0) (N := 3) rfl kX7_makeRoom_3 0 (by decide) 5 rfl kX7_makeRoom_2 rfl dX7_makeRoom_55 ?_
      refine zb_iload X dX7_makeRoom_58 4 rfl ?_
      obtain ⟨hq4, h⟩ := h
      refine zb_rald X 5 (zTC_lt (by decide)) 48 29 3 rfl hq4 dX7_makeRoom_60 ?_
      refine zb_getI X (29 + 3 * x4.toNatClampNeg) (zTC_lt (zrow_lt (zvp_lt hq4))) 3 [0, 0, 0, 0, 0, 0, 0, (30 + 3 * x4.toNatClampNeg) + 2, (31 + 3 * x4.toNatClampNeg) + 2] (zTC_row r (zvp_lt hq4)) (C := RX3) (Tt := TX3) (N := 9) rfl kX7_makeRoom_5 0 (by decide) rfl kX7_makeRoom_4 rfl dX7_makeRoom_61 (a2 (29 + 3 * x4.toNatClampNeg) 0) rfl ?_
      refine zb_iload_n X dX7_makeRoom_64 rfl 3 rfl ?_
      refine zb_callNi (n := 2) X h gX7_makeRoom_X9_isInGroup_n118 (by decide +kernel) kX7_makeRoom_6 kX7_makeRoom_7 rfl (by decide +kernel) (by decide) rfl rfl (Nat.le_of_ble_eq_true rfl) dX7_makeRoom_65 (kc' := 0) (ks' := 0) rfl rfl (fun q5 a5 h => ?_)
      refine zb_if_eq X 87 dX7_makeRoom_68 (by decide) (fun c6 => ?_) (fun c6 => ?_)
      · have h := h.1 c6
        refine zb_sub [0, 1, 2, 3, 4] rfl ?_
        exact tX7_makeRoom_87 X p1 p2 hR hK2 hK37 x3 x4 a5 h
      · have h := h.2 c6
        refine zb_aload_n X dX7_makeRoom_71 rfl 0 rfl ?_
        refine zb_iload X dX7_makeRoom_72 4 rfl ?_
        refine zb_iload_n X dX7_makeRoom_74 rfl 2 rfl ?_
        refine zb_callVi (n := 2) X 18 (zTC_lt (by decide)) 7 [6, 14, 4, 21, 22, 23, 0, 0, 0] rfl (C := RX7) (Tt := TX7) (N := 9) rfl h gX7_makeRoom_X7_sharesRest rfl (by decide +kernel) (by decide) rfl rfl (Nat.le_of_ble_eq_true rfl) dX7_makeRoom_75 (kc' := 0) (ks' := 0) rfl rfl (fun q7 a7 h => ?_)
        refine zb_if_eq X 87 dX7_makeRoom_78 (by decide) (fun c8 => ?_) (fun c8 => ?_)
        · have h := h.1 c8
          refine zb_sub [0, 1, 2, 3, 4] rfl ?_
          exact tX7_makeRoom_87 X p1 p2 hR hK2 hK37 x3 x4 a7 h
        · have h := h.2 c8
          refine zb_aload_n X dX7_makeRoom_81 rfl 0 rfl ?_
          refine zb_iload X dX7_makeRoom_82 4 rfl ?_
          refine zb_callVv (n := 1) X 18 (zTC_lt (by decide)) 7 [6, 14, 4, 21, 22, 23, 0, 0, 0] rfl (C := RX7) (Tt := TX7) (N := 9) rfl h gX7_makeRoom_X7_drop rfl (by decide +kernel) (by decide) rfl rfl (Nat.le_of_ble_eq_true rfl) dX7_makeRoom_84 (kc' := 0) (ks' := 0) rfl rfl (fun a9 h => ?_)
          refine zb_sub [0, 1, 2, 3, 4] rfl ?_
          exact tX7_makeRoom_87 X p1 p2 hR hK2 hK37 x3 x4 a9 h
theorem uX7_makeRoom_0 {G : zG} {Z : zC} {r : Bool} {ad ln : Nat → Nat} (X : zX G Z cX7_makeRoom 5 RX7 wsX7_makeRoom) (p1 : Int32) (p2 : Int32) {post : (Nat → Nat → Int32) → Prop} (hR : zRv G Z rmX7_makeRoom 5 (zTC r) ad ln cX7_makeRoom post) (al : Nat → Nat → Int32) (h : vcX7_makeRoom_0 G r ad ln p1 p2 (BX7_makeRoom_2 G Z r ad ln p1 p2) (BX7_makeRoom_37 G Z r ad ln p1 p2) post  al) : zB G Z rmX7_makeRoom 5 (zTC r) ad ln 0 0 0 [(0, .ref (ad 18)), (1, .int p1), (2, .int p2)] [] al := tX7_makeRoom_0 X p1 p2 hR (fun _ _ h => h) (fun _ _ _ h => h)  al h
theorem uX7_makeRoom_93 {G : zG} {Z : zC} {r : Bool} {ad ln : Nat → Nat} (X : zX G Z cX7_makeRoom 5 RX7 wsX7_makeRoom) (p1 : Int32) (p2 : Int32) {post : (Nat → Nat → Int32) → Prop} (hR : zRv G Z rmX7_makeRoom 5 (zTC r) ad ln cX7_makeRoom post) (x3 : Int32) (al : Nat → Nat → Int32) (h : vcX7_makeRoom_93 G r ad ln p1 p2 (BX7_makeRoom_2 G Z r ad ln p1 p2) (BX7_makeRoom_37 G Z r ad ln p1 p2) post x3 al) : zB G Z rmX7_makeRoom 5 (zTC r) ad ln 0 0 93 [(0, .ref (ad 18)), (1, .int p1), (2, .int p2), (3, .int x3)] [] al := tX7_makeRoom_93 X p1 p2 hR (fun _ _ h => h) (fun _ _ _ h => h) x3 al h
theorem uX7_makeRoom_2 {G : zG} {Z : zC} {r : Bool} {ad ln : Nat → Nat} (X : zX G Z cX7_makeRoom 5 RX7 wsX7_makeRoom) (p1 : Int32) (p2 : Int32) {post : (Nat → Nat → Int32) → Prop} (hR : zRv G Z rmX7_makeRoom 5 (zTC r) ad ln cX7_makeRoom post) (x3 : Int32) (al : Nat → Nat → Int32) (h : vcX7_makeRoom_2 G r ad ln p1 p2 (BX7_makeRoom_2 G Z r ad ln p1 p2) (BX7_makeRoom_37 G Z r ad ln p1 p2) post x3 al) : zB G Z rmX7_makeRoom 5 (zTC r) ad ln 0 0 2 [(0, .ref (ad 18)), (1, .int p1), (2, .int p2), (3, .int x3)] [] al := tX7_makeRoom_2 X p1 p2 hR (fun _ _ h => h) (fun _ _ _ h => h) x3 al h
theorem uX7_makeRoom_87 {G : zG} {Z : zC} {r : Bool} {ad ln : Nat → Nat} (X : zX G Z cX7_makeRoom 5 RX7 wsX7_makeRoom) (p1 : Int32) (p2 : Int32) {post : (Nat → Nat → Int32) → Prop} (hR : zRv G Z rmX7_makeRoom 5 (zTC r) ad ln cX7_makeRoom post) (x3 x4 : Int32) (al : Nat → Nat → Int32) (h : vcX7_makeRoom_87 G r ad ln p1 p2 (BX7_makeRoom_2 G Z r ad ln p1 p2) (BX7_makeRoom_37 G Z r ad ln p1 p2) post x3 x4 al) : zB G Z rmX7_makeRoom 5 (zTC r) ad ln 0 0 87 [(0, .ref (ad 18)), (1, .int p1), (2, .int p2), (3, .int x3), (4, .int x4)] [] al := tX7_makeRoom_87 X p1 p2 hR (fun _ _ h => h) (fun _ _ _ h => h) x3 x4 al h
theorem uX7_makeRoom_37 {G : zG} {Z : zC} {r : Bool} {ad ln : Nat → Nat} (X : zX G Z cX7_makeRoom 5 RX7 wsX7_makeRoom) (p1 : Int32) (p2 : Int32) {post : (Nat → Nat → Int32) → Prop} (hR : zRv G Z rmX7_makeRoom 5 (zTC r) ad ln cX7_makeRoom post) (x3 x4 : Int32) (al : Nat → Nat → Int32) (h : vcX7_makeRoom_37 G r ad ln p1 p2 (BX7_makeRoom_2 G Z r ad ln p1 p2) (BX7_makeRoom_37 G Z r ad ln p1 p2) post x3 x4 al) : zB G Z rmX7_makeRoom 5 (zTC r) ad ln 0 0 37 [(0, .ref (ad 18)), (1, .int p1), (2, .int p2), (3, .int x3), (4, .int x4)] [] al := tX7_makeRoom_37 X p1 p2 hR (fun _ _ h => h) (fun _ _ _ h => h) x3 x4 al h

abbrev rmX7_boundOf : Room := { frames := 0, cells := 0, slots := 0, locals := 0 }
theorem kX7_boundOf_0 : Cond.fieldLink RX7 9 RX7 "cycle" "[I" ∈ wsX7_boundOf := by decide +kernel
theorem kX7_boundOf_1 : zIn RX7 TX7 9 wsX7_boundOf := by decide +kernel
theorem kX7_boundOf_2 : Cond.fieldLink RX7 25 RX7 "waits" "LLoopForge$Waits;" ∈ wsX7_boundOf := by decide +kernel
theorem kX7_boundOf_3 : Cond.fieldLink RX7 85 RX8 "from" "[I" ∈ wsX7_boundOf := by decide +kernel
theorem kX7_boundOf_4 : zIn RX8 TX8 10 wsX7_boundOf := by decide +kernel
theorem kX7_boundOf_5 : Cond.fieldLink RX7 99 RX8 "delay" "[I" ∈ wsX7_boundOf := by decide +kernel
theorem kX7_boundOf_6 : Cond.fieldLink RX7 102 RX8 "over" "[I" ∈ wsX7_boundOf := by decide +kernel
theorem kX7_boundOf_7 : Cond.fieldLink RX7 32 RX7 "distance" "I" ∈ wsX7_boundOf := by decide +kernel
def vcX7_boundOf_0 (G : zG) (r : Bool) (ad ln : Nat → Nat) (p1 : Int32)  (post : Int32 → (Nat → Nat → Int32) → Prop) (al : Nat → Nat → Int32) : Prop :=
  (vp_in p1 (ln 13) ∧ vp_in (al 13 p1.toNatClampNeg) 48 ∧ vp_in p1 (ln 16) ∧ vp_in p1 (ln 15) ∧ post (((al 19 ((al 13 p1.toNatClampNeg).toNatClampNeg)) + (al 16 p1.toNatClampNeg)) - ((al 15 p1.toNatClampNeg) * (al 18 6))) al)
set_option maxRecDepth 20000 in
theorem tX7_boundOf_0 {G : zG} {Z : zC} {r : Bool} {ad ln : Nat → Nat} (X : zX G Z cX7_boundOf 2 RX7 wsX7_boundOf) (p1 : Int32)  {post : Int32 → (Nat → Nat → Int32) → Prop} (hR : zRi G Z rmX7_boundOf 2 (zTC r) ad ln cX7_boundOf .int post)  (al : Nat → Nat → Int32) (h : vcX7_boundOf_0 G r ad ln p1  post  al) : zB G Z rmX7_boundOf 2 (zTC r) ad ln 0 0 0 [(0, .ref (ad 18)), (1, .int p1)] [] al := by
  unfold vcX7_boundOf_0 at h
  refine zb_aload_n X dX7_boundOf_0 rfl 0 rfl ?_
  refine zb_getR X 18 (zTC_lt (by decide)) 7 [6, 14, 4, 21, 22, 23, 0, 0, 0] rfl (C := RX7) (Tt := TX7) (N := 9) rfl kX7_boundOf_1 3 (by decide) 19 rfl kX7_boundOf_0 rfl dX7_boundOf_1 ?_
  refine zb_aload_n X dX7_boundOf_4 rfl 0 rfl ?_
  refine zb_getR X 18 (zTC_lt (by decide)) 7 [6, 14, 4, 21, 22, 23, 0, 0, 0] rfl (C := RX7) (Tt := TX7) (N := 9) rfl kX7_boundOf_1 1 (by decide) 12 rfl kX7_boundOf_2 rfl dX7_boundOf_5 ?_
  refine zb_getR X 12 (zTC_lt (by decide)) 8 [6, 4, 0, 15, 16, 17, 18, 19, 0, 0] rfl (C := RX8) (Tt := TX8) (N := 10) rfl kX7_boundOf_4 3 (by decide) 13 rfl kX7_boundOf_3 rfl dX7_boundOf_8 ?_
  refine zb_iload_n X dX7_boundOf_11 rfl 1 rfl ?_
  obtain ⟨hz, h⟩ := h
  refine zb_iald X 13 (zTC_lt (by decide)) 2 0 0 0 rfl (Or.inr rfl) p1.toNatClampNeg rfl hz dX7_boundOf_12 (al 13 p1.toNatClampNeg) rfl ?_
  obtain ⟨hz, h⟩ := h
  refine zb_iald X 19 (zTC_lt (by decide)) 1 48 0 0 rfl (Or.inl rfl) ((al 13 p1.toNatClampNeg).toNatClampNeg) rfl hz dX7_boundOf_13 (al 19 ((al 13 p1.toNatClampNeg).toNatClampNeg)) rfl ?_
  refine zb_aload_n X dX7_boundOf_14 rfl 0 rfl ?_
  refine zb_getR X 18 (zTC_lt (by decide)) 7 [6, 14, 4, 21, 22, 23, 0, 0, 0] rfl (C := RX7) (Tt := TX7) (N := 9) rfl kX7_boundOf_1 1 (by decide) 12 rfl kX7_boundOf_2 rfl dX7_boundOf_15 ?_
  refine zb_getR X 12 (zTC_lt (by decide)) 8 [6, 4, 0, 15, 16, 17, 18, 19, 0, 0] rfl (C := RX8) (Tt := TX8) (N := 10) rfl kX7_boundOf_4 6 (by decide) 16 rfl kX7_boundOf_5 rfl dX7_boundOf_18 ?_
  refine zb_iload_n X dX7_boundOf_21 rfl 1 rfl ?_
  obtain ⟨hz, h⟩ := h
  refine zb_iald X 16 (zTC_lt (by decide)) 2 0 0 0 rfl (Or.inr rfl) p1.toNatClampNeg rfl hz dX7_boundOf_22 (al 16 p1.toNatClampNeg) rfl ?_
  refine zb_iadd X dX7_boundOf_23 ?_
  refine zb_aload_n X dX7_boundOf_24 rfl 0 rfl ?_
  refine zb_getR X 18 (zTC_lt (by decide)) 7 [6, 14, 4, 21, 22, 23, 0, 0, 0] rfl (C := RX7) (Tt := TX7) (N := 9) rfl kX7_boundOf_1 1 (by decide) 12 rfl kX7_boundOf_2 rfl dX7_boundOf_25 ?_
  refine zb_getR X 12 (zTC_lt (by decide)) 8 [6, 4, 0, 15, 16, 17, 18, 19, 0, 0] rfl (C := RX8) (Tt := TX8) (N := 10) rfl kX7_boundOf_4 5 (by decide) 15 rfl kX7_boundOf_6 rfl dX7_boundOf_28 ?_
  refine zb_iload_n X dX7_boundOf_31 rfl 1 rfl ?_
  obtain ⟨hz, h⟩ := h
  refine zb_iald X 15 (zTC_lt (by decide)) 2 0 0 0 rfl (Or.inr rfl) p1.toNatClampNeg rfl hz dX7_boundOf_32 (al 15 p1.toNatClampNeg) rfl ?_
  refine zb_aload_n X dX7_boundOf_33 rfl 0 rfl ?_
  refine zb_getI X 18 (zTC_lt (by decide)) 7 [6, 14, 4, 21, 22, 23, 0, 0, 0] rfl (C := RX7) (Tt := TX7) (N := 9) rfl kX7_boundOf_1 6 (by decide) rfl kX7_boundOf_7 rfl dX7_boundOf_34 (al 18 6) rfl ?_
  refine zb_imul X dX7_boundOf_37 ?_
  refine zb_isub X dX7_boundOf_38 ?_
  exact hR 39 _ _ _ dX7_boundOf_39 rfl h

abbrev rmX7_earliestOf : Room := { frames := 1, cells := 0, slots := 0, locals := 21 }
theorem kX7_earliestOf_0 : Cond.fieldLink RX7 25 RX7 "waits" "LLoopForge$Waits;" ∈ wsX7_earliestOf := by decide +kernel
theorem kX7_earliestOf_1 : zIn RX7 TX7 9 wsX7_earliestOf := by decide +kernel
theorem kX7_earliestOf_2 : Cond.fieldLink RX7 84 RX8 "size" "I" ∈ wsX7_earliestOf := by decide +kernel
theorem kX7_earliestOf_3 : zIn RX8 TX8 10 wsX7_earliestOf := by decide +kernel
theorem kX7_earliestOf_4 : Cond.fieldLink RX7 85 RX8 "from" "[I" ∈ wsX7_earliestOf := by decide +kernel
theorem kX7_earliestOf_5 : Cond.fieldLink RX7 88 RX8 "to" "[I" ∈ wsX7_earliestOf := by decide +kernel
theorem kX7_earliestOf_6 : Cond.fieldLink RX7 9 RX7 "cycle" "[I" ∈ wsX7_earliestOf := by decide +kernel
theorem kX7_earliestOf_7 : Cond.methodLink RX7 94 Lib.Math.max.name ∈ wsX7_earliestOf := by decide +kernel
theorem kX7_earliestOf_8 : Cond.static Lib.Math.max.name ∈ wsX7_earliestOf := by decide +kernel
theorem kX7_earliestOf_9 : Cond.initialized "java/lang/Math" ∈ wsX7_earliestOf := by decide +kernel
theorem kX7_earliestOf_10 : Cond.code Lib.Math.max.name Lib.Math.max.code 2 (some .int) ∈ wsX7_earliestOf := by decide +kernel
abbrev BX7_earliestOf_4 (G : zG) (Z : zC) (r : Bool) (ad ln : Nat → Nat) (p1 : Int32) (x2 x3 : Int32) (al : Nat → Nat → Int32) : Prop := zB G Z rmX7_earliestOf 5 (zTC r) ad ln 0 0 4 [(0, .ref (ad 18)), (1, .int p1), (2, .int x2), (3, .int x3)] [] al
def vcX7_earliestOf_0 (G : zG) (r : Bool) (ad ln : Nat → Nat) (p1 : Int32) (K4 : Int32 → Int32 → (Nat → Nat → Int32) → Prop) (post : Int32 → (Nat → Nat → Int32) → Prop) (al : Nat → Nat → Int32) : Prop :=
  K4 (0 : Int32) (0 : Int32) al
def vcX7_earliestOf_66 (G : zG) (r : Bool) (ad ln : Nat → Nat) (p1 : Int32) (K4 : Int32 → Int32 → (Nat → Nat → Int32) → Prop) (post : Int32 → (Nat → Nat → Int32) → Prop) (x2 x3 : Int32) (al : Nat → Nat → Int32) : Prop :=
  K4 x2 (x3 + (1 : Int32)) al
def vcX7_earliestOf_4 (G : zG) (r : Bool) (ad ln : Nat → Nat) (p1 : Int32) (K4 : Int32 → Int32 → (Nat → Nat → Int32) → Prop) (post : Int32 → (Nat → Nat → Int32) → Prop) (x2 x3 : Int32) (al : Nat → Nat → Int32) : Prop :=
  ((al 12 2) ≤ x3 → post x2 al) ∧ (¬ (al 12 2) ≤ x3 → (vp_in x3 (ln 13) ∧ vp_in x3 (ln 14) ∧ (¬ (al 14 x3.toNatClampNeg) = p1 → vcX7_earliestOf_66 G r ad ln p1 K4 post x2 x3 al) ∧ ((al 14 x3.toNatClampNeg) = p1 → ((al 13 x3.toNatClampNeg) = p1 → vcX7_earliestOf_66 G r ad ln p1 K4 post x2 x3 al) ∧ (¬ (al 13 x3.toNatClampNeg) = p1 → (vp_in (al 13 x3.toNatClampNeg) 48 ∧ ((al 19 ((al 13 x3.toNatClampNeg).toNatClampNeg)) = (-1 : Int32) → vcX7_earliestOf_66 G r ad ln p1 K4 post x2 x3 al) ∧ (¬ (al 19 ((al 13 x3.toNatClampNeg).toNatClampNeg)) = (-1 : Int32) → zMi G yX7_boundOf wsX7_boundOf rmX7_boundOf (zTC r) ad ln [.ref (ad 18), .int x3] al (fun q5 a5 => vcX7_earliestOf_66 G r ad ln p1 K4 post (if x2 < q5 then q5 else x2) x3 a5)))))))
set_option maxRecDepth 20000 in
theorem tX7_earliestOf_0 {G : zG} {Z : zC} {r : Bool} {ad ln : Nat → Nat} (X : zX G Z cX7_earliestOf 5 RX7 wsX7_earliestOf) (p1 : Int32) {K4 : Int32 → Int32 → (Nat → Nat → Int32) → Prop} {post : Int32 → (Nat → Nat → Int32) → Prop} (hR : zRi G Z rmX7_earliestOf 5 (zTC r) ad ln cX7_earliestOf .int post) (hK4 : ∀ x2 x3 : Int32, ∀ al, K4 x2 x3 al → zB G Z rmX7_earliestOf 5 (zTC r) ad ln 0 0 4 [(0, .ref (ad 18)), (1, .int p1), (2, .int x2), (3, .int x3)] [] al) (al : Nat → Nat → Int32) (h : vcX7_earliestOf_0 G r ad ln p1 K4 post  al) : zB G Z rmX7_earliestOf 5 (zTC r) ad ln 0 0 0 [(0, .ref (ad 18)), (1, .int p1)] [] al := by
  unfold vcX7_earliestOf_0 at h
  refine zb_iconst X (0 : Int32) dX7_earliestOf_0 (by decide) ?_
  refine zb_istore_n X (lv' := [(2, .int (0 : Int32)), (0, .ref (ad 18)), (1, .int p1)]) dX7_earliestOf_1 rfl (by decide) rfl ?_
  refine zb_iconst X (0 : Int32) dX7_earliestOf_2 (by decide) ?_
  refine zb_istore_n X (lv' := [(3, .int (0 : Int32)), (2, .int (0 : Int32)), (0, .ref (ad 18)), (1, .int p1)]) dX7_earliestOf_3 rfl (by decide) rfl ?_
  refine zb_sub [2, 3, 1, 0] rfl ?_
  exact hK4 (0 : Int32) (0 : Int32) al h
set_option maxRecDepth 20000 in
theorem tX7_earliestOf_66 {G : zG} {Z : zC} {r : Bool} {ad ln : Nat → Nat} (X : zX G Z cX7_earliestOf 5 RX7 wsX7_earliestOf) (p1 : Int32) {K4 : Int32 → Int32 → (Nat → Nat → Int32) → Prop} {post : Int32 → (Nat → Nat → Int32) → Prop} (hR : zRi G Z rmX7_earliestOf 5 (zTC r) ad ln cX7_earliestOf .int post) (hK4 : ∀ x2 x3 : Int32, ∀ al, K4 x2 x3 al → zB G Z rmX7_earliestOf 5 (zTC r) ad ln 0 0 4 [(0, .ref (ad 18)), (1, .int p1), (2, .int x2), (3, .int x3)] [] al) (x2 x3 : Int32) (al : Nat → Nat → Int32) (h : vcX7_earliestOf_66 G r ad ln p1 K4 post x2 x3 al) : zB G Z rmX7_earliestOf 5 (zTC r) ad ln 0 0 66 [(0, .ref (ad 18)), (1, .int p1), (2, .int x2), (3, .int x3)] [] al := by
  unfold vcX7_earliestOf_66 at h
  refine zb_iinc X (lv' := [(3, .int (x3 + (1 : Int32))), (0, .ref (ad 18)), (1, .int p1), (2, .int x2)]) (x3 + (1 : Int32)) dX7_earliestOf_66 3 rfl rfl (by decide) rfl ?_
  refine zb_goto X 4 dX7_earliestOf_69 (by decide) ?_
  refine zb_sub [1, 2, 3, 0] rfl ?_
  exact hK4 x2 (x3 + (1 : Int32)) al h
set_option maxRecDepth 20000 in
theorem tX7_earliestOf_4 {G : zG} {Z : zC} {r : Bool} {ad ln : Nat → Nat} (X : zX G Z cX7_earliestOf 5 RX7 wsX7_earliestOf) (p1 : Int32) {K4 : Int32 → Int32 → (Nat → Nat → Int32) → Prop} {post : Int32 → (Nat → Nat → Int32) → Prop} (hR : zRi G Z rmX7_earliestOf 5 (zTC r) ad ln cX7_earliestOf .int post) (hK4 : ∀ x2 x3 : Int32, ∀ al, K4 x2 x3 al → zB G Z rmX7_earliestOf 5 (zTC r) ad ln 0 0 4 [(0, .ref (ad 18)), (1, .int p1), (2, .int x2), (3, .int x3)] [] al) (x2 x3 : Int32) (al : Nat → Nat → Int32) (h : vcX7_earliestOf_4 G r ad ln p1 K4 post x2 x3 al) : zB G Z rmX7_earliestOf 5 (zTC r) ad ln 0 0 4 [(0, .ref (ad 18)), (1, .int p1), (2, .int x2), (3, .int x3)] [] al := by
  unfold vcX7_earliestOf_4 at h
  refine zb_iload_n X dX7_earliestOf_4 rfl 3 rfl ?_
  refine zb_aload_n X dX7_earliestOf_5 rfl 0 rfl ?_
  refine zb_getR X 18 (zTC_lt (by decide)) 7 [6, 14, 4, 21, 22, 23, 0, 0, 0] rfl (C := RX7) (Tt := TX7) (N := 9) rfl kX7_earliestOf_1 1 (by decide) 12 rfl kX7_earliestOf_0 rfl dX7_earliestOf_6 ?_
  refine zb_getI X 12 (zTC_lt (by decide)) 8 [6, 4, 0, 15, 16, 17, 18, 19, 0, 0] rfl (C := RX8) (Tt := TX8) (N := 10) rfl kX7_earliestOf_3 2 (by decide) rfl kX7_earliestOf_2 rfl dX7_earliestOf_9 (al 12 2) rfl ?_
  refine zb_icmp_ge X 72 dX7_earliestOf_12 (by decide) (fun c1 => ?_) (fun c1 => ?_)
  · have h := h.1 c1
    refine zb_iload_n X dX7_earliestOf_72 rfl 2 rfl ?_
    exact hR 73 _ _ _ dX7_earliestOf_73 rfl h
  · have h := h.2 c1
    refine zb_aload_n X dX7_earliestOf_15 rfl 0 rfl ?_
    refine zb_getR X 18 (zTC_lt (by decide)) 7 [6, 14, 4, 21, 22, 23, 0, 0, 0] rfl (C := RX7) (Tt := TX7) (N := 9) rfl kX7_earliestOf_1 1 (by decide) 12 rfl kX7_earliestOf_0 rfl dX7_earliestOf_16 ?_
    refine zb_getR X 12 (zTC_lt (by decide)) 8 [6, 4, 0, 15, 16, 17, 18, 19, 0, 0] rfl (C := RX8) (Tt := TX8) (N := 10) rfl kX7_earliestOf_3 3 (by decide) 13 rfl kX7_earliestOf_4 rfl dX7_earliestOf_19 ?_
    refine zb_iload_n X dX7_earliestOf_22 rfl 3 rfl ?_
    obtain ⟨hz, h⟩ := h
    refine zb_iald X 13 (zTC_lt (by decide)) 2 0 0 0 rfl (Or.inr rfl) x3.toNatClampNeg rfl hz dX7_earliestOf_23 (al 13 x3.toNatClampNeg) rfl ?_
    refine zb_istore X (lv' := [(4, .int (al 13 x3.toNatClampNeg)), (0, .ref (ad 18)), (1, .int p1), (2, .int x2), (3, .int x3)]) dX7_earliestOf_24 (by decide) rfl ?_
    refine zb_aload_n X dX7_earliestOf_26 rfl 1 rfl ?_
    refine zb_getR X 18 (zTC_lt (by decide)) 7 [6, 14, 4, 21, 22, 23, 0, 0, 0] rfl (C := RX7) (Tt := TX7) (N := 9) rfl kX7_earliestOf_1 1 (by decide) 12 rfl kX7_earliestOf_0 rfl dX7_earliestOf_27 ?_
    refine zb_getR X 12 (zTC_lt (by decide)) 8 [6, 4, 0, 15, 16, 17, 18, 19, 0, 0] rfl (C := RX8) (Tt := TX8) (N := 10) rfl kX7_earliestOf_3 4 (by decide) 14 rfl kX7_earliestOf_5 rfl dX7_earliestOf_30 ?_
    refine zb_iload_n X dX7_earliestOf_33 rfl 4 rfl ?_
    obtain ⟨hz, h⟩ := h
    refine zb_iald X 14 (zTC_lt (by decide)) 2 0 0 0 rfl (Or.inr rfl) x3.toNatClampNeg rfl hz dX7_earliestOf_34 (al 14 x3.toNatClampNeg) rfl ?_
    refine zb_iload_n X dX7_earliestOf_35 rfl 2 rfl ?_
    refine zb_icmp_ne X 66 dX7_earliestOf_36 (by decide) (fun c2 => ?_) (fun c2 => ?_)
    · have h := h.1 c2
      refine zb_sub [1, 2, 3, 4] rfl ?_
      exact tX7_earliestOf_66 X p1 hR hK4 x2 x3 al h
    · have h := h.2 c2
      refine zb_iload X dX7_earliestOf_39 0 rfl ?_
      refine zb_iload_n X dX7_earliestOf_41 rfl 2 rfl ?_
      refine zb_icmp_eq X 66 dX7_earliestOf_42 (by decide) (fun c3 => ?_) (fun c3 => ?_)
      · have h := h.1 c3
        refine zb_sub [1, 2, 3, 4] rfl ?_
        exact tX7_earliestOf_66 X p1 hR hK4 x2 x3 al h
      · have h := h.2 c3
        refine zb_aload_n X dX7_earliestOf_45 rfl 1 rfl ?_
        refine zb_getR X 18 (zTC_lt (by decide)) 7 [6, 14, 4, 21, 22, 23, 0, 0, 0] rfl (C := RX7) (Tt := TX7) (N := 9) rfl kX7_earliestOf_1 3 (by decide) 19 rfl kX7_earliestOf_6 rfl dX7_earliestOf_46 ?_
        refine zb_iload X dX7_earliestOf_49 0 rfl ?_
        obtain ⟨hz, h⟩ := h
        refine zb_iald X 19 (zTC_lt (by decide)) 1 48 0 0 rfl (Or.inl rfl) ((al 13 x3.toNatClampNeg).toNatClampNeg) rfl hz dX7_earliestOf_51 (al 19 ((al 13 x3.toNatClampNeg).toNatClampNeg)) rfl ?_
        refine zb_iconst X (-1 : Int32) dX7_earliestOf_52 (by decide) ?_
        refine zb_icmp_eq X 66 dX7_earliestOf_53 (by decide) (fun c4 => ?_) (fun c4 => ?_)
        · have h := h.1 c4
          refine zb_sub [1, 2, 3, 4] rfl ?_
          exact tX7_earliestOf_66 X p1 hR hK4 x2 x3 al h
        · have h := h.2 c4
          refine zb_iload_n X dX7_earliestOf_56 rfl 3 rfl ?_
          refine zb_aload_n X dX7_earliestOf_57 rfl 1 rfl ?_
          refine zb_iload_n X dX7_earliestOf_58 rfl 4 rfl ?_
          refine zb_callVi (n := 1) X 18 (zTC_lt (by decide)) 7 [6, 14, 4, 21, 22, 23, 0, 0, 0] rfl (C := RX7) (Tt := TX7) (N := 9) rfl h gX7_earliestOf_X7_boundOf rfl (by decide +kernel) (by decide) rfl rfl (Nat.le_of_ble_eq_true rfl) dX7_earliestOf_59 (kc' := 0) (ks' := 0) rfl rfl (fun q5 a5 h => ?_)
          refine zb_mmax X kX7_earliestOf_7 kX7_earliestOf_8 kX7_earliestOf_9 kX7_earliestOf_10 ⟨⟨Nat.le_of_ble_eq_true rfl, Nat.le_of_ble_eq_true rfl⟩, Nat.le_of_ble_eq_true rfl, Nat.le_of_ble_eq_true rfl⟩ dX7_earliestOf_62 ?_
          refine zb_istore_n X (lv' := [(2, .int (if x2 < q5 then q5 else x2)), (4, .int (al 13 x3.toNatClampNeg)), (0, .ref (ad 18)), (1, .int p1), (3, .int x3)]) dX7_earliestOf_65 rfl (by decide) rfl ?_
          refine zb_sub [2, 3, 0, 4] rfl ?_
          exact tX7_earliestOf_66 X p1 hR hK4 (if x2 < q5 then q5 else x2) x3 a5 h
theorem uX7_earliestOf_0 {G : zG} {Z : zC} {r : Bool} {ad ln : Nat → Nat} (X : zX G Z cX7_earliestOf 5 RX7 wsX7_earliestOf) (p1 : Int32) {post : Int32 → (Nat → Nat → Int32) → Prop} (hR : zRi G Z rmX7_earliestOf 5 (zTC r) ad ln cX7_earliestOf .int post) (al : Nat → Nat → Int32) (h : vcX7_earliestOf_0 G r ad ln p1 (BX7_earliestOf_4 G Z r ad ln p1) post  al) : zB G Z rmX7_earliestOf 5 (zTC r) ad ln 0 0 0 [(0, .ref (ad 18)), (1, .int p1)] [] al := tX7_earliestOf_0 X p1 hR (fun _ _ _ h => h)  al h
theorem uX7_earliestOf_66 {G : zG} {Z : zC} {r : Bool} {ad ln : Nat → Nat} (X : zX G Z cX7_earliestOf 5 RX7 wsX7_earliestOf) (p1 : Int32) {post : Int32 → (Nat → Nat → Int32) → Prop} (hR : zRi G Z rmX7_earliestOf 5 (zTC r) ad ln cX7_earliestOf .int post) (x2 x3 : Int32) (al : Nat → Nat → Int32) (h : vcX7_earliestOf_66 G r ad ln p1 (BX7_earliestOf_4 G Z r ad ln p1) post x2 x3 al) : zB G Z rmX7_earliestOf 5 (zTC r) ad ln 0 0 66 [(0, .ref (ad 18)), (1, .int p1), (2, .int x2), (3, .int x3)] [] al := tX7_earliestOf_66 X p1 hR (fun _ _ _ h => h) x2 x3 al h
theorem uX7_earliestOf_4 {G : zG} {Z : zC} {r : Bool} {ad ln : Nat → Nat} (X : zX G Z cX7_earliestOf 5 RX7 wsX7_earliestOf) (p1 : Int32) {post : Int32 → (Nat → Nat → Int32) → Prop} (hR : zRi G Z rmX7_earliestOf 5 (zTC r) ad ln cX7_earliestOf .int post) (x2 x3 : Int32) (al : Nat → Nat → Int32) (h : vcX7_earliestOf_4 G r ad ln p1 (BX7_earliestOf_4 G Z r ad ln p1) post x2 x3 al) : zB G Z rmX7_earliestOf 5 (zTC r) ad ln 0 0 4 [(0, .ref (ad 18)), (1, .int p1), (2, .int x2), (3, .int x3)] [] al := tX7_earliestOf_4 X p1 hR (fun _ _ _ h => h) x2 x3 al h

abbrev rmX7_dropBroken : Room := { frames := 4, cells := 0, slots := 0, locals := 87 }
theorem kX7_dropBroken_0 : Cond.fieldLink RX7 25 RX7 "waits" "LLoopForge$Waits;" ∈ wsX7_dropBroken := by decide +kernel
theorem kX7_dropBroken_1 : zIn RX7 TX7 9 wsX7_dropBroken := by decide +kernel
theorem kX7_dropBroken_2 : Cond.fieldLink RX7 84 RX8 "size" "I" ∈ wsX7_dropBroken := by decide +kernel
theorem kX7_dropBroken_3 : zIn RX8 TX8 10 wsX7_dropBroken := by decide +kernel
theorem kX7_dropBroken_4 : Cond.fieldLink RX7 85 RX8 "from" "[I" ∈ wsX7_dropBroken := by decide +kernel
theorem kX7_dropBroken_5 : Cond.fieldLink RX7 88 RX8 "to" "[I" ∈ wsX7_dropBroken := by decide +kernel
theorem kX7_dropBroken_6 : Cond.fieldLink RX7 9 RX7 "cycle" "[I" ∈ wsX7_dropBroken := by decide +kernel
abbrev BX7_dropBroken_2 (G : zG) (Z : zC) (r : Bool) (ad ln : Nat → Nat) (p1 : Int32) (x2 : Int32) (al : Nat → Nat → Int32) : Prop := zB G Z rmX7_dropBroken 5 (zTC r) ad ln 0 0 2 [(0, .ref (ad 18)), (1, .int p1), (2, .int x2)] [] al
def vcX7_dropBroken_0 (G : zG) (r : Bool) (ad ln : Nat → Nat) (p1 : Int32) (K2 : Int32 → (Nat → Nat → Int32) → Prop) (post : (Nat → Nat → Int32) → Prop) (al : Nat → Nat → Int32) : Prop :=
  K2 (0 : Int32) al
def vcX7_dropBroken_105 (G : zG) (r : Bool) (ad ln : Nat → Nat) (p1 : Int32) (K2 : Int32 → (Nat → Nat → Int32) → Prop) (post : (Nat → Nat → Int32) → Prop) (x2 : Int32) (al : Nat → Nat → Int32) : Prop :=
  K2 (x2 + (1 : Int32)) al
def vcX7_dropBroken_102 (G : zG) (r : Bool) (ad ln : Nat → Nat) (p1 : Int32) (K2 : Int32 → (Nat → Nat → Int32) → Prop) (post : (Nat → Nat → Int32) → Prop) (x2 s0 : Int32) (al : Nat → Nat → Int32) : Prop :=
  zMv G yX7_drop wsX7_drop rmX7_drop (zTC r) ad ln [.ref (ad 18), .int s0] al (fun a1 => vcX7_dropBroken_105 G r ad ln p1 K2 post x2 a1)
def vcX7_dropBroken_54 (G : zG) (r : Bool) (ad ln : Nat → Nat) (p1 : Int32) (K2 : Int32 → (Nat → Nat → Int32) → Prop) (post : (Nat → Nat → Int32) → Prop) (x2 x3 x4 : Int32) (al : Nat → Nat → Int32) : Prop :=
  (vp_in x3 48 ∧ ((al 19 x3.toNatClampNeg) = (-1 : Int32) → vcX7_dropBroken_105 G r ad ln p1 K2 post x2 al) ∧ (¬ (al 19 x3.toNatClampNeg) = (-1 : Int32) → (vp_in x4 48 ∧ ((al 19 x4.toNatClampNeg) = (-1 : Int32) → vcX7_dropBroken_105 G r ad ln p1 K2 post x2 al) ∧ (¬ (al 19 x4.toNatClampNeg) = (-1 : Int32) → (vp_in x4 48 ∧ zMi G yX7_boundOf wsX7_boundOf rmX7_boundOf (zTC r) ad ln [.ref (ad 18), .int x2] al (fun q3 a3 => (q3 ≤ (al 19 x4.toNatClampNeg) → vcX7_dropBroken_105 G r ad ln p1 K2 post x2 a3) ∧ (¬ q3 ≤ (al 19 x4.toNatClampNeg) → (¬ x3 = p1 → vcX7_dropBroken_102 G r ad ln p1 K2 post x2 x3 a3) ∧ (x3 = p1 → vcX7_dropBroken_102 G r ad ln p1 K2 post x2 x4 a3))))))))
def vcX7_dropBroken_2 (G : zG) (r : Bool) (ad ln : Nat → Nat) (p1 : Int32) (K2 : Int32 → (Nat → Nat → Int32) → Prop) (post : (Nat → Nat → Int32) → Prop) (x2 : Int32) (al : Nat → Nat → Int32) : Prop :=
  ((al 12 2) ≤ x2 → post al) ∧ (¬ (al 12 2) ≤ x2 → (vp_in x2 (ln 13) ∧ vp_in x2 (ln 14) ∧ ((al 13 x2.toNatClampNeg) = (al 14 x2.toNatClampNeg) → vcX7_dropBroken_105 G r ad ln p1 K2 post x2 al) ∧ (¬ (al 13 x2.toNatClampNeg) = (al 14 x2.toNatClampNeg) → ((al 13 x2.toNatClampNeg) = p1 → vcX7_dropBroken_54 G r ad ln p1 K2 post x2 (al 13 x2.toNatClampNeg) (al 14 x2.toNatClampNeg) al) ∧ (¬ (al 13 x2.toNatClampNeg) = p1 → ((al 14 x2.toNatClampNeg) = p1 → vcX7_dropBroken_54 G r ad ln p1 K2 post x2 (al 13 x2.toNatClampNeg) (al 14 x2.toNatClampNeg) al) ∧ (¬ (al 14 x2.toNatClampNeg) = p1 → vcX7_dropBroken_105 G r ad ln p1 K2 post x2 al)))))
set_option maxRecDepth 20000 in
theorem tX7_dropBroken_0 {G : zG} {Z : zC} {r : Bool} {ad ln : Nat → Nat} (X : zX G Z cX7_dropBroken 5 RX7 wsX7_dropBroken) (p1 : Int32) {K2 : Int32 → (Nat → Nat → Int32) → Prop} {post : (Nat → Nat → Int32) → Prop} (hR : zRv G Z rmX7_dropBroken 5 (zTC r) ad ln cX7_dropBroken post) (hK2 : ∀ x2 : Int32, ∀ al, K2 x2 al → zB G Z rmX7_dropBroken 5 (zTC r) ad ln 0 0 2 [(0, .ref (ad 18)), (1, .int p1), (2, .int x2)] [] al) (al : Nat → Nat → Int32) (h : vcX7_dropBroken_0 G r ad ln p1 K2 post  al) : zB G Z rmX7_dropBroken 5 (zTC r) ad ln 0 0 0 [(0, .ref (ad 18)), (1, .int p1)] [] al := by
  unfold vcX7_dropBroken_0 at h
  refine zb_iconst X (0 : Int32) dX7_dropBroken_0 (by decide) ?_
  refine zb_istore_n X (lv' := [(2, .int (0 : Int32)), (0, .ref (ad 18)), (1, .int p1)]) dX7_dropBroken_1 rfl (by decide) rfl ?_
  refine zb_sub [1, 2, 0] rfl ?_
  exact hK2 (0 : Int32) al h
set_option maxRecDepth 20000 in
theorem tX7_dropBroken_105 {G : zG} {Z : zC} {r : Bool} {ad ln : Nat → Nat} (X : zX G Z cX7_dropBroken 5 RX7 wsX7_dropBroken) (p1 : Int32) {K2 : Int32 → (Nat → Nat → Int32) → Prop} {post : (Nat → Nat → Int32) → Prop} (hR : zRv G Z rmX7_dropBroken 5 (zTC r) ad ln cX7_dropBroken post) (hK2 : ∀ x2 : Int32, ∀ al, K2 x2 al → zB G Z rmX7_dropBroken 5 (zTC r) ad ln 0 0 2 [(0, .ref (ad 18)), (1, .int p1), (2, .int x2)] [] al) (x2 : Int32) (al : Nat → Nat → Int32) (h : vcX7_dropBroken_105 G r ad ln p1 K2 post x2 al) : zB G Z rmX7_dropBroken 5 (zTC r) ad ln 0 0 105 [(0, .ref (ad 18)), (1, .int p1), (2, .int x2)] [] al := by
  unfold vcX7_dropBroken_105 at h
  refine zb_iinc X (lv' := [(2, .int (x2 + (1 : Int32))), (0, .ref (ad 18)), (1, .int p1)]) (x2 + (1 : Int32)) dX7_dropBroken_105 2 rfl rfl (by decide) rfl ?_
  refine zb_goto X 2 dX7_dropBroken_108 (by decide) ?_
  refine zb_sub [1, 2, 0] rfl ?_
  exact hK2 (x2 + (1 : Int32)) al h
set_option maxRecDepth 20000 in
theorem tX7_dropBroken_102 {G : zG} {Z : zC} {r : Bool} {ad ln : Nat → Nat} (X : zX G Z cX7_dropBroken 5 RX7 wsX7_dropBroken) (p1 : Int32) {K2 : Int32 → (Nat → Nat → Int32) → Prop} {post : (Nat → Nat → Int32) → Prop} (hR : zRv G Z rmX7_dropBroken 5 (zTC r) ad ln cX7_dropBroken post) (hK2 : ∀ x2 : Int32, ∀ al, K2 x2 al → zB G Z rmX7_dropBroken 5 (zTC r) ad ln 0 0 2 [(0, .ref (ad 18)), (1, .int p1), (2, .int x2)] [] al) (x2 s0 : Int32) (al : Nat → Nat → Int32) (h : vcX7_dropBroken_102 G r ad ln p1 K2 post x2 s0 al) : zB G Z rmX7_dropBroken 5 (zTC r) ad ln 0 0 102 [(0, .ref (ad 18)), (1, .int p1), (2, .int x2)] [.int s0, .ref (ad 18)] al := by
  unfold vcX7_dropBroken_102 at h
  refine zb_callVv (n := 1) X 18 (zTC_lt (by decide)) 7 [6, 14, 4, 21, 22, 23, 0, 0, 0] rfl (C := RX7) (Tt := TX7) (N := 9) rfl h gX7_dropBroken_X7_drop rfl (by decide +kernel) (by decide) rfl rfl (Nat.le_of_ble_eq_true rfl) dX7_dropBroken_102 (kc' := 0) (ks' := 0) rfl rfl (fun a1 h => ?_)
  refine zb_sub [0, 1, 2] rfl ?_
  exact tX7_dropBroken_105 X p1 hR hK2 x2 a1 h
set_option maxRecDepth 20000 in
theorem tX7_dropBroken_54 {G : zG} {Z : zC} {r : Bool} {ad ln : Nat → Nat} (X : zX G Z cX7_dropBroken 5 RX7 wsX7_dropBroken) (p1 : Int32) {K2 : Int32 → (Nat → Nat → Int32) → Prop} {post : (Nat → Nat → Int32) → Prop} (hR : zRv G Z rmX7_dropBroken 5 (zTC r) ad ln cX7_dropBroken post) (hK2 : ∀ x2 : Int32, ∀ al, K2 x2 al → zB G Z rmX7_dropBroken 5 (zTC r) ad ln 0 0 2 [(0, .ref (ad 18)), (1, .int p1), (2, .int x2)] [] al) (x2 x3 x4 : Int32) (al : Nat → Nat → Int32) (h : vcX7_dropBroken_54 G r ad ln p1 K2 post x2 x3 x4 al) : zB G Z rmX7_dropBroken 5 (zTC r) ad ln 0 0 54 [(0, .ref (ad 18)), (1, .int p1), (2, .int x2), (3, .int x3), (4, .int x4)] [] al := by
  unfold vcX7_dropBroken_54 at h
  refine zb_aload_n X dX7_dropBroken_54 rfl 0 rfl ?_
  refine zb_getR X 18 (zTC_lt (by decide)) 7 [6, 14, 4, 21, 22, 23, 0, 0, 0] rfl (C := RX7) (Tt := TX7) (N := 9) rfl kX7_dropBroken_1 3 (by decide) 19 rfl kX7_dropBroken_6 rfl dX7_dropBroken_55 ?_
  refine zb_iload_n X dX7_dropBroken_58 rfl 3 rfl ?_
  obtain ⟨hz, h⟩ := h
  refine zb_iald X 19 (zTC_lt (by decide)) 1 48 0 0 rfl (Or.inl rfl) x3.toNatClampNeg rfl hz dX7_dropBroken_59 (al 19 x3.toNatClampNeg) rfl ?_
  refine zb_iconst X (-1 : Int32) dX7_dropBroken_60 (by decide) ?_
  refine zb_icmp_eq X 105 dX7_dropBroken_61 (by decide) (fun c1 => ?_) (fun c1 => ?_)
  · have h := h.1 c1
    refine zb_sub [0, 1, 2] rfl ?_
    exact tX7_dropBroken_105 X p1 hR hK2 x2 al h
  · have h := h.2 c1
    refine zb_aload_n X dX7_dropBroken_64 rfl 0 rfl ?_
    refine zb_getR X 18 (zTC_lt (by decide)) 7 [6, 14, 4, 21, 22, 23, 0, 0, 0] rfl (C := RX7) (Tt := TX7) (N := 9) rfl kX7_dropBroken_1 3 (by decide) 19 rfl kX7_dropBroken_6 rfl dX7_dropBroken_65 ?_
    refine zb_iload X dX7_dropBroken_68 4 rfl ?_
    obtain ⟨hz, h⟩ := h
    refine zb_iald X 19 (zTC_lt (by decide)) 1 48 0 0 rfl (Or.inl rfl) x4.toNatClampNeg rfl hz dX7_dropBroken_70 (al 19 x4.toNatClampNeg) rfl ?_
    refine zb_iconst X (-1 : Int32) dX7_dropBroken_71 (by decide) ?_
    refine zb_icmp_eq X 105 dX7_dropBroken_72 (by decide) (fun c2 => ?_) (fun c2 => ?_)
    · have h := h.1 c2
      refine zb_sub [0, 1, 2] rfl ?_
      exact tX7_dropBroken_105 X p1 hR hK2 x2 al h
    · have h := h.2 c2
      refine zb_aload_n X dX7_dropBroken_75 rfl 0 rfl ?_
      refine zb_getR X 18 (zTC_lt (by decide)) 7 [6, 14, 4, 21, 22, 23, 0, 0, 0] rfl (C := RX7) (Tt := TX7) (N := 9) rfl kX7_dropBroken_1 3 (by decide) 19 rfl kX7_dropBroken_6 rfl dX7_dropBroken_76 ?_
      refine zb_iload X dX7_dropBroken_79 4 rfl ?_
      obtain ⟨hz, h⟩ := h
      refine zb_iald X 19 (zTC_lt (by decide)) 1 48 0 0 rfl (Or.inl rfl) x4.toNatClampNeg rfl hz dX7_dropBroken_81 (al 19 x4.toNatClampNeg) rfl ?_
      refine zb_aload_n X dX7_dropBroken_82 rfl 0 rfl ?_
      refine zb_iload_n X dX7_dropBroken_83 rfl 2 rfl ?_
      refine zb_callVi (n := 1) X 18 (zTC_lt (by decide)) 7 [6, 14, 4, 21, 22, 23, 0, 0, 0] rfl (C := RX7) (Tt := TX7) (N := 9) rfl h gX7_dropBroken_X7_boundOf rfl (by decide +kernel) (by decide) rfl rfl (Nat.le_of_ble_eq_true rfl) dX7_dropBroken_84 (kc' := 0) (ks' := 0) rfl rfl (fun q3 a3 h => ?_)
      refine zb_icmp_ge X 105 dX7_dropBroken_87 (by decide) (fun c4 => ?_) (fun c4 => ?_)
      · have h := h.1 c4
        refine zb_sub [0, 1, 2] rfl ?_
        exact tX7_dropBroken_105 X p1 hR hK2 x2 a3 h
      · have h := h.2 c4
        refine zb_aload_n X dX7_dropBroken_90 rfl 0 rfl ?_
        refine zb_iload_n X dX7_dropBroken_91 rfl 3 rfl ?_
        refine zb_iload_n X dX7_dropBroken_92 rfl 1 rfl ?_
        refine zb_icmp_ne X 101 dX7_dropBroken_93 (by decide) (fun c5 => ?_) (fun c5 => ?_)
        · have h := h.1 c5
          refine zb_iload_n X dX7_dropBroken_101 rfl 3 rfl ?_
          refine zb_sub [0, 1, 2] rfl ?_
          exact tX7_dropBroken_102 X p1 hR hK2 x2 x3 a3 h
        · have h := h.2 c5
          refine zb_iload X dX7_dropBroken_96 4 rfl ?_
          refine zb_goto X 102 dX7_dropBroken_98 (by decide) ?_
          refine zb_sub [0, 1, 2] rfl ?_
          exact tX7_dropBroken_102 X p1 hR hK2 x2 x4 a3 h
set_option maxRecDepth 20000 in
theorem tX7_dropBroken_2 {G : zG} {Z : zC} {r : Bool} {ad ln : Nat → Nat} (X : zX G Z cX7_dropBroken 5 RX7 wsX7_dropBroken) (p1 : Int32) {K2 : Int32 → (Nat → Nat → Int32) → Prop} {post : (Nat → Nat → Int32) → Prop} (hR : zRv G Z rmX7_dropBroken 5 (zTC r) ad ln cX7_dropBroken post) (hK2 : ∀ x2 : Int32, ∀ al, K2 x2 al → zB G Z rmX7_dropBroken 5 (zTC r) ad ln 0 0 2 [(0, .ref (ad 18)), (1, .int p1), (2, .int x2)] [] al) (x2 : Int32) (al : Nat → Nat → Int32) (h : vcX7_dropBroken_2 G r ad ln p1 K2 post x2 al) : zB G Z rmX7_dropBroken 5 (zTC r) ad ln 0 0 2 [(0, .ref (ad 18)), (1, .int p1), (2, .int x2)] [] al := by
  unfold vcX7_dropBroken_2 at h
  refine zb_iload_n X dX7_dropBroken_2 rfl 2 rfl ?_
  refine zb_aload_n X dX7_dropBroken_3 rfl 0 rfl ?_
  refine zb_getR X 18 (zTC_lt (by decide)) 7 [6, 14, 4, 21, 22, 23, 0, 0, 0] rfl (C := RX7) (Tt := TX7) (N := 9) rfl kX7_dropBroken_1 1 (by decide) 12 rfl kX7_dropBroken_0 rfl dX7_dropBroken_4 ?_
  refine zb_getI X 12 (zTC_lt (by decide)) 8 [6, 4, 0, 15, 16, 17, 18, 19, 0, 0] rfl (C := RX8) (Tt := TX8) (N := 10) rfl kX7_dropBroken_3 2 (by decide) rfl kX7_dropBroken_2 rfl dX7_dropBroken_7 (al 12 2) rfl ?_
  refine zb_icmp_ge X 111 dX7_dropBroken_10 (by decide) (fun c1 => ?_) (fun c1 => ?_)
  · have h := h.1 c1
    exact hR 111 _ _ dX7_dropBroken_111 h
  · have h := h.2 c1
    refine zb_aload_n X dX7_dropBroken_13 rfl 0 rfl ?_
    refine zb_getR X 18 (zTC_lt (by decide)) 7 [6, 14, 4, 21, 22, 23, 0, 0, 0] rfl (C := RX7) (Tt := TX7) (N := 9) rfl kX7_dropBroken_1 1 (by decide) 12 rfl kX7_dropBroken_0 rfl dX7_dropBroken_14 ?_
    refine zb_getR X 12 (zTC_lt (by decide)) 8 [6, 4, 0, 15, 16, 17, 18, 19, 0, 0] rfl (C := RX8) (Tt := TX8) (N := 10) rfl kX7_dropBroken_3 3 (by decide) 13 rfl kX7_dropBroken_4 rfl dX7_dropBroken_17 ?_
    refine zb_iload_n X dX7_dropBroken_20 rfl 2 rfl ?_
    obtain ⟨hz, h⟩ := h
    refine zb_iald X 13 (zTC_lt (by decide)) 2 0 0 0 rfl (Or.inr rfl) x2.toNatClampNeg rfl hz dX7_dropBroken_21 (al 13 x2.toNatClampNeg) rfl ?_
    refine zb_istore_n X (lv' := [(3, .int (al 13 x2.toNatClampNeg)), (0, .ref (ad 18)), (1, .int p1), (2, .int x2)]) dX7_dropBroken_22 rfl (by decide) rfl ?_
    refine zb_aload_n X dX7_dropBroken_23 rfl 1 rfl ?_
    refine zb_getR X 18 (zTC_lt (by decide)) 7 [6, 14, 4, 21, 22, 23, 0, 0, 0] rfl (C := RX7) (Tt := TX7) (N := 9) rfl kX7_dropBroken_1 1 (by decide) 12 rfl kX7_dropBroken_0 rfl dX7_dropBroken_24 ?_
    refine zb_getR X 12 (zTC_lt (by decide)) 8 [6, 4, 0, 15, 16, 17, 18, 19, 0, 0] rfl (C := RX8) (Tt := TX8) (N := 10) rfl kX7_dropBroken_3 4 (by decide) 14 rfl kX7_dropBroken_5 rfl dX7_dropBroken_27 ?_
    refine zb_iload_n X dX7_dropBroken_30 rfl 3 rfl ?_
    obtain ⟨hz, h⟩ := h
    refine zb_iald X 14 (zTC_lt (by decide)) 2 0 0 0 rfl (Or.inr rfl) x2.toNatClampNeg rfl hz dX7_dropBroken_31 (al 14 x2.toNatClampNeg) rfl ?_
    refine zb_istore X (lv' := [(4, .int (al 14 x2.toNatClampNeg)), (3, .int (al 13 x2.toNatClampNeg)), (0, .ref (ad 18)), (1, .int p1), (2, .int x2)]) dX7_dropBroken_32 (by decide) rfl ?_
    refine zb_iload_n X dX7_dropBroken_34 rfl 1 rfl ?_
    refine zb_iload X dX7_dropBroken_35 0 rfl ?_
    refine zb_icmp_eq X 105 dX7_dropBroken_37 (by decide) (fun c2 => ?_) (fun c2 => ?_)
    · have h := h.1 c2
      refine zb_sub [2, 3, 4] rfl ?_
      exact tX7_dropBroken_105 X p1 hR hK2 x2 al h
    · have h := h.2 c2
      refine zb_iload_n X dX7_dropBroken_40 rfl 1 rfl ?_
      refine zb_iload_n X dX7_dropBroken_41 rfl 3 rfl ?_
      refine zb_icmp_eq X 54 dX7_dropBroken_42 (by decide) (fun c3 => ?_) (fun c3 => ?_)
      · have h := h.1 c3
        refine zb_sub [2, 3, 4, 1, 0] rfl ?_
        exact tX7_dropBroken_54 X p1 hR hK2 x2 (al 13 x2.toNatClampNeg) (al 14 x2.toNatClampNeg) al h
      · have h := h.2 c3
        refine zb_iload X dX7_dropBroken_45 0 rfl ?_
        refine zb_iload_n X dX7_dropBroken_47 rfl 3 rfl ?_
        refine zb_icmp_eq X 54 dX7_dropBroken_48 (by decide) (fun c4 => ?_) (fun c4 => ?_)
        · have h := h.1 c4
          refine zb_sub [2, 3, 4, 1, 0] rfl ?_
          exact tX7_dropBroken_54 X p1 hR hK2 x2 (al 13 x2.toNatClampNeg) (al 14 x2.toNatClampNeg) al h
        · have h := h.2 c4
          refine zb_goto X 105 dX7_dropBroken_51 (by decide) ?_
          refine zb_sub [2, 3, 4] rfl ?_
          exact tX7_dropBroken_105 X p1 hR hK2 x2 al h
theorem uX7_dropBroken_0 {G : zG} {Z : zC} {r : Bool} {ad ln : Nat → Nat} (X : zX G Z cX7_dropBroken 5 RX7 wsX7_dropBroken) (p1 : Int32) {post : (Nat → Nat → Int32) → Prop} (hR : zRv G Z rmX7_dropBroken 5 (zTC r) ad ln cX7_dropBroken post) (al : Nat → Nat → Int32) (h : vcX7_dropBroken_0 G r ad ln p1 (BX7_dropBroken_2 G Z r ad ln p1) post  al) : zB G Z rmX7_dropBroken 5 (zTC r) ad ln 0 0 0 [(0, .ref (ad 18)), (1, .int p1)] [] al := tX7_dropBroken_0 X p1 hR (fun _ _ h => h)  al h
theorem uX7_dropBroken_105 {G : zG} {Z : zC} {r : Bool} {ad ln : Nat → Nat} (X : zX G Z cX7_dropBroken 5 RX7 wsX7_dropBroken) (p1 : Int32) {post : (Nat → Nat → Int32) → Prop} (hR : zRv G Z rmX7_dropBroken 5 (zTC r) ad ln cX7_dropBroken post) (x2 : Int32) (al : Nat → Nat → Int32) (h : vcX7_dropBroken_105 G r ad ln p1 (BX7_dropBroken_2 G Z r ad ln p1) post x2 al) : zB G Z rmX7_dropBroken 5 (zTC r) ad ln 0 0 105 [(0, .ref (ad 18)), (1, .int p1), (2, .int x2)] [] al := tX7_dropBroken_105 X p1 hR (fun _ _ h => h) x2 al h
theorem uX7_dropBroken_102 {G : zG} {Z : zC} {r : Bool} {ad ln : Nat → Nat} (X : zX G Z cX7_dropBroken 5 RX7 wsX7_dropBroken) (p1 : Int32) {post : (Nat → Nat → Int32) → Prop} (hR : zRv G Z rmX7_dropBroken 5 (zTC r) ad ln cX7_dropBroken post) (x2 s0 : Int32) (al : Nat → Nat → Int32) (h : vcX7_dropBroken_102 G r ad ln p1 (BX7_dropBroken_2 G Z r ad ln p1) post x2 s0 al) : zB G Z rmX7_dropBroken 5 (zTC r) ad ln 0 0 102 [(0, .ref (ad 18)), (1, .int p1), (2, .int x2)] [.int s0, .ref (ad 18)] al := tX7_dropBroken_102 X p1 hR (fun _ _ h => h) x2 s0 al h
theorem uX7_dropBroken_54 {G : zG} {Z : zC} {r : Bool} {ad ln : Nat → Nat} (X : zX G Z cX7_dropBroken 5 RX7 wsX7_dropBroken) (p1 : Int32) {post : (Nat → Nat → Int32) → Prop} (hR : zRv G Z rmX7_dropBroken 5 (zTC r) ad ln cX7_dropBroken post) (x2 x3 x4 : Int32) (al : Nat → Nat → Int32) (h : vcX7_dropBroken_54 G r ad ln p1 (BX7_dropBroken_2 G Z r ad ln p1) post x2 x3 x4 al) : zB G Z rmX7_dropBroken 5 (zTC r) ad ln 0 0 54 [(0, .ref (ad 18)), (1, .int p1), (2, .int x2), (3, .int x3), (4, .int x4)] [] al := tX7_dropBroken_54 X p1 hR (fun _ _ h => h) x2 x3 x4 al h
theorem uX7_dropBroken_2 {G : zG} {Z : zC} {r : Bool} {ad ln : Nat → Nat} (X : zX G Z cX7_dropBroken 5 RX7 wsX7_dropBroken) (p1 : Int32) {post : (Nat → Nat → Int32) → Prop} (hR : zRv G Z rmX7_dropBroken 5 (zTC r) ad ln cX7_dropBroken post) (x2 : Int32) (al : Nat → Nat → Int32) (h : vcX7_dropBroken_2 G r ad ln p1 (BX7_dropBroken_2 G Z r ad ln p1) post x2 al) : zB G Z rmX7_dropBroken 5 (zTC r) ad ln 0 0 2 [(0, .ref (ad 18)), (1, .int p1), (2, .int x2)] [] al := tX7_dropBroken_2 X p1 hR (fun _ _ h => h) x2 al h

abbrev rmX7_tryRow : Room := { frames := 5, cells := 0, slots := 0, locals := 111 }
theorem kX7_tryRow_0 : Cond.fieldLink RX7 15 RX7 "latest" "[I" ∈ wsX7_tryRow := by decide +kernel
theorem kX7_tryRow_1 : zIn RX7 TX7 9 wsX7_tryRow := by decide +kernel
theorem kX7_tryRow_2 : Cond.fieldLink RX7 9 RX7 "cycle" "[I" ∈ wsX7_tryRow := by decide +kernel
def vcX7_tryRow_57 (G : zG) (r : Bool) (ad ln : Nat → Nat) (p1 : Int32)  (post : (Nat → Nat → Int32) → Prop) (x3 : Int32) (al : Nat → Nat → Int32) : Prop :=
  (vp_in p1 48 ∧ vp_in p1 48 ∧ zMv G yX7_changeUse wsX7_changeUse rmX7_changeUse (zTC r) ad ln [.ref (ad 18), .int p1, .int (1 : Int32)] (up2 (up2 al 19 p1.toNatClampNeg x3) 20 p1.toNatClampNeg x3) (fun a1 => zMv G yX7_dropBroken wsX7_dropBroken rmX7_dropBroken (zTC r) ad ln [.ref (ad 18), .int p1] a1 (fun a2 => post a2)))
def vcX7_tryRow_50 (G : zG) (r : Bool) (ad ln : Nat → Nat) (p1 : Int32)  (post : (Nat → Nat → Int32) → Prop) (s0 : Int32) (al : Nat → Nat → Int32) : Prop :=
  zMv G yX7_makeRoom wsX7_makeRoom rmX7_makeRoom (zTC r) ad ln [.ref (ad 18), .int p1, .int s0] al (fun a1 => vcX7_tryRow_57 G r ad ln p1  post s0 a1)
def vcX7_tryRow_49 (G : zG) (r : Bool) (ad ln : Nat → Nat) (p1 : Int32)  (post : (Nat → Nat → Int32) → Prop) (x2 : Int32) (al : Nat → Nat → Int32) : Prop :=
  vcX7_tryRow_50 G r ad ln p1  post x2 al
def vcX7_tryRow_0 (G : zG) (r : Bool) (ad ln : Nat → Nat) (p1 : Int32)  (post : (Nat → Nat → Int32) → Prop) (al : Nat → Nat → Int32) : Prop :=
  zMi G yX7_earliestOf wsX7_earliestOf rmX7_earliestOf (zTC r) ad ln [.ref (ad 18), .int p1] al (fun q1 a1 => zMi G yX7_firstWithRoom wsX7_firstWithRoom rmX7_firstWithRoom (zTC r) ad ln [.ref (ad 18), .int p1, .int q1] a1 (fun q2 a2 => (¬ q2 = (-1 : Int32) → vcX7_tryRow_57 G r ad ln p1  post q2 a2) ∧ (q2 = (-1 : Int32) → (vp_in p1 48 ∧ ((a2 20 p1.toNatClampNeg) = (-1 : Int32) → vcX7_tryRow_49 G r ad ln p1  post q1 a2) ∧ (¬ (a2 20 p1.toNatClampNeg) = (-1 : Int32) → (vp_in p1 48 ∧ ((a2 20 p1.toNatClampNeg) < q1 → vcX7_tryRow_49 G r ad ln p1  post q1 a2) ∧ (¬ (a2 20 p1.toNatClampNeg) < q1 → (vp_in p1 48 ∧ vcX7_tryRow_50 G r ad ln p1  post ((a2 20 p1.toNatClampNeg) + (1 : Int32)) a2))))))))
set_option maxRecDepth 20000 in
theorem tX7_tryRow_57 {G : zG} {Z : zC} {r : Bool} {ad ln : Nat → Nat} (X : zX G Z cX7_tryRow 4 RX7 wsX7_tryRow) (p1 : Int32)  {post : (Nat → Nat → Int32) → Prop} (hR : zRv G Z rmX7_tryRow 4 (zTC r) ad ln cX7_tryRow post)  (x3 : Int32) (al : Nat → Nat → Int32) (h : vcX7_tryRow_57 G r ad ln p1  post x3 al) : zB G Z rmX7_tryRow 4 (zTC r) ad ln 0 0 57 [(0, .ref (ad 18)), (1, .int p1), (3, .int x3)] [] al := by
  unfold vcX7_tryRow_57 at h
  refine zb_aload_n X dX7_tryRow_57 rfl 0 rfl ?_
  refine zb_getR X 18 (zTC_lt (by decide)) 7 [6, 14, 4, 21, 22, 23, 0, 0, 0] rfl (C := RX7) (Tt := TX7) (N := 9) rfl kX7_tryRow_1 3 (by decide) 19 rfl kX7_tryRow_2 rfl dX7_tryRow_58 ?_
  refine zb_iload_n X dX7_tryRow_61 rfl 1 rfl ?_
  refine zb_iload_n X dX7_tryRow_62 rfl 2 rfl ?_
  obtain ⟨hz, h⟩ := h
  refine zb_iast X 19 (zTC_lt (by decide)) 1 48 0 0 rfl (Or.inl rfl) p1.toNatClampNeg rfl hz dX7_tryRow_63 ?_
  refine zb_aload_n X dX7_tryRow_64 rfl 0 rfl ?_
  refine zb_getR X 18 (zTC_lt (by decide)) 7 [6, 14, 4, 21, 22, 23, 0, 0, 0] rfl (C := RX7) (Tt := TX7) (N := 9) rfl kX7_tryRow_1 4 (by decide) 20 rfl kX7_tryRow_0 rfl dX7_tryRow_65 ?_
  refine zb_iload_n X dX7_tryRow_68 rfl 1 rfl ?_
  refine zb_iload_n X dX7_tryRow_69 rfl 2 rfl ?_
  obtain ⟨hz, h⟩ := h
  refine zb_iast X 20 (zTC_lt (by decide)) 1 48 0 0 rfl (Or.inl rfl) p1.toNatClampNeg rfl hz dX7_tryRow_70 ?_
  refine zb_aload_n X dX7_tryRow_71 rfl 0 rfl ?_
  refine zb_iload_n X dX7_tryRow_72 rfl 1 rfl ?_
  refine zb_iconst X (1 : Int32) dX7_tryRow_73 (by decide) ?_
  refine zb_callVv (n := 2) X 18 (zTC_lt (by decide)) 7 [6, 14, 4, 21, 22, 23, 0, 0, 0] rfl (C := RX7) (Tt := TX7) (N := 9) rfl h gX7_tryRow_X7_changeUse rfl (by decide +kernel) (by decide) rfl rfl (Nat.le_of_ble_eq_true rfl) dX7_tryRow_74 (kc' := 0) (ks' := 0) rfl rfl (fun a1 h => ?_)
  refine zb_aload_n X dX7_tryRow_77 rfl 0 rfl ?_
  refine zb_iload_n X dX7_tryRow_78 rfl 1 rfl ?_
  refine zb_callVv (n := 1) X 18 (zTC_lt (by decide)) 7 [6, 14, 4, 21, 22, 23, 0, 0, 0] rfl (C := RX7) (Tt := TX7) (N := 9) rfl h gX7_tryRow_X7_dropBroken rfl (by decide +kernel) (by decide) rfl rfl (Nat.le_of_ble_eq_true rfl) dX7_tryRow_79 (kc' := 0) (ks' := 0) rfl rfl (fun a2 h => ?_)
  exact hR 82 _ _ dX7_tryRow_82 h
set_option maxRecDepth 20000 in
theorem tX7_tryRow_50 {G : zG} {Z : zC} {r : Bool} {ad ln : Nat → Nat} (X : zX G Z cX7_tryRow 4 RX7 wsX7_tryRow) (p1 : Int32)  {post : (Nat → Nat → Int32) → Prop} (hR : zRv G Z rmX7_tryRow 4 (zTC r) ad ln cX7_tryRow post)  (s0 : Int32) (al : Nat → Nat → Int32) (h : vcX7_tryRow_50 G r ad ln p1  post s0 al) : zB G Z rmX7_tryRow 4 (zTC r) ad ln 0 0 50 [(0, .ref (ad 18)), (1, .int p1)] [.int s0] al := by
  unfold vcX7_tryRow_50 at h
  refine zb_istore_n X (lv' := [(3, .int s0), (0, .ref (ad 18)), (1, .int p1)]) dX7_tryRow_50 rfl (by decide) rfl ?_
  refine zb_aload_n X dX7_tryRow_51 rfl 1 rfl ?_
  refine zb_iload_n X dX7_tryRow_52 rfl 2 rfl ?_
  refine zb_iload_n X dX7_tryRow_53 rfl 0 rfl ?_
  refine zb_callVv (n := 2) X 18 (zTC_lt (by decide)) 7 [6, 14, 4, 21, 22, 23, 0, 0, 0] rfl (C := RX7) (Tt := TX7) (N := 9) rfl h gX7_tryRow_X7_makeRoom rfl (by decide +kernel) (by decide) rfl rfl (Nat.le_of_ble_eq_true rfl) dX7_tryRow_54 (kc' := 0) (ks' := 0) rfl rfl (fun a1 h => ?_)
  refine zb_sub [1, 2, 0] rfl ?_
  exact tX7_tryRow_57 X p1 hR  s0 a1 h
set_option maxRecDepth 20000 in
theorem tX7_tryRow_49 {G : zG} {Z : zC} {r : Bool} {ad ln : Nat → Nat} (X : zX G Z cX7_tryRow 4 RX7 wsX7_tryRow) (p1 : Int32)  {post : (Nat → Nat → Int32) → Prop} (hR : zRv G Z rmX7_tryRow 4 (zTC r) ad ln cX7_tryRow post)  (x2 : Int32) (al : Nat → Nat → Int32) (h : vcX7_tryRow_49 G r ad ln p1  post x2 al) : zB G Z rmX7_tryRow 4 (zTC r) ad ln 0 0 49 [(0, .ref (ad 18)), (1, .int p1), (2, .int x2)] [] al := by
  unfold vcX7_tryRow_49 at h
  refine zb_iload_n X dX7_tryRow_49 rfl 2 rfl ?_
  refine zb_sub [0, 1] rfl ?_
  exact tX7_tryRow_50 X p1 hR  x2 al h
set_option maxRecDepth 20000 in
theorem tX7_tryRow_0 {G : zG} {Z : zC} {r : Bool} {ad ln : Nat → Nat} (X : zX G Z cX7_tryRow 4 RX7 wsX7_tryRow) (p1 : Int32)  {post : (Nat → Nat → Int32) → Prop} (hR : zRv G Z rmX7_tryRow 4 (zTC r) ad ln cX7_tryRow post)  (al : Nat → Nat → Int32) (h : vcX7_tryRow_0 G r ad ln p1  post  al) : zB G Z rmX7_tryRow 4 (zTC r) ad ln 0 0 0 [(0, .ref (ad 18)), (1, .int p1)] [] al := by
  unfold vcX7_tryRow_0 at h
  refine zb_aload_n X dX7_tryRow_0 rfl 0 rfl ?_
  refine zb_iload_n X dX7_tryRow_1 rfl 1 rfl ?_
  refine zb_callVi (n := 1) X 18 (zTC_lt (by decide)) 7 [6, 14, 4, 21, 22, 23, 0, 0, 0] rfl (C := RX7) (Tt := TX7) (N := 9) rfl h gX7_tryRow_X7_earliestOf rfl (by decide +kernel) (by decide) rfl rfl (Nat.le_of_ble_eq_true rfl) dX7_tryRow_2 (kc' := 0) (ks' := 0) rfl rfl (fun q1 a1 h => ?_)
  refine zb_istore_n X (lv' := [(2, .int q1), (0, .ref (ad 18)), (1, .int p1)]) dX7_tryRow_5 rfl (by decide) rfl ?_
  refine zb_aload_n X dX7_tryRow_6 rfl 1 rfl ?_
  refine zb_iload_n X dX7_tryRow_7 rfl 2 rfl ?_
  refine zb_iload_n X dX7_tryRow_8 rfl 0 rfl ?_
  refine zb_callVi (n := 2) X 18 (zTC_lt (by decide)) 7 [6, 14, 4, 21, 22, 23, 0, 0, 0] rfl (C := RX7) (Tt := TX7) (N := 9) rfl h gX7_tryRow_X7_firstWithRoom rfl (by decide +kernel) (by decide) rfl rfl (Nat.le_of_ble_eq_true rfl) dX7_tryRow_9 (kc' := 0) (ks' := 0) rfl rfl (fun q2 a2 h => ?_)
  refine zb_istore_n X (lv' := [(3, .int q2), (2, .int q1), (0, .ref (ad 18)), (1, .int p1)]) dX7_tryRow_12 rfl (by decide) rfl ?_
  refine zb_iload_n X dX7_tryRow_13 rfl 0 rfl ?_
  refine zb_iconst X (-1 : Int32) dX7_tryRow_14 (by decide) ?_
  refine zb_icmp_ne X 57 dX7_tryRow_15 (by decide) (fun c3 => ?_) (fun c3 => ?_)
  · have h := h.1 c3
    refine zb_sub [2, 3, 0] rfl ?_
    exact tX7_tryRow_57 X p1 hR  q2 a2 h
  · have h := h.2 c3
    refine zb_aload_n X dX7_tryRow_18 rfl 2 rfl ?_
    refine zb_getR X 18 (zTC_lt (by decide)) 7 [6, 14, 4, 21, 22, 23, 0, 0, 0] rfl (C := RX7) (Tt := TX7) (N := 9) rfl kX7_tryRow_1 4 (by decide) 20 rfl kX7_tryRow_0 rfl dX7_tryRow_19 ?_
    refine zb_iload_n X dX7_tryRow_22 rfl 3 rfl ?_
    obtain ⟨hz, h⟩ := h
    refine zb_iald X 20 (zTC_lt (by decide)) 1 48 0 0 rfl (Or.inl rfl) p1.toNatClampNeg rfl hz dX7_tryRow_23 (a2 20 p1.toNatClampNeg) rfl ?_
    refine zb_iconst X (-1 : Int32) dX7_tryRow_24 (by decide) ?_
    refine zb_icmp_eq X 49 dX7_tryRow_25 (by decide) (fun c4 => ?_) (fun c4 => ?_)
    · have h := h.1 c4
      refine zb_sub [2, 3, 1] rfl ?_
      exact tX7_tryRow_49 X p1 hR  q1 a2 h
    · have h := h.2 c4
      refine zb_iload_n X dX7_tryRow_28 rfl 1 rfl ?_
      refine zb_aload_n X dX7_tryRow_29 rfl 2 rfl ?_
      refine zb_getR X 18 (zTC_lt (by decide)) 7 [6, 14, 4, 21, 22, 23, 0, 0, 0] rfl (C := RX7) (Tt := TX7) (N := 9) rfl kX7_tryRow_1 4 (by decide) 20 rfl kX7_tryRow_0 rfl dX7_tryRow_30 ?_
      refine zb_iload_n X dX7_tryRow_33 rfl 3 rfl ?_
      obtain ⟨hz, h⟩ := h
      refine zb_iald X 20 (zTC_lt (by decide)) 1 48 0 0 rfl (Or.inl rfl) p1.toNatClampNeg rfl hz dX7_tryRow_34 (a2 20 p1.toNatClampNeg) rfl ?_
      refine zb_icmp_gt X 49 dX7_tryRow_35 (by decide) (fun c5 => ?_) (fun c5 => ?_)
      · have h := h.1 c5
        refine zb_sub [2, 3, 1] rfl ?_
        exact tX7_tryRow_49 X p1 hR  q1 a2 h
      · have h := h.2 c5
        refine zb_aload_n X dX7_tryRow_38 rfl 2 rfl ?_
        refine zb_getR X 18 (zTC_lt (by decide)) 7 [6, 14, 4, 21, 22, 23, 0, 0, 0] rfl (C := RX7) (Tt := TX7) (N := 9) rfl kX7_tryRow_1 4 (by decide) 20 rfl kX7_tryRow_0 rfl dX7_tryRow_39 ?_
        refine zb_iload_n X dX7_tryRow_42 rfl 3 rfl ?_
        obtain ⟨hz, h⟩ := h
        refine zb_iald X 20 (zTC_lt (by decide)) 1 48 0 0 rfl (Or.inl rfl) p1.toNatClampNeg rfl hz dX7_tryRow_43 (a2 20 p1.toNatClampNeg) rfl ?_
        refine zb_iconst X (1 : Int32) dX7_tryRow_44 (by decide) ?_
        refine zb_iadd X dX7_tryRow_45 ?_
        refine zb_goto X 50 dX7_tryRow_46 (by decide) ?_
        refine zb_sub [2, 3] rfl ?_
        exact tX7_tryRow_50 X p1 hR  ((a2 20 p1.toNatClampNeg) + (1 : Int32)) a2 h

abbrev rmX7_highestWithout : Room := { frames := 0, cells := 0, slots := 0, locals := 0 }
theorem kX7_highestWithout_0 : Cond.fieldLink RX7 21 RX7 "loop" "LLoopForge$Loop;" ∈ wsX7_highestWithout := by decide +kernel
theorem kX7_highestWithout_1 : zIn RX7 TX7 9 wsX7_highestWithout := by decide +kernel
theorem kX7_highestWithout_2 : Cond.fieldLink RX7 42 RX0 "size" "I" ∈ wsX7_highestWithout := by decide +kernel
theorem kX7_highestWithout_3 : zIn RX0 TX0 3 wsX7_highestWithout := by decide +kernel
theorem kX7_highestWithout_4 : Cond.fieldLink RX7 9 RX7 "cycle" "[I" ∈ wsX7_highestWithout := by decide +kernel
theorem kX7_highestWithout_5 : Cond.fieldLink RX7 25 RX7 "waits" "LLoopForge$Waits;" ∈ wsX7_highestWithout := by decide +kernel
theorem kX7_highestWithout_6 : Cond.fieldLink RX7 61 RX8 "height" "[I" ∈ wsX7_highestWithout := by decide +kernel
theorem kX7_highestWithout_7 : zIn RX8 TX8 10 wsX7_highestWithout := by decide +kernel
abbrev BX7_highestWithout_4 (G : zG) (Z : zC) (r : Bool) (ad ln : Nat → Nat) (x1 x2 : Int32) (al : Nat → Nat → Int32) : Prop := zB G Z rmX7_highestWithout 3 (zTC r) ad ln 0 0 4 [(0, .ref (ad 18)), (1, .int x1), (2, .int x2)] [] al
def vcX7_highestWithout_0 (G : zG) (r : Bool) (ad ln : Nat → Nat) (K4 : Int32 → Int32 → (Nat → Nat → Int32) → Prop) (post : Int32 → (Nat → Nat → Int32) → Prop) (al : Nat → Nat → Int32) : Prop :=
  K4 (-1 : Int32) (0 : Int32) al
def vcX7_highestWithout_52 (G : zG) (r : Bool) (ad ln : Nat → Nat) (K4 : Int32 → Int32 → (Nat → Nat → Int32) → Prop) (post : Int32 → (Nat → Nat → Int32) → Prop) (x1 x2 : Int32) (al : Nat → Nat → Int32) : Prop :=
  K4 x1 (x2 + (1 : Int32)) al
def vcX7_highestWithout_50 (G : zG) (r : Bool) (ad ln : Nat → Nat) (K4 : Int32 → Int32 → (Nat → Nat → Int32) → Prop) (post : Int32 → (Nat → Nat → Int32) → Prop) (x2 : Int32) (al : Nat → Nat → Int32) : Prop :=
  vcX7_highestWithout_52 G r ad ln K4 post x2 x2 al
def vcX7_highestWithout_4 (G : zG) (r : Bool) (ad ln : Nat → Nat) (K4 : Int32 → Int32 → (Nat → Nat → Int32) → Prop) (post : Int32 → (Nat → Nat → Int32) → Prop) (x1 x2 : Int32) (al : Nat → Nat → Int32) : Prop :=
  ((al 4 1) ≤ x2 → post x1 al) ∧ (¬ (al 4 1) ≤ x2 → (vp_in x2 48 ∧ (¬ (al 19 x2.toNatClampNeg) = (-1 : Int32) → vcX7_highestWithout_52 G r ad ln K4 post x1 x2 al) ∧ ((al 19 x2.toNatClampNeg) = (-1 : Int32) → (x1 < 0 → vcX7_highestWithout_50 G r ad ln K4 post x2 al) ∧ (¬ x1 < 0 → (vp_in x2 48 ∧ vp_in x1 48 ∧ ((al 17 x2.toNatClampNeg) ≤ (al 17 x1.toNatClampNeg) → vcX7_highestWithout_52 G r ad ln K4 post x1 x2 al) ∧ (¬ (al 17 x2.toNatClampNeg) ≤ (al 17 x1.toNatClampNeg) → vcX7_highestWithout_50 G r ad ln K4 post x2 al))))))
set_option maxRecDepth 20000 in
theorem tX7_highestWithout_0 {G : zG} {Z : zC} {r : Bool} {ad ln : Nat → Nat} (X : zX G Z cX7_highestWithout 3 RX7 wsX7_highestWithout) {K4 : Int32 → Int32 → (Nat → Nat → Int32) → Prop} {post : Int32 → (Nat → Nat → Int32) → Prop} (hR : zRi G Z rmX7_highestWithout 3 (zTC r) ad ln cX7_highestWithout .int post) (hK4 : ∀ x1 x2 : Int32, ∀ al, K4 x1 x2 al → zB G Z rmX7_highestWithout 3 (zTC r) ad ln 0 0 4 [(0, .ref (ad 18)), (1, .int x1), (2, .int x2)] [] al) (al : Nat → Nat → Int32) (h : vcX7_highestWithout_0 G r ad ln K4 post  al) : zB G Z rmX7_highestWithout 3 (zTC r) ad ln 0 0 0 [(0, .ref (ad 18))] [] al := by
  unfold vcX7_highestWithout_0 at h
  refine zb_iconst X (-1 : Int32) dX7_highestWithout_0 (by decide) ?_
  refine zb_istore_n X (lv' := [(1, .int (-1 : Int32)), (0, .ref (ad 18))]) dX7_highestWithout_1 rfl (by decide) rfl ?_
  refine zb_iconst X (0 : Int32) dX7_highestWithout_2 (by decide) ?_
  refine zb_istore_n X (lv' := [(2, .int (0 : Int32)), (1, .int (-1 : Int32)), (0, .ref (ad 18))]) dX7_highestWithout_3 rfl (by decide) rfl ?_
  refine zb_sub [2, 1, 0] rfl ?_
  exact hK4 (-1 : Int32) (0 : Int32) al h
set_option maxRecDepth 20000 in
theorem tX7_highestWithout_52 {G : zG} {Z : zC} {r : Bool} {ad ln : Nat → Nat} (X : zX G Z cX7_highestWithout 3 RX7 wsX7_highestWithout) {K4 : Int32 → Int32 → (Nat → Nat → Int32) → Prop} {post : Int32 → (Nat → Nat → Int32) → Prop} (hR : zRi G Z rmX7_highestWithout 3 (zTC r) ad ln cX7_highestWithout .int post) (hK4 : ∀ x1 x2 : Int32, ∀ al, K4 x1 x2 al → zB G Z rmX7_highestWithout 3 (zTC r) ad ln 0 0 4 [(0, .ref (ad 18)), (1, .int x1), (2, .int x2)] [] al) (x1 x2 : Int32) (al : Nat → Nat → Int32) (h : vcX7_highestWithout_52 G r ad ln K4 post x1 x2 al) : zB G Z rmX7_highestWithout 3 (zTC r) ad ln 0 0 52 [(0, .ref (ad 18)), (1, .int x1), (2, .int x2)] [] al := by
  unfold vcX7_highestWithout_52 at h
  refine zb_iinc X (lv' := [(2, .int (x2 + (1 : Int32))), (0, .ref (ad 18)), (1, .int x1)]) (x2 + (1 : Int32)) dX7_highestWithout_52 2 rfl rfl (by decide) rfl ?_
  refine zb_goto X 4 dX7_highestWithout_55 (by decide) ?_
  refine zb_sub [1, 2, 0] rfl ?_
  exact hK4 x1 (x2 + (1 : Int32)) al h
set_option maxRecDepth 20000 in
theorem tX7_highestWithout_50 {G : zG} {Z : zC} {r : Bool} {ad ln : Nat → Nat} (X : zX G Z cX7_highestWithout 3 RX7 wsX7_highestWithout) {K4 : Int32 → Int32 → (Nat → Nat → Int32) → Prop} {post : Int32 → (Nat → Nat → Int32) → Prop} (hR : zRi G Z rmX7_highestWithout 3 (zTC r) ad ln cX7_highestWithout .int post) (hK4 : ∀ x1 x2 : Int32, ∀ al, K4 x1 x2 al → zB G Z rmX7_highestWithout 3 (zTC r) ad ln 0 0 4 [(0, .ref (ad 18)), (1, .int x1), (2, .int x2)] [] al) (x2 : Int32) (al : Nat → Nat → Int32) (h : vcX7_highestWithout_50 G r ad ln K4 post x2 al) : zB G Z rmX7_highestWithout 3 (zTC r) ad ln 0 0 50 [(0, .ref (ad 18)), (2, .int x2)] [] al := by
  unfold vcX7_highestWithout_50 at h
  refine zb_iload_n X dX7_highestWithout_50 rfl 1 rfl ?_
  refine zb_istore_n X (lv' := [(1, .int x2), (0, .ref (ad 18)), (2, .int x2)]) dX7_highestWithout_51 rfl (by decide) rfl ?_
  refine zb_sub [1, 0, 2] rfl ?_
  exact tX7_highestWithout_52 X hR hK4 x2 x2 al h
set_option maxRecDepth 20000 in
theorem tX7_highestWithout_4 {G : zG} {Z : zC} {r : Bool} {ad ln : Nat → Nat} (X : zX G Z cX7_highestWithout 3 RX7 wsX7_highestWithout) {K4 : Int32 → Int32 → (Nat → Nat → Int32) → Prop} {post : Int32 → (Nat → Nat → Int32) → Prop} (hR : zRi G Z rmX7_highestWithout 3 (zTC r) ad ln cX7_highestWithout .int post) (hK4 : ∀ x1 x2 : Int32, ∀ al, K4 x1 x2 al → zB G Z rmX7_highestWithout 3 (zTC r) ad ln 0 0 4 [(0, .ref (ad 18)), (1, .int x1), (2, .int x2)] [] al) (x1 x2 : Int32) (al : Nat → Nat → Int32) (h : vcX7_highestWithout_4 G r ad ln K4 post x1 x2 al) : zB G Z rmX7_highestWithout 3 (zTC r) ad ln 0 0 4 [(0, .ref (ad 18)), (1, .int x1), (2, .int x2)] [] al := by
  unfold vcX7_highestWithout_4 at h
  refine zb_iload_n X dX7_highestWithout_4 rfl 2 rfl ?_
  refine zb_aload_n X dX7_highestWithout_5 rfl 0 rfl ?_
  refine zb_getR X 18 (zTC_lt (by decide)) 7 [6, 14, 4, 21, 22, 23, 0, 0, 0] rfl (C := RX7) (Tt := TX7) (N := 9) rfl kX7_highestWithout_1 0 (by decide) 4 rfl kX7_highestWithout_0 rfl dX7_highestWithout_6 ?_
  refine zb_getI X 4 (zTC_lt (by decide)) 0 [7, 0, 8] rfl (C := RX0) (Tt := TX0) (N := 3) rfl kX7_highestWithout_3 1 (by decide) rfl kX7_highestWithout_2 rfl dX7_highestWithout_9 (al 4 1) rfl ?_
  refine zb_icmp_ge X 58 dX7_highestWithout_12 (by decide) (fun c1 => ?_) (fun c1 => ?_)
  · have h := h.1 c1
    refine zb_iload_n X dX7_highestWithout_58 rfl 1 rfl ?_
    exact hR 59 _ _ _ dX7_highestWithout_59 rfl h
  · have h := h.2 c1
    refine zb_aload_n X dX7_highestWithout_15 rfl 0 rfl ?_
    refine zb_getR X 18 (zTC_lt (by decide)) 7 [6, 14, 4, 21, 22, 23, 0, 0, 0] rfl (C := RX7) (Tt := TX7) (N := 9) rfl kX7_highestWithout_1 3 (by decide) 19 rfl kX7_highestWithout_4 rfl dX7_highestWithout_16 ?_
    refine zb_iload_n X dX7_highestWithout_19 rfl 2 rfl ?_
    obtain ⟨hz, h⟩ := h
    refine zb_iald X 19 (zTC_lt (by decide)) 1 48 0 0 rfl (Or.inl rfl) x2.toNatClampNeg rfl hz dX7_highestWithout_20 (al 19 x2.toNatClampNeg) rfl ?_
    refine zb_iconst X (-1 : Int32) dX7_highestWithout_21 (by decide) ?_
    refine zb_icmp_ne X 52 dX7_highestWithout_22 (by decide) (fun c2 => ?_) (fun c2 => ?_)
    · have h := h.1 c2
      refine zb_sub [0, 1, 2] rfl ?_
      exact tX7_highestWithout_52 X hR hK4 x1 x2 al h
    · have h := h.2 c2
      refine zb_iload_n X dX7_highestWithout_25 rfl 1 rfl ?_
      refine zb_if_lt X 50 dX7_highestWithout_26 (by decide) (fun c3 => ?_) (fun c3 => ?_)
      · have h := h.1 c3
        refine zb_sub [0, 2] rfl ?_
        exact tX7_highestWithout_50 X hR hK4 x2 al h
      · have h := h.2 c3
        refine zb_aload_n X dX7_highestWithout_29 rfl 0 rfl ?_
        refine zb_getR X 18 (zTC_lt (by decide)) 7 [6, 14, 4, 21, 22, 23, 0, 0, 0] rfl (C := RX7) (Tt := TX7) (N := 9) rfl kX7_highestWithout_1 1 (by decide) 12 rfl kX7_highestWithout_5 rfl dX7_highestWithout_30 ?_
        refine zb_getR X 12 (zTC_lt (by decide)) 8 [6, 4, 0, 15, 16, 17, 18, 19, 0, 0] rfl (C := RX8) (Tt := TX8) (N := 10) rfl kX7_highestWithout_7 7 (by decide) 17 rfl kX7_highestWithout_6 rfl dX7_highestWithout_33 ?_
        refine zb_iload_n X dX7_highestWithout_36 rfl 2 rfl ?_
        obtain ⟨hz, h⟩ := h
        refine zb_iald X 17 (zTC_lt (by decide)) 1 48 0 0 rfl (Or.inl rfl) x2.toNatClampNeg rfl hz dX7_highestWithout_37 (al 17 x2.toNatClampNeg) rfl ?_
        refine zb_aload_n X dX7_highestWithout_38 rfl 0 rfl ?_
        refine zb_getR X 18 (zTC_lt (by decide)) 7 [6, 14, 4, 21, 22, 23, 0, 0, 0] rfl (C := RX7) (Tt := TX7) (N := 9) rfl kX7_highestWithout_1 1 (by decide) 12 rfl kX7_highestWithout_5 rfl dX7_highestWithout_39 ?_
        refine zb_getR X 12 (zTC_lt (by decide)) 8 [6, 4, 0, 15, 16, 17, 18, 19, 0, 0] rfl (C := RX8) (Tt := TX8) (N := 10) rfl kX7_highestWithout_7 7 (by decide) 17 rfl kX7_highestWithout_6 rfl dX7_highestWithout_42 ?_
        refine zb_iload_n X dX7_highestWithout_45 rfl 1 rfl ?_
        obtain ⟨hz, h⟩ := h
        refine zb_iald X 17 (zTC_lt (by decide)) 1 48 0 0 rfl (Or.inl rfl) x1.toNatClampNeg rfl hz dX7_highestWithout_46 (al 17 x1.toNatClampNeg) rfl ?_
        refine zb_icmp_le X 52 dX7_highestWithout_47 (by decide) (fun c4 => ?_) (fun c4 => ?_)
        · have h := h.1 c4
          refine zb_sub [0, 1, 2] rfl ?_
          exact tX7_highestWithout_52 X hR hK4 x1 x2 al h
        · have h := h.2 c4
          refine zb_sub [0, 2] rfl ?_
          exact tX7_highestWithout_50 X hR hK4 x2 al h
theorem uX7_highestWithout_0 {G : zG} {Z : zC} {r : Bool} {ad ln : Nat → Nat} (X : zX G Z cX7_highestWithout 3 RX7 wsX7_highestWithout) {post : Int32 → (Nat → Nat → Int32) → Prop} (hR : zRi G Z rmX7_highestWithout 3 (zTC r) ad ln cX7_highestWithout .int post) (al : Nat → Nat → Int32) (h : vcX7_highestWithout_0 G r ad ln (BX7_highestWithout_4 G Z r ad ln) post  al) : zB G Z rmX7_highestWithout 3 (zTC r) ad ln 0 0 0 [(0, .ref (ad 18))] [] al := tX7_highestWithout_0 X hR (fun _ _ _ h => h)  al h
theorem uX7_highestWithout_52 {G : zG} {Z : zC} {r : Bool} {ad ln : Nat → Nat} (X : zX G Z cX7_highestWithout 3 RX7 wsX7_highestWithout) {post : Int32 → (Nat → Nat → Int32) → Prop} (hR : zRi G Z rmX7_highestWithout 3 (zTC r) ad ln cX7_highestWithout .int post) (x1 x2 : Int32) (al : Nat → Nat → Int32) (h : vcX7_highestWithout_52 G r ad ln (BX7_highestWithout_4 G Z r ad ln) post x1 x2 al) : zB G Z rmX7_highestWithout 3 (zTC r) ad ln 0 0 52 [(0, .ref (ad 18)), (1, .int x1), (2, .int x2)] [] al := tX7_highestWithout_52 X hR (fun _ _ _ h => h) x1 x2 al h
theorem uX7_highestWithout_50 {G : zG} {Z : zC} {r : Bool} {ad ln : Nat → Nat} (X : zX G Z cX7_highestWithout 3 RX7 wsX7_highestWithout) {post : Int32 → (Nat → Nat → Int32) → Prop} (hR : zRi G Z rmX7_highestWithout 3 (zTC r) ad ln cX7_highestWithout .int post) (x2 : Int32) (al : Nat → Nat → Int32) (h : vcX7_highestWithout_50 G r ad ln (BX7_highestWithout_4 G Z r ad ln) post x2 al) : zB G Z rmX7_highestWithout 3 (zTC r) ad ln 0 0 50 [(0, .ref (ad 18)), (2, .int x2)] [] al := tX7_highestWithout_50 X hR (fun _ _ _ h => h) x2 al h
theorem uX7_highestWithout_4 {G : zG} {Z : zC} {r : Bool} {ad ln : Nat → Nat} (X : zX G Z cX7_highestWithout 3 RX7 wsX7_highestWithout) {post : Int32 → (Nat → Nat → Int32) → Prop} (hR : zRi G Z rmX7_highestWithout 3 (zTC r) ad ln cX7_highestWithout .int post) (x1 x2 : Int32) (al : Nat → Nat → Int32) (h : vcX7_highestWithout_4 G r ad ln (BX7_highestWithout_4 G Z r ad ln) post x1 x2 al) : zB G Z rmX7_highestWithout 3 (zTC r) ad ln 0 0 4 [(0, .ref (ad 18)), (1, .int x1), (2, .int x2)] [] al := tX7_highestWithout_4 X hR (fun _ _ _ h => h) x1 x2 al h

abbrev rmX7_moveToZero : Room := { frames := 1, cells := 0, slots := 0, locals := 21 }
theorem kX7_moveToZero_0 : Cond.fieldLink RX7 9 RX7 "cycle" "[I" ∈ wsX7_moveToZero := by decide +kernel
theorem kX7_moveToZero_1 : zIn RX7 TX7 9 wsX7_moveToZero := by decide +kernel
theorem kX7_moveToZero_2 : Cond.fieldLink RX7 136 RX7 "greatest" "I" ∈ wsX7_moveToZero := by decide +kernel
theorem kX7_moveToZero_3 : Cond.fieldLink RX7 21 RX7 "loop" "LLoopForge$Loop;" ∈ wsX7_moveToZero := by decide +kernel
theorem kX7_moveToZero_4 : Cond.fieldLink RX7 42 RX0 "size" "I" ∈ wsX7_moveToZero := by decide +kernel
theorem kX7_moveToZero_5 : zIn RX0 TX0 3 wsX7_moveToZero := by decide +kernel
theorem kX7_moveToZero_6 : Cond.methodLink RX7 139 Lib.Math.min.name ∈ wsX7_moveToZero := by decide +kernel
theorem kX7_moveToZero_7 : Cond.static Lib.Math.min.name ∈ wsX7_moveToZero := by decide +kernel
theorem kX7_moveToZero_8 : Cond.initialized "java/lang/Math" ∈ wsX7_moveToZero := by decide +kernel
theorem kX7_moveToZero_9 : Cond.code Lib.Math.min.name Lib.Math.min.code 2 (some .int) ∈ wsX7_moveToZero := by decide +kernel
theorem kX7_moveToZero_10 : Cond.methodLink RX7 94 Lib.Math.max.name ∈ wsX7_moveToZero := by decide +kernel
theorem kX7_moveToZero_11 : Cond.static Lib.Math.max.name ∈ wsX7_moveToZero := by decide +kernel
theorem kX7_moveToZero_12 : Cond.code Lib.Math.max.name Lib.Math.max.code 2 (some .int) ∈ wsX7_moveToZero := by decide +kernel
abbrev BX7_moveToZero_66 (G : zG) (Z : zC) (r : Bool) (ad ln : Nat → Nat) (x1 x2 : Int32) (al : Nat → Nat → Int32) : Prop := zB G Z rmX7_moveToZero 3 (zTC r) ad ln 0 0 66 [(0, .ref (ad 18)), (1, .int x1), (2, .int x2)] [] al
abbrev BX7_moveToZero_19 (G : zG) (Z : zC) (r : Bool) (ad ln : Nat → Nat) (x1 x2 : Int32) (al : Nat → Nat → Int32) : Prop := zB G Z rmX7_moveToZero 3 (zTC r) ad ln 0 0 19 [(0, .ref (ad 18)), (1, .int x1), (2, .int x2)] [] al
def vcX7_moveToZero_0 (G : zG) (r : Bool) (ad ln : Nat → Nat) (K19 : Int32 → Int32 → (Nat → Nat → Int32) → Prop) (K66 : Int32 → Int32 → (Nat → Nat → Int32) → Prop) (post : (Nat → Nat → Int32) → Prop) (al : Nat → Nat → Int32) : Prop :=
  (vp_in (0 : Int32) 48 ∧ vp_in (0 : Int32) 48 ∧ K19 (al 19 0) (0 : Int32) (up2 al 18 8 (al 19 0)))
def vcX7_moveToZero_19 (G : zG) (r : Bool) (ad ln : Nat → Nat) (K19 : Int32 → Int32 → (Nat → Nat → Int32) → Prop) (K66 : Int32 → Int32 → (Nat → Nat → Int32) → Prop) (post : (Nat → Nat → Int32) → Prop) (x1 x2 : Int32) (al : Nat → Nat → Int32) : Prop :=
  ((al 4 1) ≤ x2 → K66 x1 (0 : Int32) al) ∧ (¬ (al 4 1) ≤ x2 → (vp_in x2 48 ∧ vp_in x2 48 ∧ K19 (if (al 19 x2.toNatClampNeg) < x1 then (al 19 x2.toNatClampNeg) else x1) (x2 + (1 : Int32)) (up2 al 18 8 (if (al 18 8) < (al 19 x2.toNatClampNeg) then (al 19 x2.toNatClampNeg) else (al 18 8)))))
def vcX7_moveToZero_66 (G : zG) (r : Bool) (ad ln : Nat → Nat) (K19 : Int32 → Int32 → (Nat → Nat → Int32) → Prop) (K66 : Int32 → Int32 → (Nat → Nat → Int32) → Prop) (post : (Nat → Nat → Int32) → Prop) (x1 x2 : Int32) (al : Nat → Nat → Int32) : Prop :=
  ((al 4 1) ≤ x2 → post (up2 al 18 8 ((al 18 8) - x1))) ∧ (¬ (al 4 1) ≤ x2 → (vp_in x2 48 ∧ vp_in x2 48 ∧ K66 x1 (x2 + (1 : Int32)) (up2 al 19 x2.toNatClampNeg ((al 19 x2.toNatClampNeg) - x1))))
set_option maxRecDepth 20000 in
theorem tX7_moveToZero_0 {G : zG} {Z : zC} {r : Bool} {ad ln : Nat → Nat} (X : zX G Z cX7_moveToZero 3 RX7 wsX7_moveToZero) {K19 : Int32 → Int32 → (Nat → Nat → Int32) → Prop} {K66 : Int32 → Int32 → (Nat → Nat → Int32) → Prop} {post : (Nat → Nat → Int32) → Prop} (hR : zRv G Z rmX7_moveToZero 3 (zTC r) ad ln cX7_moveToZero post) (hK19 : ∀ x1 x2 : Int32, ∀ al, K19 x1 x2 al → zB G Z rmX7_moveToZero 3 (zTC r) ad ln 0 0 19 [(0, .ref (ad 18)), (1, .int x1), (2, .int x2)] [] al) (hK66 : ∀ x1 x2 : Int32, ∀ al, K66 x1 x2 al → zB G Z rmX7_moveToZero 3 (zTC r) ad ln 0 0 66 [(0, .ref (ad 18)), (1, .int x1), (2, .int x2)] [] al) (al : Nat → Nat → Int32) (h : vcX7_moveToZero_0 G r ad ln K19 K66 post  al) : zB G Z rmX7_moveToZero 3 (zTC r) ad ln 0 0 0 [(0, .ref (ad 18))] [] al := by
  unfold vcX7_moveToZero_0 at h
  refine zb_aload_n X dX7_moveToZero_0 rfl 0 rfl ?_
  refine zb_getR X 18 (zTC_lt (by decide)) 7 [6, 14, 4, 21, 22, 23, 0, 0, 0] rfl (C := RX7) (Tt := TX7) (N := 9) rfl kX7_moveToZero_1 3 (by decide) 19 rfl kX7_moveToZero_0 rfl dX7_moveToZero_1 ?_
  refine zb_iconst X (0 : Int32) dX7_moveToZero_4 (by decide) ?_
  obtain ⟨hz, h⟩ := h
  refine zb_iald X 19 (zTC_lt (by decide)) 1 48 0 0 rfl (Or.inl rfl) 0 rfl hz dX7_moveToZero_5 (al 19 0) rfl ?_
  refine zb_istore_n X (lv' := [(1, .int (al 19 0)), (0, .ref (ad 18))]) dX7_moveToZero_6 rfl (by decide) rfl ?_
  refine zb_aload_n X dX7_moveToZero_7 rfl 1 rfl ?_
  refine zb_aload_n X dX7_moveToZero_8 rfl 1 rfl ?_
  refine zb_getR X 18 (zTC_lt (by decide)) 7 [6, 14, 4, 21, 22, 23, 0, 0, 0] rfl (C := RX7) (Tt := TX7) (N := 9) rfl kX7_moveToZero_1 3 (by decide) 19 rfl kX7_moveToZero_0 rfl dX7_moveToZero_9 ?_
  refine zb_iconst X (0 : Int32) dX7_moveToZero_12 (by decide) ?_
  obtain ⟨hz, h⟩ := h
  refine zb_iald X 19 (zTC_lt (by decide)) 1 48 0 0 rfl (Or.inl rfl) 0 rfl hz dX7_moveToZero_13 (al 19 0) rfl ?_
  refine zb_putI X 18 (zTC_lt (by decide)) 7 [6, 14, 4, 21, 22, 23, 0, 0, 0] rfl (C := RX7) (Tt := TX7) (N := 9) rfl kX7_moveToZero_1 tyX7 tyX7_ok nmX7 8 (by decide) rfl kX7_moveToZero_2 rfl rfl rfl rfl dX7_moveToZero_14 ?_
  refine zb_iconst X (0 : Int32) dX7_moveToZero_17 (by decide) ?_
  refine zb_istore_n X (lv' := [(2, .int (0 : Int32)), (1, .int (al 19 0)), (0, .ref (ad 18))]) dX7_moveToZero_18 rfl (by decide) rfl ?_
  refine zb_sub [2, 1, 0] rfl ?_
  exact hK19 (al 19 0) (0 : Int32) (up2 al 18 8 (al 19 0)) h
set_option maxRecDepth 20000 in
theorem tX7_moveToZero_19 {G : zG} {Z : zC} {r : Bool} {ad ln : Nat → Nat} (X : zX G Z cX7_moveToZero 3 RX7 wsX7_moveToZero) {K19 : Int32 → Int32 → (Nat → Nat → Int32) → Prop} {K66 : Int32 → Int32 → (Nat → Nat → Int32) → Prop} {post : (Nat → Nat → Int32) → Prop} (hR : zRv G Z rmX7_moveToZero 3 (zTC r) ad ln cX7_moveToZero post) (hK19 : ∀ x1 x2 : Int32, ∀ al, K19 x1 x2 al → zB G Z rmX7_moveToZero 3 (zTC r) ad ln 0 0 19 [(0, .ref (ad 18)), (1, .int x1), (2, .int x2)] [] al) (hK66 : ∀ x1 x2 : Int32, ∀ al, K66 x1 x2 al → zB G Z rmX7_moveToZero 3 (zTC r) ad ln 0 0 66 [(0, .ref (ad 18)), (1, .int x1), (2, .int x2)] [] al) (x1 x2 : Int32) (al : Nat → Nat → Int32) (h : vcX7_moveToZero_19 G r ad ln K19 K66 post x1 x2 al) : zB G Z rmX7_moveToZero 3 (zTC r) ad ln 0 0 19 [(0, .ref (ad 18)), (1, .int x1), (2, .int x2)] [] al := by
  unfold vcX7_moveToZero_19 at h
  refine zb_iload_n X dX7_moveToZero_19 rfl 2 rfl ?_
  refine zb_aload_n X dX7_moveToZero_20 rfl 0 rfl ?_
  refine zb_getR X 18 (zTC_lt (by decide)) 7 [6, 14, 4, 21, 22, 23, 0, 0, 0] rfl (C := RX7) (Tt := TX7) (N := 9) rfl kX7_moveToZero_1 0 (by decide) 4 rfl kX7_moveToZero_3 rfl dX7_moveToZero_21 ?_
  refine zb_getI X 4 (zTC_lt (by decide)) 0 [7, 0, 8] rfl (C := RX0) (Tt := TX0) (N := 3) rfl kX7_moveToZero_5 1 (by decide) rfl kX7_moveToZero_4 rfl dX7_moveToZero_24 (al 4 1) rfl ?_
  refine zb_icmp_ge X 64 dX7_moveToZero_27 (by decide) (fun c1 => ?_) (fun c1 => ?_)
  · have h := h.1 c1
    refine zb_iconst X (0 : Int32) dX7_moveToZero_64 (by decide) ?_
    refine zb_istore_n X (lv' := [(2, .int (0 : Int32)), (0, .ref (ad 18)), (1, .int x1)]) dX7_moveToZero_65 rfl (by decide) rfl ?_
    refine zb_sub [1, 2, 0] rfl ?_
    exact hK66 x1 (0 : Int32) al h
  · have h := h.2 c1
    refine zb_iload_n X dX7_moveToZero_30 rfl 1 rfl ?_
    refine zb_aload_n X dX7_moveToZero_31 rfl 0 rfl ?_
    refine zb_getR X 18 (zTC_lt (by decide)) 7 [6, 14, 4, 21, 22, 23, 0, 0, 0] rfl (C := RX7) (Tt := TX7) (N := 9) rfl kX7_moveToZero_1 3 (by decide) 19 rfl kX7_moveToZero_0 rfl dX7_moveToZero_32 ?_
    refine zb_iload_n X dX7_moveToZero_35 rfl 2 rfl ?_
    obtain ⟨hz, h⟩ := h
    refine zb_iald X 19 (zTC_lt (by decide)) 1 48 0 0 rfl (Or.inl rfl) x2.toNatClampNeg rfl hz dX7_moveToZero_36 (al 19 x2.toNatClampNeg) rfl ?_
    refine zb_mmin X kX7_moveToZero_6 kX7_moveToZero_7 kX7_moveToZero_8 kX7_moveToZero_9 ⟨⟨Nat.le_of_ble_eq_true rfl, Nat.le_of_ble_eq_true rfl⟩, Nat.le_of_ble_eq_true rfl, Nat.le_of_ble_eq_true rfl⟩ dX7_moveToZero_37 ?_
    refine zb_istore_n X (lv' := [(1, .int (if (al 19 x2.toNatClampNeg) < x1 then (al 19 x2.toNatClampNeg) else x1)), (0, .ref (ad 18)), (2, .int x2)]) dX7_moveToZero_40 rfl (by decide) rfl ?_
    refine zb_aload_n X dX7_moveToZero_41 rfl 1 rfl ?_
    refine zb_aload_n X dX7_moveToZero_42 rfl 1 rfl ?_
    refine zb_getI X 18 (zTC_lt (by decide)) 7 [6, 14, 4, 21, 22, 23, 0, 0, 0] rfl (C := RX7) (Tt := TX7) (N := 9) rfl kX7_moveToZero_1 8 (by decide) rfl kX7_moveToZero_2 rfl dX7_moveToZero_43 (al 18 8) rfl ?_
    refine zb_aload_n X dX7_moveToZero_46 rfl 1 rfl ?_
    refine zb_getR X 18 (zTC_lt (by decide)) 7 [6, 14, 4, 21, 22, 23, 0, 0, 0] rfl (C := RX7) (Tt := TX7) (N := 9) rfl kX7_moveToZero_1 3 (by decide) 19 rfl kX7_moveToZero_0 rfl dX7_moveToZero_47 ?_
    refine zb_iload_n X dX7_moveToZero_50 rfl 2 rfl ?_
    obtain ⟨hz, h⟩ := h
    refine zb_iald X 19 (zTC_lt (by decide)) 1 48 0 0 rfl (Or.inl rfl) x2.toNatClampNeg rfl hz dX7_moveToZero_51 (al 19 x2.toNatClampNeg) rfl ?_
    refine zb_mmax X kX7_moveToZero_10 kX7_moveToZero_11 kX7_moveToZero_8 kX7_moveToZero_12 ⟨⟨Nat.le_of_ble_eq_true rfl, Nat.le_of_ble_eq_true rfl⟩, Nat.le_of_ble_eq_true rfl, Nat.le_of_ble_eq_true rfl⟩ dX7_moveToZero_52 ?_
    refine zb_putI X 18 (zTC_lt (by decide)) 7 [6, 14, 4, 21, 22, 23, 0, 0, 0] rfl (C := RX7) (Tt := TX7) (N := 9) rfl kX7_moveToZero_1 tyX7 tyX7_ok nmX7 8 (by decide) rfl kX7_moveToZero_2 rfl rfl rfl rfl dX7_moveToZero_55 ?_
    refine zb_iinc X (lv' := [(2, .int (x2 + (1 : Int32))), (1, .int (if (al 19 x2.toNatClampNeg) < x1 then (al 19 x2.toNatClampNeg) else x1)), (0, .ref (ad 18))]) (x2 + (1 : Int32)) dX7_moveToZero_58 2 rfl rfl (by decide) rfl ?_
    refine zb_goto X 19 dX7_moveToZero_61 (by decide) ?_
    refine zb_sub [2, 1, 0] rfl ?_
    exact hK19 (if (al 19 x2.toNatClampNeg) < x1 then (al 19 x2.toNatClampNeg) else x1) (x2 + (1 : Int32)) (up2 al 18 8 (if (al 18 8) < (al 19 x2.toNatClampNeg) then (al 19 x2.toNatClampNeg) else (al 18 8))) h
set_option maxRecDepth 20000 in
theorem tX7_moveToZero_66 {G : zG} {Z : zC} {r : Bool} {ad ln : Nat → Nat} (X : zX G Z cX7_moveToZero 3 RX7 wsX7_moveToZero) {K19 : Int32 → Int32 → (Nat → Nat → Int32) → Prop} {K66 : Int32 → Int32 → (Nat → Nat → Int32) → Prop} {post : (Nat → Nat → Int32) → Prop} (hR : zRv G Z rmX7_moveToZero 3 (zTC r) ad ln cX7_moveToZero post) (hK19 : ∀ x1 x2 : Int32, ∀ al, K19 x1 x2 al → zB G Z rmX7_moveToZero 3 (zTC r) ad ln 0 0 19 [(0, .ref (ad 18)), (1, .int x1), (2, .int x2)] [] al) (hK66 : ∀ x1 x2 : Int32, ∀ al, K66 x1 x2 al → zB G Z rmX7_moveToZero 3 (zTC r) ad ln 0 0 66 [(0, .ref (ad 18)), (1, .int x1), (2, .int x2)] [] al) (x1 x2 : Int32) (al : Nat → Nat → Int32) (h : vcX7_moveToZero_66 G r ad ln K19 K66 post x1 x2 al) : zB G Z rmX7_moveToZero 3 (zTC r) ad ln 0 0 66 [(0, .ref (ad 18)), (1, .int x1), (2, .int x2)] [] al := by
  unfold vcX7_moveToZero_66 at h
  refine zb_iload_n X dX7_moveToZero_66 rfl 2 rfl ?_
  refine zb_aload_n X dX7_moveToZero_67 rfl 0 rfl ?_
  refine zb_getR X 18 (zTC_lt (by decide)) 7 [6, 14, 4, 21, 22, 23, 0, 0, 0] rfl (C := RX7) (Tt := TX7) (N := 9) rfl kX7_moveToZero_1 0 (by decide) 4 rfl kX7_moveToZero_3 rfl dX7_moveToZero_68 ?_
  refine zb_getI X 4 (zTC_lt (by decide)) 0 [7, 0, 8] rfl (C := RX0) (Tt := TX0) (N := 3) rfl kX7_moveToZero_5 1 (by decide) rfl kX7_moveToZero_4 rfl dX7_moveToZero_71 (al 4 1) rfl ?_
  refine zb_icmp_ge X 93 dX7_moveToZero_74 (by decide) (fun c1 => ?_) (fun c1 => ?_)
  · have h := h.1 c1
    refine zb_aload_n X dX7_moveToZero_93 rfl 0 rfl ?_
    refine zb_dup X dX7_moveToZero_94 rfl ?_
    refine zb_getI X 18 (zTC_lt (by decide)) 7 [6, 14, 4, 21, 22, 23, 0, 0, 0] rfl (C := RX7) (Tt := TX7) (N := 9) rfl kX7_moveToZero_1 8 (by decide) rfl kX7_moveToZero_2 rfl dX7_moveToZero_95 (al 18 8) rfl ?_
    refine zb_iload_n X dX7_moveToZero_98 rfl 1 rfl ?_
    refine zb_isub X dX7_moveToZero_99 ?_
    refine zb_putI X 18 (zTC_lt (by decide)) 7 [6, 14, 4, 21, 22, 23, 0, 0, 0] rfl (C := RX7) (Tt := TX7) (N := 9) rfl kX7_moveToZero_1 tyX7 tyX7_ok nmX7 8 (by decide) rfl kX7_moveToZero_2 rfl rfl rfl rfl dX7_moveToZero_100 ?_
    exact hR 103 _ _ dX7_moveToZero_103 h
  · have h := h.2 c1
    refine zb_aload_n X dX7_moveToZero_77 rfl 0 rfl ?_
    refine zb_getR X 18 (zTC_lt (by decide)) 7 [6, 14, 4, 21, 22, 23, 0, 0, 0] rfl (C := RX7) (Tt := TX7) (N := 9) rfl kX7_moveToZero_1 3 (by decide) 19 rfl kX7_moveToZero_0 rfl dX7_moveToZero_78 ?_
    refine zb_iload_n X dX7_moveToZero_81 rfl 2 rfl ?_
    refine zb_dup2 X dX7_moveToZero_82 rfl rfl ?_
    obtain ⟨hz, h⟩ := h
    refine zb_iald X 19 (zTC_lt (by decide)) 1 48 0 0 rfl (Or.inl rfl) x2.toNatClampNeg rfl hz dX7_moveToZero_83 (al 19 x2.toNatClampNeg) rfl ?_
    refine zb_iload_n X dX7_moveToZero_84 rfl 1 rfl ?_
    refine zb_isub X dX7_moveToZero_85 ?_
    obtain ⟨hz, h⟩ := h
    refine zb_iast X 19 (zTC_lt (by decide)) 1 48 0 0 rfl (Or.inl rfl) x2.toNatClampNeg rfl hz dX7_moveToZero_86 ?_
    refine zb_iinc X (lv' := [(2, .int (x2 + (1 : Int32))), (0, .ref (ad 18)), (1, .int x1)]) (x2 + (1 : Int32)) dX7_moveToZero_87 2 rfl rfl (by decide) rfl ?_
    refine zb_goto X 66 dX7_moveToZero_90 (by decide) ?_
    refine zb_sub [1, 2, 0] rfl ?_
    exact hK66 x1 (x2 + (1 : Int32)) (up2 al 19 x2.toNatClampNeg ((al 19 x2.toNatClampNeg) - x1)) h
theorem uX7_moveToZero_0 {G : zG} {Z : zC} {r : Bool} {ad ln : Nat → Nat} (X : zX G Z cX7_moveToZero 3 RX7 wsX7_moveToZero) {post : (Nat → Nat → Int32) → Prop} (hR : zRv G Z rmX7_moveToZero 3 (zTC r) ad ln cX7_moveToZero post) (al : Nat → Nat → Int32) (h : vcX7_moveToZero_0 G r ad ln (BX7_moveToZero_19 G Z r ad ln) (BX7_moveToZero_66 G Z r ad ln) post  al) : zB G Z rmX7_moveToZero 3 (zTC r) ad ln 0 0 0 [(0, .ref (ad 18))] [] al := tX7_moveToZero_0 X hR (fun _ _ _ h => h) (fun _ _ _ h => h)  al h
theorem uX7_moveToZero_19 {G : zG} {Z : zC} {r : Bool} {ad ln : Nat → Nat} (X : zX G Z cX7_moveToZero 3 RX7 wsX7_moveToZero) {post : (Nat → Nat → Int32) → Prop} (hR : zRv G Z rmX7_moveToZero 3 (zTC r) ad ln cX7_moveToZero post) (x1 x2 : Int32) (al : Nat → Nat → Int32) (h : vcX7_moveToZero_19 G r ad ln (BX7_moveToZero_19 G Z r ad ln) (BX7_moveToZero_66 G Z r ad ln) post x1 x2 al) : zB G Z rmX7_moveToZero 3 (zTC r) ad ln 0 0 19 [(0, .ref (ad 18)), (1, .int x1), (2, .int x2)] [] al := tX7_moveToZero_19 X hR (fun _ _ _ h => h) (fun _ _ _ h => h) x1 x2 al h
theorem uX7_moveToZero_66 {G : zG} {Z : zC} {r : Bool} {ad ln : Nat → Nat} (X : zX G Z cX7_moveToZero 3 RX7 wsX7_moveToZero) {post : (Nat → Nat → Int32) → Prop} (hR : zRv G Z rmX7_moveToZero 3 (zTC r) ad ln cX7_moveToZero post) (x1 x2 : Int32) (al : Nat → Nat → Int32) (h : vcX7_moveToZero_66 G r ad ln (BX7_moveToZero_19 G Z r ad ln) (BX7_moveToZero_66 G Z r ad ln) post x1 x2 al) : zB G Z rmX7_moveToZero 3 (zTC r) ad ln 0 0 66 [(0, .ref (ad 18)), (1, .int x1), (2, .int x2)] [] al := tX7_moveToZero_66 X hR (fun _ _ _ h => h) (fun _ _ _ h => h) x1 x2 al h

abbrev rmX7_fill : Room := { frames := 6, cells := 0, slots := 0, locals := 134 }
theorem kX7_fill_0 : Cond.fieldLink RX7 32 RX7 "distance" "I" ∈ wsX7_fill := by decide +kernel
theorem kX7_fill_1 : zIn RX7 TX7 9 wsX7_fill := by decide +kernel
theorem kX7_fill_2 : Cond.fieldLink RX7 9 RX7 "cycle" "[I" ∈ wsX7_fill := by decide +kernel
theorem kX7_fill_3 : Cond.fieldLink RX7 15 RX7 "latest" "[I" ∈ wsX7_fill := by decide +kernel
theorem kX7_fill_4 : Cond.fieldLink RX7 18 RX7 "used" "[I" ∈ wsX7_fill := by decide +kernel
theorem kX7_fill_5 : Cond.fieldLink RX7 21 RX7 "loop" "LLoopForge$Loop;" ∈ wsX7_fill := by decide +kernel
theorem kX7_fill_6 : Cond.fieldLink RX7 42 RX0 "size" "I" ∈ wsX7_fill := by decide +kernel
theorem kX7_fill_7 : zIn RX0 TX0 3 wsX7_fill := by decide +kernel
theorem kX7_fill_8 : Cond.fieldLink RX7 51 RX7 "tries" "I" ∈ wsX7_fill := by decide +kernel
abbrev BX7_fill_64 (G : zG) (Z : zC) (r : Bool) (ad ln : Nat → Nat) (p1 : Int32) (x2 x3 : Int32) (al : Nat → Nat → Int32) : Prop := zB G Z rmX7_fill 4 (zTC r) ad ln 0 0 64 [(0, .ref (ad 18)), (2, .int x2), (3, .int x3)] [] al
def vcX7_fill_12 (G : zG) (r : Bool) (ad ln : Nat → Nat) (p1 : Int32) (K64 : Int32 → Int32 → (Nat → Nat → Int32) → Prop) (post : Int32 → (Nat → Nat → Int32) → Prop) (al : Nat → Nat → Int32) : Prop :=
  post (0 : Int32) al
def vcX7_fill_0 (G : zG) (r : Bool) (ad ln : Nat → Nat) (p1 : Int32) (K64 : Int32 → Int32 → (Nat → Nat → Int32) → Prop) (post : Int32 → (Nat → Nat → Int32) → Prop) (al : Nat → Nat → Int32) : Prop :=
  (p1 < (1 : Int32) → vcX7_fill_12 G r ad ln p1 K64 post  al) ∧ (¬ p1 < (1 : Int32) → (p1 ≤ (200 : Int32) → zMv G yJ7_fill_53178 wsJ7_fill_53178 rmJ7_fill_53178 (zTC r) ad ln [.ref (ad 19), .int (-1 : Int32)] (up2 al 18 6 p1) (fun a3 => zMv G yJ7_fill_53178 wsJ7_fill_53178 rmJ7_fill_53178 (zTC r) ad ln [.ref (ad 20), .int (-1 : Int32)] a3 (fun a4 => zMv G yJ7_fill_53178 wsJ7_fill_53178 rmJ7_fill_53178 (zTC r) ad ln [.ref (ad 21), .int (0 : Int32)] a4 (fun a5 => zMi G yX7_highestWithout wsX7_highestWithout rmX7_highestWithout (zTC r) ad ln [.ref (ad 18)] a5 (fun q6 a6 => K64 ((8 : Int32) * (a5 4 1)) q6 (up2 a6 18 7 (0 : Int32))))))) ∧ (¬ p1 ≤ (200 : Int32) → vcX7_fill_12 G r ad ln p1 K64 post  al))
def vcX7_fill_99 (G : zG) (r : Bool) (ad ln : Nat → Nat) (p1 : Int32) (K64 : Int32 → Int32 → (Nat → Nat → Int32) → Prop) (post : Int32 → (Nat → Nat → Int32) → Prop) (x3 : Int32) (al : Nat → Nat → Int32) : Prop :=
  (x3 < 0 → zMv G yX7_moveToZero wsX7_moveToZero rmX7_moveToZero (zTC r) ad ln [.ref (ad 18)] al (fun a2 => post (1 : Int32) a2)) ∧ (¬ x3 < 0 → post (0 : Int32) al)
def vcX7_fill_64 (G : zG) (r : Bool) (ad ln : Nat → Nat) (p1 : Int32) (K64 : Int32 → Int32 → (Nat → Nat → Int32) → Prop) (post : Int32 → (Nat → Nat → Int32) → Prop) (x2 x3 : Int32) (al : Nat → Nat → Int32) : Prop :=
  (x2 ≤ (al 18 7) → vcX7_fill_99 G r ad ln p1 K64 post x3 al) ∧ (¬ x2 ≤ (al 18 7) → (x3 < 0 → vcX7_fill_99 G r ad ln p1 K64 post x3 al) ∧ (¬ x3 < 0 → zMv G yX7_tryRow wsX7_tryRow rmX7_tryRow (zTC r) ad ln [.ref (ad 18), .int x3] al (fun a3 => zMi G yX7_highestWithout wsX7_highestWithout rmX7_highestWithout (zTC r) ad ln [.ref (ad 18)] a3 (fun q4 a4 => K64 x2 q4 (up2 a4 18 7 ((a4 18 7) + (1 : Int32)))))))
set_option maxRecDepth 20000 in
theorem tX7_fill_12 {G : zG} {Z : zC} {r : Bool} {ad ln : Nat → Nat} (X : zX G Z cX7_fill 4 RX7 wsX7_fill) (p1 : Int32) {K64 : Int32 → Int32 → (Nat → Nat → Int32) → Prop} {post : Int32 → (Nat → Nat → Int32) → Prop} (hR : zRi G Z rmX7_fill 4 (zTC r) ad ln cX7_fill .boolean post) (hK64 : ∀ x2 x3 : Int32, ∀ al, K64 x2 x3 al → zB G Z rmX7_fill 4 (zTC r) ad ln 0 0 64 [(0, .ref (ad 18)), (2, .int x2), (3, .int x3)] [] al) (al : Nat → Nat → Int32) (h : vcX7_fill_12 G r ad ln p1 K64 post  al) : zB G Z rmX7_fill 4 (zTC r) ad ln 0 0 12 [] [] al := by
  unfold vcX7_fill_12 at h
  refine zb_iconst X (0 : Int32) dX7_fill_12 (by decide) ?_
  exact hR 13 _ _ _ dX7_fill_13 rfl h
set_option maxRecDepth 20000 in
theorem tX7_fill_0 {G : zG} {Z : zC} {r : Bool} {ad ln : Nat → Nat} (X : zX G Z cX7_fill 4 RX7 wsX7_fill) (p1 : Int32) {K64 : Int32 → Int32 → (Nat → Nat → Int32) → Prop} {post : Int32 → (Nat → Nat → Int32) → Prop} (hR : zRi G Z rmX7_fill 4 (zTC r) ad ln cX7_fill .boolean post) (hK64 : ∀ x2 x3 : Int32, ∀ al, K64 x2 x3 al → zB G Z rmX7_fill 4 (zTC r) ad ln 0 0 64 [(0, .ref (ad 18)), (2, .int x2), (3, .int x3)] [] al) (al : Nat → Nat → Int32) (h : vcX7_fill_0 G r ad ln p1 K64 post  al) : zB G Z rmX7_fill 4 (zTC r) ad ln 0 0 0 [(0, .ref (ad 18)), (1, .int p1)] [] al := by
  unfold vcX7_fill_0 at h
  refine zb_iload_n X dX7_fill_0 rfl 1 rfl ?_
  refine zb_iconst X (1 : Int32) dX7_fill_1 (by decide) ?_
  refine zb_icmp_lt X 12 dX7_fill_2 (by decide) (fun c1 => ?_) (fun c1 => ?_)
  · have h := h.1 c1
    refine zb_sub [] rfl ?_
    exact tX7_fill_12 X p1 hR hK64  al h
  · have h := h.2 c1
    refine zb_iload_n X dX7_fill_5 rfl 1 rfl ?_
    refine zb_sipush X (200 : Int32) dX7_fill_6 (by decide) ?_
    refine zb_icmp_le X 14 dX7_fill_9 (by decide) (fun c2 => ?_) (fun c2 => ?_)
    · have h := h.1 c2
      refine zb_aload_n X dX7_fill_14 rfl 0 rfl ?_
      refine zb_iload_n X dX7_fill_15 rfl 1 rfl ?_
      refine zb_putI X 18 (zTC_lt (by decide)) 7 [6, 14, 4, 21, 22, 23, 0, 0, 0] rfl (C := RX7) (Tt := TX7) (N := 9) rfl kX7_fill_1 tyX7 tyX7_ok nmX7 6 (by decide) rfl kX7_fill_0 rfl rfl rfl rfl dX7_fill_16 ?_
      refine zb_aload_n X dX7_fill_19 rfl 0 rfl ?_
      refine zb_getR X 18 (zTC_lt (by decide)) 7 [6, 14, 4, 21, 22, 23, 0, 0, 0] rfl (C := RX7) (Tt := TX7) (N := 9) rfl kX7_fill_1 3 (by decide) 19 rfl kX7_fill_2 rfl dX7_fill_20 ?_
      refine zb_iconst X (-1 : Int32) dX7_fill_23 (by decide) ?_
      refine zb_callSv (n := 2) X h gX7_fill_J7_fill_53178 rfl (by decide +kernel) (by decide) rfl rfl (Nat.le_of_ble_eq_true rfl) dX7_fill_24 (kc' := 0) (ks' := 0) rfl rfl (fun a3 h => ?_)
      refine zb_aload_n X dX7_fill_27 rfl 0 rfl ?_
      refine zb_getR X 18 (zTC_lt (by decide)) 7 [6, 14, 4, 21, 22, 23, 0, 0, 0] rfl (C := RX7) (Tt := TX7) (N := 9) rfl kX7_fill_1 4 (by decide) 20 rfl kX7_fill_3 rfl dX7_fill_28 ?_
      refine zb_iconst X (-1 : Int32) dX7_fill_31 (by decide) ?_
      refine zb_callSv (n := 2) X h gX7_fill_J7_fill_53178 rfl (by decide +kernel) (by decide) rfl rfl (Nat.le_of_ble_eq_true rfl) dX7_fill_32 (kc' := 0) (ks' := 0) rfl rfl (fun a4 h => ?_)
      refine zb_aload_n X dX7_fill_35 rfl 0 rfl ?_
      refine zb_getR X 18 (zTC_lt (by decide)) 7 [6, 14, 4, 21, 22, 23, 0, 0, 0] rfl (C := RX7) (Tt := TX7) (N := 9) rfl kX7_fill_1 5 (by decide) 21 rfl kX7_fill_4 rfl dX7_fill_36 ?_
      refine zb_iconst X (0 : Int32) dX7_fill_39 (by decide) ?_
      refine zb_callSv (n := 2) X h gX7_fill_J7_fill_53178 rfl (by decide +kernel) (by decide) rfl rfl (Nat.le_of_ble_eq_true rfl) dX7_fill_40 (kc' := 0) (ks' := 0) rfl rfl (fun a5 h => ?_)
      refine zb_bipush X (8 : Int32) dX7_fill_43 (by decide) ?_
      refine zb_aload_n X dX7_fill_45 rfl 0 rfl ?_
      refine zb_getR X 18 (zTC_lt (by decide)) 7 [6, 14, 4, 21, 22, 23, 0, 0, 0] rfl (C := RX7) (Tt := TX7) (N := 9) rfl kX7_fill_1 0 (by decide) 4 rfl kX7_fill_5 rfl dX7_fill_46 ?_
      refine zb_getI X 4 (zTC_lt (by decide)) 0 [7, 0, 8] rfl (C := RX0) (Tt := TX0) (N := 3) rfl kX7_fill_7 1 (by decide) rfl kX7_fill_6 rfl dX7_fill_49 (a5 4 1) rfl ?_
      refine zb_imul X dX7_fill_52 ?_
      refine zb_istore_n X (lv' := [(2, .int ((8 : Int32) * (a5 4 1))), (0, .ref (ad 18)), (1, .int p1)]) dX7_fill_53 rfl (by decide) rfl ?_
      refine zb_aload_n X dX7_fill_54 rfl 1 rfl ?_
      refine zb_callVi (n := 0) X 18 (zTC_lt (by decide)) 7 [6, 14, 4, 21, 22, 23, 0, 0, 0] rfl (C := RX7) (Tt := TX7) (N := 9) rfl h gX7_fill_X7_highestWithout rfl (by decide +kernel) (by decide) rfl rfl (Nat.le_of_ble_eq_true rfl) dX7_fill_55 (kc' := 0) (ks' := 0) rfl rfl (fun q6 a6 h => ?_)
      refine zb_istore_n X (lv' := [(3, .int q6), (2, .int ((8 : Int32) * (a5 4 1))), (0, .ref (ad 18)), (1, .int p1)]) dX7_fill_58 rfl (by decide) rfl ?_
      refine zb_aload_n X dX7_fill_59 rfl 2 rfl ?_
      refine zb_iconst X (0 : Int32) dX7_fill_60 (by decide) ?_
      refine zb_putI X 18 (zTC_lt (by decide)) 7 [6, 14, 4, 21, 22, 23, 0, 0, 0] rfl (C := RX7) (Tt := TX7) (N := 9) rfl kX7_fill_1 tyX7 tyX7_ok nmX7 7 (by decide) rfl kX7_fill_8 rfl rfl rfl rfl dX7_fill_61 ?_
      refine zb_sub [2, 1, 0] rfl ?_
      exact hK64 ((8 : Int32) * (a5 4 1)) q6 (up2 a6 18 7 (0 : Int32)) h
    · have h := h.2 c2
      refine zb_sub [] rfl ?_
      exact tX7_fill_12 X p1 hR hK64  al h
set_option maxRecDepth 20000 in
theorem tX7_fill_99 {G : zG} {Z : zC} {r : Bool} {ad ln : Nat → Nat} (X : zX G Z cX7_fill 4 RX7 wsX7_fill) (p1 : Int32) {K64 : Int32 → Int32 → (Nat → Nat → Int32) → Prop} {post : Int32 → (Nat → Nat → Int32) → Prop} (hR : zRi G Z rmX7_fill 4 (zTC r) ad ln cX7_fill .boolean post) (hK64 : ∀ x2 x3 : Int32, ∀ al, K64 x2 x3 al → zB G Z rmX7_fill 4 (zTC r) ad ln 0 0 64 [(0, .ref (ad 18)), (2, .int x2), (3, .int x3)] [] al) (x3 : Int32) (al : Nat → Nat → Int32) (h : vcX7_fill_99 G r ad ln p1 K64 post x3 al) : zB G Z rmX7_fill 4 (zTC r) ad ln 0 0 99 [(0, .ref (ad 18)), (3, .int x3)] [] al := by
  unfold vcX7_fill_99 at h
  refine zb_iload_n X dX7_fill_99 rfl 1 rfl ?_
  refine zb_if_lt X 105 dX7_fill_100 (by decide) (fun c1 => ?_) (fun c1 => ?_)
  · have h := h.1 c1
    refine zb_aload_n X dX7_fill_105 rfl 0 rfl ?_
    refine zb_callVv (n := 0) X 18 (zTC_lt (by decide)) 7 [6, 14, 4, 21, 22, 23, 0, 0, 0] rfl (C := RX7) (Tt := TX7) (N := 9) rfl h gX7_fill_X7_moveToZero rfl (by decide +kernel) (by decide) rfl rfl (Nat.le_of_ble_eq_true rfl) dX7_fill_106 (kc' := 0) (ks' := 0) rfl rfl (fun a2 h => ?_)
    refine zb_iconst X (1 : Int32) dX7_fill_109 (by decide) ?_
    exact hR 110 _ _ _ dX7_fill_110 rfl h
  · have h := h.2 c1
    refine zb_iconst X (0 : Int32) dX7_fill_103 (by decide) ?_
    exact hR 104 _ _ _ dX7_fill_104 rfl h
set_option maxRecDepth 20000 in
theorem tX7_fill_64 {G : zG} {Z : zC} {r : Bool} {ad ln : Nat → Nat} (X : zX G Z cX7_fill 4 RX7 wsX7_fill) (p1 : Int32) {K64 : Int32 → Int32 → (Nat → Nat → Int32) → Prop} {post : Int32 → (Nat → Nat → Int32) → Prop} (hR : zRi G Z rmX7_fill 4 (zTC r) ad ln cX7_fill .boolean post) (hK64 : ∀ x2 x3 : Int32, ∀ al, K64 x2 x3 al → zB G Z rmX7_fill 4 (zTC r) ad ln 0 0 64 [(0, .ref (ad 18)), (2, .int x2), (3, .int x3)] [] al) (x2 x3 : Int32) (al : Nat → Nat → Int32) (h : vcX7_fill_64 G r ad ln p1 K64 post x2 x3 al) : zB G Z rmX7_fill 4 (zTC r) ad ln 0 0 64 [(0, .ref (ad 18)), (2, .int x2), (3, .int x3)] [] al := by
  unfold vcX7_fill_64 at h
  refine zb_aload_n X dX7_fill_64 rfl 0 rfl ?_
  refine zb_getI X 18 (zTC_lt (by decide)) 7 [6, 14, 4, 21, 22, 23, 0, 0, 0] rfl (C := RX7) (Tt := TX7) (N := 9) rfl kX7_fill_1 7 (by decide) rfl kX7_fill_8 rfl dX7_fill_65 (al 18 7) rfl ?_
  refine zb_iload_n X dX7_fill_68 rfl 1 rfl ?_
  refine zb_icmp_ge X 99 dX7_fill_69 (by decide) (fun c1 => ?_) (fun c1 => ?_)
  · have h := h.1 c1
    refine zb_sub [0, 2] rfl ?_
    exact tX7_fill_99 X p1 hR hK64 x3 al h
  · have h := h.2 c1
    refine zb_iload_n X dX7_fill_72 rfl 2 rfl ?_
    refine zb_if_lt X 99 dX7_fill_73 (by decide) (fun c2 => ?_) (fun c2 => ?_)
    · have h := h.1 c2
      refine zb_sub [0, 2] rfl ?_
      exact tX7_fill_99 X p1 hR hK64 x3 al h
    · have h := h.2 c2
      refine zb_aload_n X dX7_fill_76 rfl 0 rfl ?_
      refine zb_iload_n X dX7_fill_77 rfl 2 rfl ?_
      refine zb_callVv (n := 1) X 18 (zTC_lt (by decide)) 7 [6, 14, 4, 21, 22, 23, 0, 0, 0] rfl (C := RX7) (Tt := TX7) (N := 9) rfl h gX7_fill_X7_tryRow rfl (by decide +kernel) (by decide) rfl rfl (Nat.le_of_ble_eq_true rfl) dX7_fill_78 (kc' := 0) (ks' := 0) rfl rfl (fun a3 h => ?_)
      refine zb_aload_n X dX7_fill_81 rfl 0 rfl ?_
      refine zb_callVi (n := 0) X 18 (zTC_lt (by decide)) 7 [6, 14, 4, 21, 22, 23, 0, 0, 0] rfl (C := RX7) (Tt := TX7) (N := 9) rfl h gX7_fill_X7_highestWithout rfl (by decide +kernel) (by decide) rfl rfl (Nat.le_of_ble_eq_true rfl) dX7_fill_82 (kc' := 0) (ks' := 0) rfl rfl (fun q4 a4 h => ?_)
      refine zb_istore_n X (lv' := [(3, .int q4), (0, .ref (ad 18)), (2, .int x2)]) dX7_fill_85 rfl (by decide) rfl ?_
      refine zb_aload_n X dX7_fill_86 rfl 1 rfl ?_
      refine zb_dup X dX7_fill_87 rfl ?_
      refine zb_getI X 18 (zTC_lt (by decide)) 7 [6, 14, 4, 21, 22, 23, 0, 0, 0] rfl (C := RX7) (Tt := TX7) (N := 9) rfl kX7_fill_1 7 (by decide) rfl kX7_fill_8 rfl dX7_fill_88 (a4 18 7) rfl ?_
      refine zb_iconst X (1 : Int32) dX7_fill_91 (by decide) ?_
      refine zb_iadd X dX7_fill_92 ?_
      refine zb_putI X 18 (zTC_lt (by decide)) 7 [6, 14, 4, 21, 22, 23, 0, 0, 0] rfl (C := RX7) (Tt := TX7) (N := 9) rfl kX7_fill_1 tyX7 tyX7_ok nmX7 7 (by decide) rfl kX7_fill_8 rfl rfl rfl rfl dX7_fill_93 ?_
      refine zb_goto X 64 dX7_fill_96 (by decide) ?_
      refine zb_sub [1, 2, 0] rfl ?_
      exact hK64 x2 q4 (up2 a4 18 7 ((a4 18 7) + (1 : Int32))) h
theorem uX7_fill_12 {G : zG} {Z : zC} {r : Bool} {ad ln : Nat → Nat} (X : zX G Z cX7_fill 4 RX7 wsX7_fill) (p1 : Int32) {post : Int32 → (Nat → Nat → Int32) → Prop} (hR : zRi G Z rmX7_fill 4 (zTC r) ad ln cX7_fill .boolean post) (al : Nat → Nat → Int32) (h : vcX7_fill_12 G r ad ln p1 (BX7_fill_64 G Z r ad ln p1) post  al) : zB G Z rmX7_fill 4 (zTC r) ad ln 0 0 12 [] [] al := tX7_fill_12 X p1 hR (fun _ _ _ h => h)  al h
theorem uX7_fill_0 {G : zG} {Z : zC} {r : Bool} {ad ln : Nat → Nat} (X : zX G Z cX7_fill 4 RX7 wsX7_fill) (p1 : Int32) {post : Int32 → (Nat → Nat → Int32) → Prop} (hR : zRi G Z rmX7_fill 4 (zTC r) ad ln cX7_fill .boolean post) (al : Nat → Nat → Int32) (h : vcX7_fill_0 G r ad ln p1 (BX7_fill_64 G Z r ad ln p1) post  al) : zB G Z rmX7_fill 4 (zTC r) ad ln 0 0 0 [(0, .ref (ad 18)), (1, .int p1)] [] al := tX7_fill_0 X p1 hR (fun _ _ _ h => h)  al h
theorem uX7_fill_99 {G : zG} {Z : zC} {r : Bool} {ad ln : Nat → Nat} (X : zX G Z cX7_fill 4 RX7 wsX7_fill) (p1 : Int32) {post : Int32 → (Nat → Nat → Int32) → Prop} (hR : zRi G Z rmX7_fill 4 (zTC r) ad ln cX7_fill .boolean post) (x3 : Int32) (al : Nat → Nat → Int32) (h : vcX7_fill_99 G r ad ln p1 (BX7_fill_64 G Z r ad ln p1) post x3 al) : zB G Z rmX7_fill 4 (zTC r) ad ln 0 0 99 [(0, .ref (ad 18)), (3, .int x3)] [] al := tX7_fill_99 X p1 hR (fun _ _ _ h => h) x3 al h
theorem uX7_fill_64 {G : zG} {Z : zC} {r : Bool} {ad ln : Nat → Nat} (X : zX G Z cX7_fill 4 RX7 wsX7_fill) (p1 : Int32) {post : Int32 → (Nat → Nat → Int32) → Prop} (hR : zRi G Z rmX7_fill 4 (zTC r) ad ln cX7_fill .boolean post) (x2 x3 : Int32) (al : Nat → Nat → Int32) (h : vcX7_fill_64 G r ad ln p1 (BX7_fill_64 G Z r ad ln p1) post x2 x3 al) : zB G Z rmX7_fill 4 (zTC r) ad ln 0 0 64 [(0, .ref (ad 18)), (2, .int x2), (3, .int x3)] [] al := tX7_fill_64 X p1 hR (fun _ _ _ h => h) x2 x3 al h
