abbrev rmX8_find : Room := { frames := 0, cells := 0, slots := 0, locals := 0 }
theorem kX8_find_0 : Cond.fieldLink RX8 34 RX8 "size" "I" ∈ wsX8_find := by decide +kernel
theorem kX8_find_1 : zIn RX8 TX8 10 wsX8_find := by decide +kernel
theorem kX8_find_2 : Cond.fieldLink RX8 9 RX8 "from" "[I" ∈ wsX8_find := by decide +kernel
theorem kX8_find_3 : Cond.fieldLink RX8 15 RX8 "to" "[I" ∈ wsX8_find := by decide +kernel
theorem kX8_find_4 : Cond.fieldLink RX8 18 RX8 "over" "[I" ∈ wsX8_find := by decide +kernel
abbrev BX8_find_3 (G : zG) (Z : zC) (r : Bool) (ad ln : Nat → Nat) (p1 : Int32) (p2 : Int32) (p3 : Int32) (x4 : Int32) (al : Nat → Nat → Int32) : Prop := zB G Z rmX8_find 5 (zTC r) ad ln 0 0 3 [(0, .ref (ad 12)), (1, .int p1), (2, .int p2), (3, .int p3), (4, .int x4)] [] al
def vcX8_find_0 (G : zG) (r : Bool) (ad ln : Nat → Nat) (p1 : Int32) (p2 : Int32) (p3 : Int32) (K3 : Int32 → (Nat → Nat → Int32) → Prop) (post : Int32 → (Nat → Nat → Int32) → Prop) (al : Nat → Nat → Int32) : Prop :=
  K3 (0 : Int32) al
def vcX8_find_48 (G : zG) (r : Bool) (ad ln : Nat → Nat) (p1 : Int32) (p2 : Int32) (p3 : Int32) (K3 : Int32 → (Nat → Nat → Int32) → Prop) (post : Int32 → (Nat → Nat → Int32) → Prop) (x4 : Int32) (al : Nat → Nat → Int32) : Prop :=
  K3 (x4 + (1 : Int32)) al
def vcX8_find_3 (G : zG) (r : Bool) (ad ln : Nat → Nat) (p1 : Int32) (p2 : Int32) (p3 : Int32) (K3 : Int32 → (Nat → Nat → Int32) → Prop) (post : Int32 → (Nat → Nat → Int32) → Prop) (x4 : Int32) (al : Nat → Nat → Int32) : Prop :=
  ((al 12 2) ≤ x4 → post (-1 : Int32) al) ∧ (¬ (al 12 2) ≤ x4 → (vp_in x4 (ln 13) ∧ (¬ (al 13 x4.toNatClampNeg) = p1 → vcX8_find_48 G r ad ln p1 p2 p3 K3 post x4 al) ∧ ((al 13 x4.toNatClampNeg) = p1 → (vp_in x4 (ln 14) ∧ (¬ (al 14 x4.toNatClampNeg) = p2 → vcX8_find_48 G r ad ln p1 p2 p3 K3 post x4 al) ∧ ((al 14 x4.toNatClampNeg) = p2 → (vp_in x4 (ln 15) ∧ (¬ (al 15 x4.toNatClampNeg) = p3 → vcX8_find_48 G r ad ln p1 p2 p3 K3 post x4 al) ∧ ((al 15 x4.toNatClampNeg) = p3 → post x4 al)))))))
set_option maxRecDepth 20000 in
theorem tX8_find_0 {G : zG} {Z : zC} {r : Bool} {ad ln : Nat → Nat} (X : zX G Z cX8_find 5 RX8 wsX8_find) (p1 : Int32) (p2 : Int32) (p3 : Int32) {K3 : Int32 → (Nat → Nat → Int32) → Prop} {post : Int32 → (Nat → Nat → Int32) → Prop} (hR : zRi G Z rmX8_find 5 (zTC r) ad ln cX8_find .int post) (hK3 : ∀ x4 : Int32, ∀ al, K3 x4 al → zB G Z rmX8_find 5 (zTC r) ad ln 0 0 3 [(0, .ref (ad 12)), (1, .int p1), (2, .int p2), (3, .int p3), (4, .int x4)] [] al) (al : Nat → Nat → Int32) (h : vcX8_find_0 G r ad ln p1 p2 p3 K3 post  al) : zB G Z rmX8_find 5 (zTC r) ad ln 0 0 0 [(0, .ref (ad 12)), (1, .int p1), (2, .int p2), (3, .int p3)] [] al := by
  unfold vcX8_find_0 at h
  refine zb_iconst X (0 : Int32) dX8_find_0 (by decide) ?_
  refine zb_istore X (lv' := [(4, .int (0 : Int32)), (0, .ref (ad 12)), (1, .int p1), (2, .int p2), (3, .int p3)]) dX8_find_1 (by decide) rfl ?_
  refine zb_sub [1, 2, 3, 4, 0] rfl ?_
  exact hK3 (0 : Int32) al h
set_option maxRecDepth 20000 in
theorem tX8_find_48 {G : zG} {Z : zC} {r : Bool} {ad ln : Nat → Nat} (X : zX G Z cX8_find 5 RX8 wsX8_find) (p1 : Int32) (p2 : Int32) (p3 : Int32) {K3 : Int32 → (Nat → Nat → Int32) → Prop} {post : Int32 → (Nat → Nat → Int32) → Prop} (hR : zRi G Z rmX8_find 5 (zTC r) ad ln cX8_find .int post) (hK3 : ∀ x4 : Int32, ∀ al, K3 x4 al → zB G Z rmX8_find 5 (zTC r) ad ln 0 0 3 [(0, .ref (ad 12)), (1, .int p1), (2, .int p2), (3, .int p3), (4, .int x4)] [] al) (x4 : Int32) (al : Nat → Nat → Int32) (h : vcX8_find_48 G r ad ln p1 p2 p3 K3 post x4 al) : zB G Z rmX8_find 5 (zTC r) ad ln 0 0 48 [(0, .ref (ad 12)), (1, .int p1), (2, .int p2), (3, .int p3), (4, .int x4)] [] al := by
  unfold vcX8_find_48 at h
  refine zb_iinc X (lv' := [(4, .int (x4 + (1 : Int32))), (0, .ref (ad 12)), (1, .int p1), (2, .int p2), (3, .int p3)]) (x4 + (1 : Int32)) dX8_find_48 4 rfl rfl (by decide) rfl ?_
  refine zb_goto X 3 dX8_find_51 (by decide) ?_
  refine zb_sub [1, 2, 3, 4, 0] rfl ?_
  exact hK3 (x4 + (1 : Int32)) al h
set_option maxRecDepth 20000 in
theorem tX8_find_3 {G : zG} {Z : zC} {r : Bool} {ad ln : Nat → Nat} (X : zX G Z cX8_find 5 RX8 wsX8_find) (p1 : Int32) (p2 : Int32) (p3 : Int32) {K3 : Int32 → (Nat → Nat → Int32) → Prop} {post : Int32 → (Nat → Nat → Int32) → Prop} (hR : zRi G Z rmX8_find 5 (zTC r) ad ln cX8_find .int post) (hK3 : ∀ x4 : Int32, ∀ al, K3 x4 al → zB G Z rmX8_find 5 (zTC r) ad ln 0 0 3 [(0, .ref (ad 12)), (1, .int p1), (2, .int p2), (3, .int p3), (4, .int x4)] [] al) (x4 : Int32) (al : Nat → Nat → Int32) (h : vcX8_find_3 G r ad ln p1 p2 p3 K3 post x4 al) : zB G Z rmX8_find 5 (zTC r) ad ln 0 0 3 [(0, .ref (ad 12)), (1, .int p1), (2, .int p2), (3, .int p3), (4, .int x4)] [] al := by
  unfold vcX8_find_3 at h
  refine zb_iload X dX8_find_3 4 rfl ?_
  refine zb_aload_n X dX8_find_5 rfl 0 rfl ?_
  refine zb_getI X 12 (zTC_lt (by decide)) 8 [6, 4, 0, 15, 16, 17, 18, 19, 0, 0] rfl (C := RX8) (Tt := TX8) (N := 10) rfl kX8_find_1 2 (by decide) rfl kX8_find_0 rfl dX8_find_6 (al 12 2) rfl ?_
  refine zb_icmp_ge X 54 dX8_find_9 (by decide) (fun c1 => ?_) (fun c1 => ?_)
  · have h := h.1 c1
    refine zb_iconst X (-1 : Int32) dX8_find_54 (by decide) ?_
    exact hR 55 _ _ _ dX8_find_55 rfl h
  · have h := h.2 c1
    refine zb_aload_n X dX8_find_12 rfl 0 rfl ?_
    refine zb_getR X 12 (zTC_lt (by decide)) 8 [6, 4, 0, 15, 16, 17, 18, 19, 0, 0] rfl (C := RX8) (Tt := TX8) (N := 10) rfl kX8_find_1 3 (by decide) 13 rfl kX8_find_2 rfl dX8_find_13 ?_
    refine zb_iload X dX8_find_16 4 rfl ?_
    obtain ⟨hz, h⟩ := h
    refine zb_iald X 13 (zTC_lt (by decide)) 2 0 0 0 rfl (Or.inr rfl) x4.toNatClampNeg rfl hz dX8_find_18 (al 13 x4.toNatClampNeg) rfl ?_
    refine zb_iload_n X dX8_find_19 rfl 1 rfl ?_
    refine zb_icmp_ne X 48 dX8_find_20 (by decide) (fun c2 => ?_) (fun c2 => ?_)
    · have h := h.1 c2
      refine zb_sub [0, 1, 2, 3, 4] rfl ?_
      exact tX8_find_48 X p1 p2 p3 hR hK3 x4 al h
    · have h := h.2 c2
      refine zb_aload_n X dX8_find_23 rfl 0 rfl ?_
      refine zb_getR X 12 (zTC_lt (by decide)) 8 [6, 4, 0, 15, 16, 17, 18, 19, 0, 0] rfl (C := RX8) (Tt := TX8) (N := 10) rfl kX8_find_1 4 (by decide) 14 rfl kX8_find_3 rfl dX8_find_24 ?_
      refine zb_iload X dX8_find_27 4 rfl ?_
      obtain ⟨hz, h⟩ := h
      refine zb_iald X 14 (zTC_lt (by decide)) 2 0 0 0 rfl (Or.inr rfl) x4.toNatClampNeg rfl hz dX8_find_29 (al 14 x4.toNatClampNeg) rfl ?_
      refine zb_iload_n X dX8_find_30 rfl 2 rfl ?_
      refine zb_icmp_ne X 48 dX8_find_31 (by decide) (fun c3 => ?_) (fun c3 => ?_)
      · have h := h.1 c3
        refine zb_sub [0, 1, 2, 3, 4] rfl ?_
        exact tX8_find_48 X p1 p2 p3 hR hK3 x4 al h
      · have h := h.2 c3
        refine zb_aload_n X dX8_find_34 rfl 0 rfl ?_
        refine zb_getR X 12 (zTC_lt (by decide)) 8 [6, 4, 0, 15, 16, 17, 18, 19, 0, 0] rfl (C := RX8) (Tt := TX8) (N := 10) rfl kX8_find_1 5 (by decide) 15 rfl kX8_find_4 rfl dX8_find_35 ?_
        refine zb_iload X dX8_find_38 4 rfl ?_
        obtain ⟨hz, h⟩ := h
        refine zb_iald X 15 (zTC_lt (by decide)) 2 0 0 0 rfl (Or.inr rfl) x4.toNatClampNeg rfl hz dX8_find_40 (al 15 x4.toNatClampNeg) rfl ?_
        refine zb_iload_n X dX8_find_41 rfl 3 rfl ?_
        refine zb_icmp_ne X 48 dX8_find_42 (by decide) (fun c4 => ?_) (fun c4 => ?_)
        · have h := h.1 c4
          refine zb_sub [0, 1, 2, 3, 4] rfl ?_
          exact tX8_find_48 X p1 p2 p3 hR hK3 x4 al h
        · have h := h.2 c4
          refine zb_iload X dX8_find_45 4 rfl ?_
          exact hR 47 _ _ _ dX8_find_47 rfl h
theorem uX8_find_0 {G : zG} {Z : zC} {r : Bool} {ad ln : Nat → Nat} (X : zX G Z cX8_find 5 RX8 wsX8_find) (p1 : Int32) (p2 : Int32) (p3 : Int32) {post : Int32 → (Nat → Nat → Int32) → Prop} (hR : zRi G Z rmX8_find 5 (zTC r) ad ln cX8_find .int post) (al : Nat → Nat → Int32) (h : vcX8_find_0 G r ad ln p1 p2 p3 (BX8_find_3 G Z r ad ln p1 p2 p3) post  al) : zB G Z rmX8_find 5 (zTC r) ad ln 0 0 0 [(0, .ref (ad 12)), (1, .int p1), (2, .int p2), (3, .int p3)] [] al := tX8_find_0 X p1 p2 p3 hR (fun _ _ h => h)  al h
theorem uX8_find_48 {G : zG} {Z : zC} {r : Bool} {ad ln : Nat → Nat} (X : zX G Z cX8_find 5 RX8 wsX8_find) (p1 : Int32) (p2 : Int32) (p3 : Int32) {post : Int32 → (Nat → Nat → Int32) → Prop} (hR : zRi G Z rmX8_find 5 (zTC r) ad ln cX8_find .int post) (x4 : Int32) (al : Nat → Nat → Int32) (h : vcX8_find_48 G r ad ln p1 p2 p3 (BX8_find_3 G Z r ad ln p1 p2 p3) post x4 al) : zB G Z rmX8_find 5 (zTC r) ad ln 0 0 48 [(0, .ref (ad 12)), (1, .int p1), (2, .int p2), (3, .int p3), (4, .int x4)] [] al := tX8_find_48 X p1 p2 p3 hR (fun _ _ h => h) x4 al h
theorem uX8_find_3 {G : zG} {Z : zC} {r : Bool} {ad ln : Nat → Nat} (X : zX G Z cX8_find 5 RX8 wsX8_find) (p1 : Int32) (p2 : Int32) (p3 : Int32) {post : Int32 → (Nat → Nat → Int32) → Prop} (hR : zRi G Z rmX8_find 5 (zTC r) ad ln cX8_find .int post) (x4 : Int32) (al : Nat → Nat → Int32) (h : vcX8_find_3 G r ad ln p1 p2 p3 (BX8_find_3 G Z r ad ln p1 p2 p3) post x4 al) : zB G Z rmX8_find 5 (zTC r) ad ln 0 0 3 [(0, .ref (ad 12)), (1, .int p1), (2, .int p2), (3, .int p3), (4, .int x4)] [] al := tX8_find_3 X p1 p2 p3 hR (fun _ _ h => h) x4 al h

abbrev rmX8_raiseHeights : Room := { frames := 0, cells := 0, slots := 0, locals := 0 }
theorem kX8_raiseHeights_0 : Cond.fieldLink RX8 34 RX8 "size" "I" ∈ wsX8_raiseHeights := by decide +kernel
theorem kX8_raiseHeights_1 : zIn RX8 TX8 10 wsX8_raiseHeights := by decide +kernel
theorem kX8_raiseHeights_2 : Cond.fieldLink RX8 24 RX8 "height" "[I" ∈ wsX8_raiseHeights := by decide +kernel
theorem kX8_raiseHeights_3 : Cond.fieldLink RX8 15 RX8 "to" "[I" ∈ wsX8_raiseHeights := by decide +kernel
theorem kX8_raiseHeights_4 : Cond.fieldLink RX8 21 RX8 "delay" "[I" ∈ wsX8_raiseHeights := by decide +kernel
theorem kX8_raiseHeights_5 : Cond.fieldLink RX8 18 RX8 "over" "[I" ∈ wsX8_raiseHeights := by decide +kernel
theorem kX8_raiseHeights_6 : Cond.fieldLink RX8 9 RX8 "from" "[I" ∈ wsX8_raiseHeights := by decide +kernel
abbrev BX8_raiseHeights_9 (G : zG) (Z : zC) (r : Bool) (ad ln : Nat → Nat) (p1 : Int32) (x2 x3 : Int32) (al : Nat → Nat → Int32) : Prop := zB G Z rmX8_raiseHeights 5 (zTC r) ad ln 0 0 9 [(0, .ref (ad 12)), (1, .int p1), (2, .int x2), (3, .int x3)] [] al
def vcX8_raiseHeights_0 (G : zG) (r : Bool) (ad ln : Nat → Nat) (p1 : Int32) (K9 : Int32 → Int32 → (Nat → Nat → Int32) → Prop) (post : Int32 → (Nat → Nat → Int32) → Prop) (al : Nat → Nat → Int32) : Prop :=
  K9 (0 : Int32) ((al 12 2) - (1 : Int32)) al
def vcX8_raiseHeights_73 (G : zG) (r : Bool) (ad ln : Nat → Nat) (p1 : Int32) (K9 : Int32 → Int32 → (Nat → Nat → Int32) → Prop) (post : Int32 → (Nat → Nat → Int32) → Prop) (x2 x3 : Int32) (al : Nat → Nat → Int32) : Prop :=
  K9 x2 (x3 + (-1 : Int32)) al
def vcX8_raiseHeights_9 (G : zG) (r : Bool) (ad ln : Nat → Nat) (p1 : Int32) (K9 : Int32 → Int32 → (Nat → Nat → Int32) → Prop) (post : Int32 → (Nat → Nat → Int32) → Prop) (x2 x3 : Int32) (al : Nat → Nat → Int32) : Prop :=
  (x3 < 0 → zOk .boolean x2 ∧ post x2 al) ∧ (¬ x3 < 0 → (vp_in x3 (ln 14) ∧ vp_in (al 14 x3.toNatClampNeg) 48 ∧ vp_in x3 (ln 16) ∧ vp_in x3 (ln 15) ∧ vp_in x3 (ln 13) ∧ vp_in (al 13 x3.toNatClampNeg) 48 ∧ ((((al 17 ((al 14 x3.toNatClampNeg).toNatClampNeg)) + (al 16 x3.toNatClampNeg)) - ((al 15 x3.toNatClampNeg) * p1)) ≤ (al 17 ((al 13 x3.toNatClampNeg).toNatClampNeg)) → vcX8_raiseHeights_73 G r ad ln p1 K9 post x2 x3 al) ∧ (¬ (((al 17 ((al 14 x3.toNatClampNeg).toNatClampNeg)) + (al 16 x3.toNatClampNeg)) - ((al 15 x3.toNatClampNeg) * p1)) ≤ (al 17 ((al 13 x3.toNatClampNeg).toNatClampNeg)) → (vp_in x3 (ln 13) ∧ vp_in (al 13 x3.toNatClampNeg) 48 ∧ vcX8_raiseHeights_73 G r ad ln p1 K9 post (1 : Int32) x3 (up2 al 17 ((al 13 x3.toNatClampNeg).toNatClampNeg) (((al 17 ((al 14 x3.toNatClampNeg).toNatClampNeg)) + (al 16 x3.toNatClampNeg)) - ((al 15 x3.toNatClampNeg) * p1)))))))
set_option maxRecDepth 20000 in
theorem tX8_raiseHeights_0 {G : zG} {Z : zC} {r : Bool} {ad ln : Nat → Nat} (X : zX G Z cX8_raiseHeights 5 RX8 wsX8_raiseHeights) (p1 : Int32) {K9 : Int32 → Int32 → (Nat → Nat → Int32) → Prop} {post : Int32 → (Nat → Nat → Int32) → Prop} (hR : zRi G Z rmX8_raiseHeights 5 (zTC r) ad ln cX8_raiseHeights .boolean post) (hK9 : ∀ x2 x3 : Int32, ∀ al, K9 x2 x3 al → zB G Z rmX8_raiseHeights 5 (zTC r) ad ln 0 0 9 [(0, .ref (ad 12)), (1, .int p1), (2, .int x2), (3, .int x3)] [] al) (al : Nat → Nat → Int32) (h : vcX8_raiseHeights_0 G r ad ln p1 K9 post  al) : zB G Z rmX8_raiseHeights 5 (zTC r) ad ln 0 0 0 [(0, .ref (ad 12)), (1, .int p1)] [] al := by
  unfold vcX8_raiseHeights_0 at h
  refine zb_iconst X (0 : Int32) dX8_raiseHeights_0 (by decide) ?_
  refine zb_istore_n X (lv' := [(2, .int (0 : Int32)), (0, .ref (ad 12)), (1, .int p1)]) dX8_raiseHeights_1 rfl (by decide) rfl ?_
  refine zb_aload_n X dX8_raiseHeights_2 rfl 1 rfl ?_
  refine zb_getI X 12 (zTC_lt (by decide)) 8 [6, 4, 0, 15, 16, 17, 18, 19, 0, 0] rfl (C := RX8) (Tt := TX8) (N := 10) rfl kX8_raiseHeights_1 2 (by decide) rfl kX8_raiseHeights_0 rfl dX8_raiseHeights_3 (al 12 2) rfl ?_
  refine zb_iconst X (1 : Int32) dX8_raiseHeights_6 (by decide) ?_
  refine zb_isub X dX8_raiseHeights_7 ?_
  refine zb_istore_n X (lv' := [(3, .int ((al 12 2) - (1 : Int32))), (2, .int (0 : Int32)), (0, .ref (ad 12)), (1, .int p1)]) dX8_raiseHeights_8 rfl (by decide) rfl ?_
  refine zb_sub [2, 3, 1, 0] rfl ?_
  exact hK9 (0 : Int32) ((al 12 2) - (1 : Int32)) al h
set_option maxRecDepth 20000 in
theorem tX8_raiseHeights_73 {G : zG} {Z : zC} {r : Bool} {ad ln : Nat → Nat} (X : zX G Z cX8_raiseHeights 5 RX8 wsX8_raiseHeights) (p1 : Int32) {K9 : Int32 → Int32 → (Nat → Nat → Int32) → Prop} {post : Int32 → (Nat → Nat → Int32) → Prop} (hR : zRi G Z rmX8_raiseHeights 5 (zTC r) ad ln cX8_raiseHeights .boolean post) (hK9 : ∀ x2 x3 : Int32, ∀ al, K9 x2 x3 al → zB G Z rmX8_raiseHeights 5 (zTC r) ad ln 0 0 9 [(0, .ref (ad 12)), (1, .int p1), (2, .int x2), (3, .int x3)] [] al) (x2 x3 : Int32) (al : Nat → Nat → Int32) (h : vcX8_raiseHeights_73 G r ad ln p1 K9 post x2 x3 al) : zB G Z rmX8_raiseHeights 5 (zTC r) ad ln 0 0 73 [(0, .ref (ad 12)), (1, .int p1), (2, .int x2), (3, .int x3)] [] al := by
  unfold vcX8_raiseHeights_73 at h
  refine zb_iinc X (lv' := [(3, .int (x3 + (-1 : Int32))), (0, .ref (ad 12)), (1, .int p1), (2, .int x2)]) (x3 + (-1 : Int32)) dX8_raiseHeights_73 3 rfl rfl (by decide) rfl ?_
  refine zb_goto X 9 dX8_raiseHeights_76 (by decide) ?_
  refine zb_sub [1, 2, 3, 0] rfl ?_
  exact hK9 x2 (x3 + (-1 : Int32)) al h
set_option maxRecDepth 20000 in
theorem tX8_raiseHeights_9 {G : zG} {Z : zC} {r : Bool} {ad ln : Nat → Nat} (X : zX G Z cX8_raiseHeights 5 RX8 wsX8_raiseHeights) (p1 : Int32) {K9 : Int32 → Int32 → (Nat → Nat → Int32) → Prop} {post : Int32 → (Nat → Nat → Int32) → Prop} (hR : zRi G Z rmX8_raiseHeights 5 (zTC r) ad ln cX8_raiseHeights .boolean post) (hK9 : ∀ x2 x3 : Int32, ∀ al, K9 x2 x3 al → zB G Z rmX8_raiseHeights 5 (zTC r) ad ln 0 0 9 [(0, .ref (ad 12)), (1, .int p1), (2, .int x2), (3, .int x3)] [] al) (x2 x3 : Int32) (al : Nat → Nat → Int32) (h : vcX8_raiseHeights_9 G r ad ln p1 K9 post x2 x3 al) : zB G Z rmX8_raiseHeights 5 (zTC r) ad ln 0 0 9 [(0, .ref (ad 12)), (1, .int p1), (2, .int x2), (3, .int x3)] [] al := by
  unfold vcX8_raiseHeights_9 at h
  refine zb_iload_n X dX8_raiseHeights_9 rfl 3 rfl ?_
  refine zb_if_lt X 79 dX8_raiseHeights_10 (by decide) (fun c1 => ?_) (fun c1 => ?_)
  · have h := h.1 c1
    refine zb_iload_n X dX8_raiseHeights_79 rfl 2 rfl ?_
    exact hR 80 _ _ _ dX8_raiseHeights_80 h.1 h.2
  · have h := h.2 c1
    refine zb_aload_n X dX8_raiseHeights_13 rfl 0 rfl ?_
    refine zb_getR X 12 (zTC_lt (by decide)) 8 [6, 4, 0, 15, 16, 17, 18, 19, 0, 0] rfl (C := RX8) (Tt := TX8) (N := 10) rfl kX8_raiseHeights_1 7 (by decide) 17 rfl kX8_raiseHeights_2 rfl dX8_raiseHeights_14 ?_
    refine zb_aload_n X dX8_raiseHeights_17 rfl 0 rfl ?_
    refine zb_getR X 12 (zTC_lt (by decide)) 8 [6, 4, 0, 15, 16, 17, 18, 19, 0, 0] rfl (C := RX8) (Tt := TX8) (N := 10) rfl kX8_raiseHeights_1 4 (by decide) 14 rfl kX8_raiseHeights_3 rfl dX8_raiseHeights_18 ?_
    refine zb_iload_n X dX8_raiseHeights_21 rfl 3 rfl ?_
    obtain ⟨hz, h⟩ := h
    refine zb_iald X 14 (zTC_lt (by decide)) 2 0 0 0 rfl (Or.inr rfl) x3.toNatClampNeg rfl hz dX8_raiseHeights_22 (al 14 x3.toNatClampNeg) rfl ?_
    obtain ⟨hz, h⟩ := h
    refine zb_iald X 17 (zTC_lt (by decide)) 1 48 0 0 rfl (Or.inl rfl) ((al 14 x3.toNatClampNeg).toNatClampNeg) rfl hz dX8_raiseHeights_23 (al 17 ((al 14 x3.toNatClampNeg).toNatClampNeg)) rfl ?_
    refine zb_aload_n X dX8_raiseHeights_24 rfl 0 rfl ?_
    refine zb_getR X 12 (zTC_lt (by decide)) 8 [6, 4, 0, 15, 16, 17, 18, 19, 0, 0] rfl (C := RX8) (Tt := TX8) (N := 10) rfl kX8_raiseHeights_1 6 (by decide) 16 rfl kX8_raiseHeights_4 rfl dX8_raiseHeights_25 ?_
    refine zb_iload_n X dX8_raiseHeights_28 rfl 3 rfl ?_
    obtain ⟨hz, h⟩ := h
    refine zb_iald X 16 (zTC_lt (by decide)) 2 0 0 0 rfl (Or.inr rfl) x3.toNatClampNeg rfl hz dX8_raiseHeights_29 (al 16 x3.toNatClampNeg) rfl ?_
    refine zb_iadd X dX8_raiseHeights_30 ?_
    refine zb_aload_n X dX8_raiseHeights_31 rfl 0 rfl ?_
    refine zb_getR X 12 (zTC_lt (by decide)) 8 [6, 4, 0, 15, 16, 17, 18, 19, 0, 0] rfl (C := RX8) (Tt := TX8) (N := 10) rfl kX8_raiseHeights_1 5 (by decide) 15 rfl kX8_raiseHeights_5 rfl dX8_raiseHeights_32 ?_
    refine zb_iload_n X dX8_raiseHeights_35 rfl 3 rfl ?_
    obtain ⟨hz, h⟩ := h
    refine zb_iald X 15 (zTC_lt (by decide)) 2 0 0 0 rfl (Or.inr rfl) x3.toNatClampNeg rfl hz dX8_raiseHeights_36 (al 15 x3.toNatClampNeg) rfl ?_
    refine zb_iload_n X dX8_raiseHeights_37 rfl 1 rfl ?_
    refine zb_imul X dX8_raiseHeights_38 ?_
    refine zb_isub X dX8_raiseHeights_39 ?_
    refine zb_istore X (lv' := [(4, .int (((al 17 ((al 14 x3.toNatClampNeg).toNatClampNeg)) + (al 16 x3.toNatClampNeg)) - ((al 15 x3.toNatClampNeg) * p1))), (0, .ref (ad 12)), (1, .int p1), (2, .int x2), (3, .int x3)]) dX8_raiseHeights_40 (by decide) rfl ?_
    refine zb_iload X dX8_raiseHeights_42 0 rfl ?_
    refine zb_aload_n X dX8_raiseHeights_44 rfl 1 rfl ?_
    refine zb_getR X 12 (zTC_lt (by decide)) 8 [6, 4, 0, 15, 16, 17, 18, 19, 0, 0] rfl (C := RX8) (Tt := TX8) (N := 10) rfl kX8_raiseHeights_1 7 (by decide) 17 rfl kX8_raiseHeights_2 rfl dX8_raiseHeights_45 ?_
    refine zb_aload_n X dX8_raiseHeights_48 rfl 1 rfl ?_
    refine zb_getR X 12 (zTC_lt (by decide)) 8 [6, 4, 0, 15, 16, 17, 18, 19, 0, 0] rfl (C := RX8) (Tt := TX8) (N := 10) rfl kX8_raiseHeights_1 3 (by decide) 13 rfl kX8_raiseHeights_6 rfl dX8_raiseHeights_49 ?_
    refine zb_iload_n X dX8_raiseHeights_52 rfl 4 rfl ?_
    obtain ⟨hz, h⟩ := h
    refine zb_iald X 13 (zTC_lt (by decide)) 2 0 0 0 rfl (Or.inr rfl) x3.toNatClampNeg rfl hz dX8_raiseHeights_53 (al 13 x3.toNatClampNeg) rfl ?_
    obtain ⟨hz, h⟩ := h
    refine zb_iald X 17 (zTC_lt (by decide)) 1 48 0 0 rfl (Or.inl rfl) ((al 13 x3.toNatClampNeg).toNatClampNeg) rfl hz dX8_raiseHeights_54 (al 17 ((al 13 x3.toNatClampNeg).toNatClampNeg)) rfl ?_
    refine zb_icmp_le X 73 dX8_raiseHeights_55 (by decide) (fun c2 => ?_) (fun c2 => ?_)
    · have h := h.1 c2
      refine zb_sub [1, 2, 3, 4] rfl ?_
      exact tX8_raiseHeights_73 X p1 hR hK9 x2 x3 al h
    · have h := h.2 c2
      refine zb_aload_n X dX8_raiseHeights_58 rfl 1 rfl ?_
      refine zb_getR X 12 (zTC_lt (by decide)) 8 [6, 4, 0, 15, 16, 17, 18, 19, 0, 0] rfl (C := RX8) (Tt := TX8) (N := 10) rfl kX8_raiseHeights_1 7 (by decide) 17 rfl kX8_raiseHeights_2 rfl dX8_raiseHeights_59 ?_
      refine zb_aload_n X dX8_raiseHeights_62 rfl 1 rfl ?_
      refine zb_getR X 12 (zTC_lt (by decide)) 8 [6, 4, 0, 15, 16, 17, 18, 19, 0, 0] rfl (C := RX8) (Tt := TX8) (N := 10) rfl kX8_raiseHeights_1 3 (by decide) 13 rfl kX8_raiseHeights_6 rfl dX8_raiseHeights_63 ?_
      refine zb_iload_n X dX8_raiseHeights_66 rfl 4 rfl ?_
      obtain ⟨hz, h⟩ := h
      refine zb_iald X 13 (zTC_lt (by decide)) 2 0 0 0 rfl (Or.inr rfl) x3.toNatClampNeg rfl hz dX8_raiseHeights_67 (al 13 x3.toNatClampNeg) rfl ?_
      refine zb_iload X dX8_raiseHeights_68 0 rfl ?_
      obtain ⟨hz, h⟩ := h
      refine zb_iast X 17 (zTC_lt (by decide)) 1 48 0 0 rfl (Or.inl rfl) ((al 13 x3.toNatClampNeg).toNatClampNeg) rfl hz dX8_raiseHeights_70 ?_
      refine zb_iconst X (1 : Int32) dX8_raiseHeights_71 (by decide) ?_
      refine zb_istore_n X (lv' := [(2, .int (1 : Int32)), (4, .int (((al 17 ((al 14 x3.toNatClampNeg).toNatClampNeg)) + (al 16 x3.toNatClampNeg)) - ((al 15 x3.toNatClampNeg) * p1))), (0, .ref (ad 12)), (1, .int p1), (3, .int x3)]) dX8_raiseHeights_72 rfl (by decide) rfl ?_
      refine zb_sub [2, 3, 0, 4] rfl ?_
      exact tX8_raiseHeights_73 X p1 hR hK9 (1 : Int32) x3 (up2 al 17 ((al 13 x3.toNatClampNeg).toNatClampNeg) (((al 17 ((al 14 x3.toNatClampNeg).toNatClampNeg)) + (al 16 x3.toNatClampNeg)) - ((al 15 x3.toNatClampNeg) * p1))) h
theorem uX8_raiseHeights_0 {G : zG} {Z : zC} {r : Bool} {ad ln : Nat → Nat} (X : zX G Z cX8_raiseHeights 5 RX8 wsX8_raiseHeights) (p1 : Int32) {post : Int32 → (Nat → Nat → Int32) → Prop} (hR : zRi G Z rmX8_raiseHeights 5 (zTC r) ad ln cX8_raiseHeights .boolean post) (al : Nat → Nat → Int32) (h : vcX8_raiseHeights_0 G r ad ln p1 (BX8_raiseHeights_9 G Z r ad ln p1) post  al) : zB G Z rmX8_raiseHeights 5 (zTC r) ad ln 0 0 0 [(0, .ref (ad 12)), (1, .int p1)] [] al := tX8_raiseHeights_0 X p1 hR (fun _ _ _ h => h)  al h
theorem uX8_raiseHeights_73 {G : zG} {Z : zC} {r : Bool} {ad ln : Nat → Nat} (X : zX G Z cX8_raiseHeights 5 RX8 wsX8_raiseHeights) (p1 : Int32) {post : Int32 → (Nat → Nat → Int32) → Prop} (hR : zRi G Z rmX8_raiseHeights 5 (zTC r) ad ln cX8_raiseHeights .boolean post) (x2 x3 : Int32) (al : Nat → Nat → Int32) (h : vcX8_raiseHeights_73 G r ad ln p1 (BX8_raiseHeights_9 G Z r ad ln p1) post x2 x3 al) : zB G Z rmX8_raiseHeights 5 (zTC r) ad ln 0 0 73 [(0, .ref (ad 12)), (1, .int p1), (2, .int x2), (3, .int x3)] [] al := tX8_raiseHeights_73 X p1 hR (fun _ _ _ h => h) x2 x3 al h
theorem uX8_raiseHeights_9 {G : zG} {Z : zC} {r : Bool} {ad ln : Nat → Nat} (X : zX G Z cX8_raiseHeights 5 RX8 wsX8_raiseHeights) (p1 : Int32) {post : Int32 → (Nat → Nat → Int32) → Prop} (hR : zRi G Z rmX8_raiseHeights 5 (zTC r) ad ln cX8_raiseHeights .boolean post) (x2 x3 : Int32) (al : Nat → Nat → Int32) (h : vcX8_raiseHeights_9 G r ad ln p1 (BX8_raiseHeights_9 G Z r ad ln p1) post x2 x3 al) : zB G Z rmX8_raiseHeights 5 (zTC r) ad ln 0 0 9 [(0, .ref (ad 12)), (1, .int p1), (2, .int x2), (3, .int x3)] [] al := tX8_raiseHeights_9 X p1 hR (fun _ _ _ h => h) x2 x3 al h

abbrev rmX8_findHeights : Room := { frames := 1, cells := 0, slots := 0, locals := 24 }
theorem kX8_findHeights_0 : Cond.fieldLink RX8 24 RX8 "height" "[I" ∈ wsX8_findHeights := by decide +kernel
theorem kX8_findHeights_1 : zIn RX8 TX8 10 wsX8_findHeights := by decide +kernel
theorem kX8_findHeights_2 : Cond.fieldLink RX8 27 RX8 "loop" "LLoopForge$Loop;" ∈ wsX8_findHeights := by decide +kernel
theorem kX8_findHeights_3 : Cond.fieldLink RX8 38 RX0 "size" "I" ∈ wsX8_findHeights := by decide +kernel
theorem kX8_findHeights_4 : zIn RX0 TX0 3 wsX8_findHeights := by decide +kernel
abbrev BX8_findHeights_10 (G : zG) (Z : zC) (r : Bool) (ad ln : Nat → Nat) (p1 : Int32) (x2 : Int32) (al : Nat → Nat → Int32) : Prop := zB G Z rmX8_findHeights 3 (zTC r) ad ln 0 0 10 [(0, .ref (ad 12)), (1, .int p1), (2, .int x2)] [] al
def vcX8_findHeights_0 (G : zG) (r : Bool) (ad ln : Nat → Nat) (p1 : Int32) (K10 : Int32 → (Nat → Nat → Int32) → Prop) (post : Int32 → (Nat → Nat → Int32) → Prop) (al : Nat → Nat → Int32) : Prop :=
  zMv G yJ7_fill_53178 wsJ7_fill_53178 rmJ7_fill_53178 (zTC r) ad ln [.ref (ad 17), .int (0 : Int32)] al (fun a1 => K10 (0 : Int32) a1)
def vcX8_findHeights_10 (G : zG) (r : Bool) (ad ln : Nat → Nat) (p1 : Int32) (K10 : Int32 → (Nat → Nat → Int32) → Prop) (post : Int32 → (Nat → Nat → Int32) → Prop) (x2 : Int32) (al : Nat → Nat → Int32) : Prop :=
  ((al 4 1) ≤ x2 → post (0 : Int32) al) ∧ (¬ (al 4 1) ≤ x2 → zMi G yX8_raiseHeights wsX8_raiseHeights rmX8_raiseHeights (zTC r) ad ln [.ref (ad 12), .int p1] al (fun q2 a2 => (¬ q2 = 0 → K10 (x2 + (1 : Int32)) a2) ∧ (q2 = 0 → post (1 : Int32) a2)))
set_option maxRecDepth 20000 in
theorem tX8_findHeights_0 {G : zG} {Z : zC} {r : Bool} {ad ln : Nat → Nat} (X : zX G Z cX8_findHeights 3 RX8 wsX8_findHeights) (p1 : Int32) {K10 : Int32 → (Nat → Nat → Int32) → Prop} {post : Int32 → (Nat → Nat → Int32) → Prop} (hR : zRi G Z rmX8_findHeights 3 (zTC r) ad ln cX8_findHeights .boolean post) (hK10 : ∀ x2 : Int32, ∀ al, K10 x2 al → zB G Z rmX8_findHeights 3 (zTC r) ad ln 0 0 10 [(0, .ref (ad 12)), (1, .int p1), (2, .int x2)] [] al) (al : Nat → Nat → Int32) (h : vcX8_findHeights_0 G r ad ln p1 K10 post  al) : zB G Z rmX8_findHeights 3 (zTC r) ad ln 0 0 0 [(0, .ref (ad 12)), (1, .int p1)] [] al := by
  unfold vcX8_findHeights_0 at h
  refine zb_aload_n X dX8_findHeights_0 rfl 0 rfl ?_
  refine zb_getR X 12 (zTC_lt (by decide)) 8 [6, 4, 0, 15, 16, 17, 18, 19, 0, 0] rfl (C := RX8) (Tt := TX8) (N := 10) rfl kX8_findHeights_1 7 (by decide) 17 rfl kX8_findHeights_0 rfl dX8_findHeights_1 ?_
  refine zb_iconst X (0 : Int32) dX8_findHeights_4 (by decide) ?_
  refine zb_callSv (n := 2) X h gX8_findHeights_J7_fill_53178 rfl (by decide +kernel) (by decide) rfl rfl (Nat.le_of_ble_eq_true rfl) dX8_findHeights_5 (kc' := 0) (ks' := 0) rfl rfl (fun a1 h => ?_)
  refine zb_iconst X (0 : Int32) dX8_findHeights_8 (by decide) ?_
  refine zb_istore_n X (lv' := [(2, .int (0 : Int32)), (0, .ref (ad 12)), (1, .int p1)]) dX8_findHeights_9 rfl (by decide) rfl ?_
  refine zb_sub [1, 2, 0] rfl ?_
  exact hK10 (0 : Int32) a1 h
set_option maxRecDepth 20000 in
theorem tX8_findHeights_10 {G : zG} {Z : zC} {r : Bool} {ad ln : Nat → Nat} (X : zX G Z cX8_findHeights 3 RX8 wsX8_findHeights) (p1 : Int32) {K10 : Int32 → (Nat → Nat → Int32) → Prop} {post : Int32 → (Nat → Nat → Int32) → Prop} (hR : zRi G Z rmX8_findHeights 3 (zTC r) ad ln cX8_findHeights .boolean post) (hK10 : ∀ x2 : Int32, ∀ al, K10 x2 al → zB G Z rmX8_findHeights 3 (zTC r) ad ln 0 0 10 [(0, .ref (ad 12)), (1, .int p1), (2, .int x2)] [] al) (x2 : Int32) (al : Nat → Nat → Int32) (h : vcX8_findHeights_10 G r ad ln p1 K10 post x2 al) : zB G Z rmX8_findHeights 3 (zTC r) ad ln 0 0 10 [(0, .ref (ad 12)), (1, .int p1), (2, .int x2)] [] al := by
  unfold vcX8_findHeights_10 at h
  refine zb_iload_n X dX8_findHeights_10 rfl 2 rfl ?_
  refine zb_aload_n X dX8_findHeights_11 rfl 0 rfl ?_
  refine zb_getR X 12 (zTC_lt (by decide)) 8 [6, 4, 0, 15, 16, 17, 18, 19, 0, 0] rfl (C := RX8) (Tt := TX8) (N := 10) rfl kX8_findHeights_1 0 (by decide) 4 rfl kX8_findHeights_2 rfl dX8_findHeights_12 ?_
  refine zb_getI X 4 (zTC_lt (by decide)) 0 [7, 0, 8] rfl (C := RX0) (Tt := TX0) (N := 3) rfl kX8_findHeights_4 1 (by decide) rfl kX8_findHeights_3 rfl dX8_findHeights_15 (al 4 1) rfl ?_
  refine zb_icmp_ge X 37 dX8_findHeights_18 (by decide) (fun c1 => ?_) (fun c1 => ?_)
  · have h := h.1 c1
    refine zb_iconst X (0 : Int32) dX8_findHeights_37 (by decide) ?_
    exact hR 38 _ _ _ dX8_findHeights_38 rfl h
  · have h := h.2 c1
    refine zb_aload_n X dX8_findHeights_21 rfl 0 rfl ?_
    refine zb_iload_n X dX8_findHeights_22 rfl 1 rfl ?_
    refine zb_callVi (n := 1) X 12 (zTC_lt (by decide)) 8 [6, 4, 0, 15, 16, 17, 18, 19, 0, 0] rfl (C := RX8) (Tt := TX8) (N := 10) rfl h gX8_findHeights_X8_raiseHeights rfl (by decide +kernel) (by decide) rfl rfl (Nat.le_of_ble_eq_true rfl) dX8_findHeights_23 (kc' := 0) (ks' := 0) rfl rfl (fun q2 a2 h => ?_)
    refine zb_if_ne X 31 dX8_findHeights_26 (by decide) (fun c3 => ?_) (fun c3 => ?_)
    · have h := h.1 c3
      refine zb_iinc X (lv' := [(2, .int (x2 + (1 : Int32))), (0, .ref (ad 12)), (1, .int p1)]) (x2 + (1 : Int32)) dX8_findHeights_31 2 rfl rfl (by decide) rfl ?_
      refine zb_goto X 10 dX8_findHeights_34 (by decide) ?_
      refine zb_sub [1, 2, 0] rfl ?_
      exact hK10 (x2 + (1 : Int32)) a2 h
    · have h := h.2 c3
      refine zb_iconst X (1 : Int32) dX8_findHeights_29 (by decide) ?_
      exact hR 30 _ _ _ dX8_findHeights_30 rfl h
theorem uX8_findHeights_0 {G : zG} {Z : zC} {r : Bool} {ad ln : Nat → Nat} (X : zX G Z cX8_findHeights 3 RX8 wsX8_findHeights) (p1 : Int32) {post : Int32 → (Nat → Nat → Int32) → Prop} (hR : zRi G Z rmX8_findHeights 3 (zTC r) ad ln cX8_findHeights .boolean post) (al : Nat → Nat → Int32) (h : vcX8_findHeights_0 G r ad ln p1 (BX8_findHeights_10 G Z r ad ln p1) post  al) : zB G Z rmX8_findHeights 3 (zTC r) ad ln 0 0 0 [(0, .ref (ad 12)), (1, .int p1)] [] al := tX8_findHeights_0 X p1 hR (fun _ _ h => h)  al h
theorem uX8_findHeights_10 {G : zG} {Z : zC} {r : Bool} {ad ln : Nat → Nat} (X : zX G Z cX8_findHeights 3 RX8 wsX8_findHeights) (p1 : Int32) {post : Int32 → (Nat → Nat → Int32) → Prop} (hR : zRi G Z rmX8_findHeights 3 (zTC r) ad ln cX8_findHeights .boolean post) (x2 : Int32) (al : Nat → Nat → Int32) (h : vcX8_findHeights_10 G r ad ln p1 (BX8_findHeights_10 G Z r ad ln p1) post x2 al) : zB G Z rmX8_findHeights 3 (zTC r) ad ln 0 0 10 [(0, .ref (ad 12)), (1, .int p1), (2, .int x2)] [] al := tX8_findHeights_10 X p1 hR (fun _ _ h => h) x2 al h

abbrev rmX8_placesDelay : Room := { frames := 0, cells := 0, slots := 0, locals := 0 }
theorem kX8_placesDelay_0 : Cond.fieldLink RX8 72 RX3 "kind" "I" ∈ wsX8_placesDelay := by decide +kernel
theorem kX8_placesDelay_1 : zIn RX3 TX3 9 wsX8_placesDelay := by decide +kernel
def vcX8_placesDelay_23 (G : zG) (r : Bool) (ad ln : Nat → Nat) (w0 : Nat) (hw0 : w0 < 48) (w1 : Nat) (hw1 : w1 < 48) (p2 : Int32)  (post : Int32 → (Nat → Nat → Int32) → Prop) (s0 : Int32) (al : Nat → Nat → Int32) : Prop :=
  post s0 al
def vcX8_placesDelay_0 (G : zG) (r : Bool) (ad ln : Nat → Nat) (w0 : Nat) (hw0 : w0 < 48) (w1 : Nat) (hw1 : w1 < 48) (p2 : Int32)  (post : Int32 → (Nat → Nat → Int32) → Prop) (al : Nat → Nat → Int32) : Prop :=
  ((al (29 + 3 * w0) 0) = (3 : Int32) → (¬ (al (29 + 3 * w1) 0) = (3 : Int32) → vcX8_placesDelay_23 G r ad ln w0 hw0 w1 hw1 p2  post p2 al) ∧ ((al (29 + 3 * w1) 0) = (3 : Int32) → vcX8_placesDelay_23 G r ad ln w0 hw0 w1 hw1 p2  post (1 : Int32) al)) ∧ (¬ (al (29 + 3 * w0) 0) = (3 : Int32) → post (0 : Int32) al)
set_option maxRecDepth 20000 in
theorem tX8_placesDelay_23 {G : zG} {Z : zC} {r : Bool} {ad ln : Nat → Nat} (X : zX G Z cX8_placesDelay 3 RX8 wsX8_placesDelay) (w0 : Nat) (hw0 : w0 < 48) (w1 : Nat) (hw1 : w1 < 48) (p2 : Int32)  {post : Int32 → (Nat → Nat → Int32) → Prop} (hR : zRi G Z rmX8_placesDelay 3 (zTC r) ad ln cX8_placesDelay .int post)  (s0 : Int32) (al : Nat → Nat → Int32) (h : vcX8_placesDelay_23 G r ad ln w0 hw0 w1 hw1 p2  post s0 al) : zB G Z rmX8_placesDelay 3 (zTC r) ad ln 0 0 23 [] [.int s0] al := by
  unfold vcX8_placesDelay_23 at h
  exact hR 23 _ _ _ dX8_placesDelay_23 rfl h
set_option maxRecDepth 20000 in
theorem tX8_placesDelay_0 {G : zG} {Z : zC} {r : Bool} {ad ln : Nat → Nat} (X : zX G Z cX8_placesDelay 3 RX8 wsX8_placesDelay) (w0 : Nat) (hw0 : w0 < 48) (w1 : Nat) (hw1 : w1 < 48) (p2 : Int32)  {post : Int32 → (Nat → Nat → Int32) → Prop} (hR : zRi G Z rmX8_placesDelay 3 (zTC r) ad ln cX8_placesDelay .int post)  (al : Nat → Nat → Int32) (h : vcX8_placesDelay_0 G r ad ln w0 hw0 w1 hw1 p2  post  al) : zB G Z rmX8_placesDelay 3 (zTC r) ad ln 0 0 0 [(0, .ref (ad (29 + 3 * w0))), (1, .ref (ad (29 + 3 * w1))), (2, .int p2)] [] al := by
  unfold vcX8_placesDelay_0 at h
  refine zb_aload_n X dX8_placesDelay_0 rfl 0 rfl ?_
  refine zb_getI X (29 + 3 * w0) (zTC_lt (zrow_lt hw0)) 3 [0, 0, 0, 0, 0, 0, 0, (30 + 3 * w0) + 2, (31 + 3 * w0) + 2] (zTC_row r hw0) (C := RX3) (Tt := TX3) (N := 9) rfl kX8_placesDelay_1 0 (by decide) rfl kX8_placesDelay_0 rfl dX8_placesDelay_1 (al (29 + 3 * w0) 0) rfl ?_
  refine zb_iconst X (3 : Int32) dX8_placesDelay_4 (by decide) ?_
  refine zb_icmp_eq X 10 dX8_placesDelay_5 (by decide) (fun c1 => ?_) (fun c1 => ?_)
  · have h := h.1 c1
    refine zb_aload_n X dX8_placesDelay_10 rfl 1 rfl ?_
    refine zb_getI X (29 + 3 * w1) (zTC_lt (zrow_lt hw1)) 3 [0, 0, 0, 0, 0, 0, 0, (30 + 3 * w1) + 2, (31 + 3 * w1) + 2] (zTC_row r hw1) (C := RX3) (Tt := TX3) (N := 9) rfl kX8_placesDelay_1 0 (by decide) rfl kX8_placesDelay_0 rfl dX8_placesDelay_11 (al (29 + 3 * w1) 0) rfl ?_
    refine zb_iconst X (3 : Int32) dX8_placesDelay_14 (by decide) ?_
    refine zb_icmp_ne X 22 dX8_placesDelay_15 (by decide) (fun c2 => ?_) (fun c2 => ?_)
    · have h := h.1 c2
      refine zb_iload_n X dX8_placesDelay_22 rfl 2 rfl ?_
      refine zb_sub [] rfl ?_
      exact tX8_placesDelay_23 X w0 hw0 w1 hw1 p2 hR  p2 al h
    · have h := h.2 c2
      refine zb_iconst X (1 : Int32) dX8_placesDelay_18 (by decide) ?_
      refine zb_goto X 23 dX8_placesDelay_19 (by decide) ?_
      refine zb_sub [] rfl ?_
      exact tX8_placesDelay_23 X w0 hw0 w1 hw1 p2 hR  (1 : Int32) al h
  · have h := h.2 c1
    refine zb_iconst X (0 : Int32) dX8_placesDelay_8 (by decide) ?_
    exact hR 9 _ _ _ dX8_placesDelay_9 rfl h

abbrev rmX8_roundOfSpot : Room := { frames := 0, cells := 0, slots := 0, locals := 0 }
theorem kX8_roundOfSpot_0 : Cond.fieldLink RX8 119 RX3 "shift" "I" ∈ wsX8_roundOfSpot := by decide +kernel
theorem kX8_roundOfSpot_1 : zIn RX3 TX3 9 wsX8_roundOfSpot := by decide +kernel
theorem kX8_roundOfSpot_2 : Cond.fieldLink RX8 122 RX3 "step" "I" ∈ wsX8_roundOfSpot := by decide +kernel
def vcX8_roundOfSpot_43 (G : zG) (r : Bool) (ad ln : Nat → Nat) (w0 : Nat) (hw0 : w0 < 48) (p1 : Int32) (p2 : Int32)  (post : Int32 → (Nat → Nat → Int32) → Prop) (s0 : Int32) (al : Nat → Nat → Int32) : Prop :=
  post s0 al
def vcX8_roundOfSpot_27 (G : zG) (r : Bool) (ad ln : Nat → Nat) (w0 : Nat) (hw0 : w0 < 48) (p1 : Int32) (p2 : Int32)  (post : Int32 → (Nat → Nat → Int32) → Prop) (s0 : Int32) (al : Nat → Nat → Int32) : Prop :=
  post s0 al
def vcX8_roundOfSpot_0 (G : zG) (r : Bool) (ad ln : Nat → Nat) (w0 : Nat) (hw0 : w0 < 48) (p1 : Int32) (p2 : Int32)  (post : Int32 → (Nat → Nat → Int32) → Prop) (al : Nat → Nat → Int32) : Prop :=
  (¬ (al (29 + 3 * w0) 5) = 0 → (¬ (al (29 + 3 * w0) 5) = 0 ∧ (¬ ((p1 - (al (29 + 3 * w0) 6)) - (p1 - (al (29 + 3 * w0) 6)) / (al (29 + 3 * w0) 5) * (al (29 + 3 * w0) 5)) = 0 → vcX8_roundOfSpot_43 G r ad ln w0 hw0 p1 p2  post (-1 : Int32) al) ∧ (((p1 - (al (29 + 3 * w0) 6)) - (p1 - (al (29 + 3 * w0) 6)) / (al (29 + 3 * w0) 5) * (al (29 + 3 * w0) 5)) = 0 → (¬ (al (29 + 3 * w0) 5) = 0 ∧ vcX8_roundOfSpot_43 G r ad ln w0 hw0 p1 p2  post ((p1 - (al (29 + 3 * w0) 6)) / (al (29 + 3 * w0) 5)) al)))) ∧ ((al (29 + 3 * w0) 5) = 0 → (¬ (p1 - (al (29 + 3 * w0) 6)) = 0 → vcX8_roundOfSpot_27 G r ad ln w0 hw0 p1 p2  post (-1 : Int32) al) ∧ ((p1 - (al (29 + 3 * w0) 6)) = 0 → vcX8_roundOfSpot_27 G r ad ln w0 hw0 p1 p2  post p2 al))
set_option maxRecDepth 20000 in
theorem tX8_roundOfSpot_43 {G : zG} {Z : zC} {r : Bool} {ad ln : Nat → Nat} (X : zX G Z cX8_roundOfSpot 5 RX8 wsX8_roundOfSpot) (w0 : Nat) (hw0 : w0 < 48) (p1 : Int32) (p2 : Int32)  {post : Int32 → (Nat → Nat → Int32) → Prop} (hR : zRi G Z rmX8_roundOfSpot 5 (zTC r) ad ln cX8_roundOfSpot .int post)  (s0 : Int32) (al : Nat → Nat → Int32) (h : vcX8_roundOfSpot_43 G r ad ln w0 hw0 p1 p2  post s0 al) : zB G Z rmX8_roundOfSpot 5 (zTC r) ad ln 0 0 43 [] [.int s0] al := by
  unfold vcX8_roundOfSpot_43 at h
  exact hR 43 _ _ _ dX8_roundOfSpot_43 rfl h
set_option maxRecDepth 20000 in
theorem tX8_roundOfSpot_27 {G : zG} {Z : zC} {r : Bool} {ad ln : Nat → Nat} (X : zX G Z cX8_roundOfSpot 5 RX8 wsX8_roundOfSpot) (w0 : Nat) (hw0 : w0 < 48) (p1 : Int32) (p2 : Int32)  {post : Int32 → (Nat → Nat → Int32) → Prop} (hR : zRi G Z rmX8_roundOfSpot 5 (zTC r) ad ln cX8_roundOfSpot .int post)  (s0 : Int32) (al : Nat → Nat → Int32) (h : vcX8_roundOfSpot_27 G r ad ln w0 hw0 p1 p2  post s0 al) : zB G Z rmX8_roundOfSpot 5 (zTC r) ad ln 0 0 27 [] [.int s0] al := by
  unfold vcX8_roundOfSpot_27 at h
  exact hR 27 _ _ _ dX8_roundOfSpot_27 rfl h
set_option maxRecDepth 20000 in
theorem tX8_roundOfSpot_0 {G : zG} {Z : zC} {r : Bool} {ad ln : Nat → Nat} (X : zX G Z cX8_roundOfSpot 5 RX8 wsX8_roundOfSpot) (w0 : Nat) (hw0 : w0 < 48) (p1 : Int32) (p2 : Int32)  {post : Int32 → (Nat → Nat → Int32) → Prop} (hR : zRi G Z rmX8_roundOfSpot 5 (zTC r) ad ln cX8_roundOfSpot .int post)  (al : Nat → Nat → Int32) (h : vcX8_roundOfSpot_0 G r ad ln w0 hw0 p1 p2  post  al) : zB G Z rmX8_roundOfSpot 5 (zTC r) ad ln 0 0 0 [(0, .ref (ad (29 + 3 * w0))), (1, .int p1), (2, .int p2)] [] al := by
  unfold vcX8_roundOfSpot_0 at h
  refine zb_iload_n X dX8_roundOfSpot_0 rfl 1 rfl ?_
  refine zb_aload_n X dX8_roundOfSpot_1 rfl 0 rfl ?_
  refine zb_getI X (29 + 3 * w0) (zTC_lt (zrow_lt hw0)) 3 [0, 0, 0, 0, 0, 0, 0, (30 + 3 * w0) + 2, (31 + 3 * w0) + 2] (zTC_row r hw0) (C := RX3) (Tt := TX3) (N := 9) rfl kX8_roundOfSpot_1 6 (by decide) rfl kX8_roundOfSpot_0 rfl dX8_roundOfSpot_2 (al (29 + 3 * w0) 6) rfl ?_
  refine zb_isub X dX8_roundOfSpot_5 ?_
  refine zb_istore_n X (lv' := [(3, .int (p1 - (al (29 + 3 * w0) 6))), (0, .ref (ad (29 + 3 * w0))), (1, .int p1), (2, .int p2)]) dX8_roundOfSpot_6 rfl (by decide) rfl ?_
  refine zb_aload_n X dX8_roundOfSpot_7 rfl 1 rfl ?_
  refine zb_getI X (29 + 3 * w0) (zTC_lt (zrow_lt hw0)) 3 [0, 0, 0, 0, 0, 0, 0, (30 + 3 * w0) + 2, (31 + 3 * w0) + 2] (zTC_row r hw0) (C := RX3) (Tt := TX3) (N := 9) rfl kX8_roundOfSpot_1 5 (by decide) rfl kX8_roundOfSpot_2 rfl dX8_roundOfSpot_8 (al (29 + 3 * w0) 5) rfl ?_
  refine zb_istore X (lv' := [(4, .int (al (29 + 3 * w0) 5)), (3, .int (p1 - (al (29 + 3 * w0) 6))), (0, .ref (ad (29 + 3 * w0))), (1, .int p1), (2, .int p2)]) dX8_roundOfSpot_11 (by decide) rfl ?_
  refine zb_iload X dX8_roundOfSpot_13 0 rfl ?_
  refine zb_if_ne X 28 dX8_roundOfSpot_15 (by decide) (fun c1 => ?_) (fun c1 => ?_)
  · have h := h.1 c1
    refine zb_iload_n X dX8_roundOfSpot_28 rfl 1 rfl ?_
    refine zb_iload X dX8_roundOfSpot_29 0 rfl ?_
    obtain ⟨hz, h⟩ := h
    refine zb_irem X dX8_roundOfSpot_31 hz ?_
    refine zb_if_ne X 42 dX8_roundOfSpot_32 (by decide) (fun c2 => ?_) (fun c2 => ?_)
    · have h := h.1 c2
      refine zb_iconst X (-1 : Int32) dX8_roundOfSpot_42 (by decide) ?_
      refine zb_sub [] rfl ?_
      exact tX8_roundOfSpot_43 X w0 hw0 p1 p2 hR  (-1 : Int32) al h
    · have h := h.2 c2
      refine zb_iload_n X dX8_roundOfSpot_35 rfl 1 rfl ?_
      refine zb_iload X dX8_roundOfSpot_36 0 rfl ?_
      obtain ⟨hz, h⟩ := h
      refine zb_idiv X dX8_roundOfSpot_38 hz ?_
      refine zb_goto X 43 dX8_roundOfSpot_39 (by decide) ?_
      refine zb_sub [] rfl ?_
      exact tX8_roundOfSpot_43 X w0 hw0 p1 p2 hR  ((p1 - (al (29 + 3 * w0) 6)) / (al (29 + 3 * w0) 5)) al h
  · have h := h.2 c1
    refine zb_iload_n X dX8_roundOfSpot_18 rfl 1 rfl ?_
    refine zb_if_ne X 26 dX8_roundOfSpot_19 (by decide) (fun c2 => ?_) (fun c2 => ?_)
    · have h := h.1 c2
      refine zb_iconst X (-1 : Int32) dX8_roundOfSpot_26 (by decide) ?_
      refine zb_sub [] rfl ?_
      exact tX8_roundOfSpot_27 X w0 hw0 p1 p2 hR  (-1 : Int32) al h
    · have h := h.2 c2
      refine zb_iload_n X dX8_roundOfSpot_22 rfl 4 rfl ?_
      refine zb_goto X 27 dX8_roundOfSpot_23 (by decide) ?_
      refine zb_sub [] rfl ?_
      exact tX8_roundOfSpot_27 X w0 hw0 p1 p2 hR  p2 al h

abbrev rmX8_placesOver : Room := { frames := 1, cells := 0, slots := 0, locals := 24 }
theorem kX8_placesOver_0 : Cond.fieldLink RX8 108 RX3 "array" "I" ∈ wsX8_placesOver := by decide +kernel
theorem kX8_placesOver_1 : zIn RX3 TX3 9 wsX8_placesOver := by decide +kernel
theorem kX8_placesOver_2 : Cond.fieldLink RX8 72 RX3 "kind" "I" ∈ wsX8_placesOver := by decide +kernel
theorem kX8_placesOver_3 : Cond.fieldLink RX8 31 RX8 "settings" "[I" ∈ wsX8_placesOver := by decide +kernel
theorem kX8_placesOver_4 : zIn RX8 TX8 10 wsX8_placesOver := by decide +kernel
abbrev BX8_placesOver_53 (G : zG) (Z : zC) (r : Bool) (ad ln : Nat → Nat) (w1 : Nat) (hw1 : w1 < 48) (w2 : Nat) (hw2 : w2 < 48) (p3 : Int32) (x4 x5 x6 : Int32) (al : Nat → Nat → Int32) : Prop := zB G Z rmX8_placesOver 8 (zTC r) ad ln 0 0 53 [(1, .ref (ad (29 + 3 * w1))), (2, .ref (ad (29 + 3 * w2))), (3, .int p3), (4, .int x4), (5, .int x5), (6, .int x6)] [] al
def vcX8_placesOver_18 (G : zG) (r : Bool) (ad ln : Nat → Nat) (w1 : Nat) (hw1 : w1 < 48) (w2 : Nat) (hw2 : w2 < 48) (p3 : Int32) (K53 : Int32 → Int32 → Int32 → (Nat → Nat → Int32) → Prop) (post : Int32 → (Nat → Nat → Int32) → Prop) (al : Nat → Nat → Int32) : Prop :=
  post (-1 : Int32) al
def vcX8_placesOver_38 (G : zG) (r : Bool) (ad ln : Nat → Nat) (w1 : Nat) (hw1 : w1 < 48) (w2 : Nat) (hw2 : w2 < 48) (p3 : Int32) (K53 : Int32 → Int32 → Int32 → (Nat → Nat → Int32) → Prop) (post : Int32 → (Nat → Nat → Int32) → Prop) (al : Nat → Nat → Int32) : Prop :=
  (vp_in (8 : Int32) 9 ∧ K53 (al 2 8) (-1 : Int32) (0 : Int32) al)
def vcX8_placesOver_0 (G : zG) (r : Bool) (ad ln : Nat → Nat) (w1 : Nat) (hw1 : w1 < 48) (w2 : Nat) (hw2 : w2 < 48) (p3 : Int32) (K53 : Int32 → Int32 → Int32 → (Nat → Nat → Int32) → Prop) (post : Int32 → (Nat → Nat → Int32) → Prop) (al : Nat → Nat → Int32) : Prop :=
  ((al (29 + 3 * w1) 4) < 0 → vcX8_placesOver_18 G r ad ln w1 hw1 w2 hw2 p3 K53 post  al) ∧ (¬ (al (29 + 3 * w1) 4) < 0 → ((al (29 + 3 * w1) 4) = (al (29 + 3 * w2) 4) → ((al (29 + 3 * w1) 0) = (3 : Int32) → vcX8_placesOver_38 G r ad ln w1 hw1 w2 hw2 p3 K53 post  al) ∧ (¬ (al (29 + 3 * w1) 0) = (3 : Int32) → ((al (29 + 3 * w2) 0) = (3 : Int32) → vcX8_placesOver_38 G r ad ln w1 hw1 w2 hw2 p3 K53 post  al) ∧ (¬ (al (29 + 3 * w2) 0) = (3 : Int32) → post (-1 : Int32) al))) ∧ (¬ (al (29 + 3 * w1) 4) = (al (29 + 3 * w2) 4) → vcX8_placesOver_18 G r ad ln w1 hw1 w2 hw2 p3 K53 post  al))
def vcX8_placesOver_114 (G : zG) (r : Bool) (ad ln : Nat → Nat) (w1 : Nat) (hw1 : w1 < 48) (w2 : Nat) (hw2 : w2 < 48) (p3 : Int32) (K53 : Int32 → Int32 → Int32 → (Nat → Nat → Int32) → Prop) (post : Int32 → (Nat → Nat → Int32) → Prop) (x4 x5 x6 : Int32) (al : Nat → Nat → Int32) : Prop :=
  K53 x4 x5 (x6 + (1 : Int32)) al
def vcX8_placesOver_107 (G : zG) (r : Bool) (ad ln : Nat → Nat) (w1 : Nat) (hw1 : w1 < 48) (w2 : Nat) (hw2 : w2 < 48) (p3 : Int32) (K53 : Int32 → Int32 → Int32 → (Nat → Nat → Int32) → Prop) (post : Int32 → (Nat → Nat → Int32) → Prop) (x4 x6 x7 : Int32) (al : Nat → Nat → Int32) : Prop :=
  vcX8_placesOver_114 G r ad ln w1 hw1 w2 hw2 p3 K53 post x4 (x7 - x6) x6 al
def vcX8_placesOver_53 (G : zG) (r : Bool) (ad ln : Nat → Nat) (w1 : Nat) (hw1 : w1 < 48) (w2 : Nat) (hw2 : w2 < 48) (p3 : Int32) (K53 : Int32 → Int32 → Int32 → (Nat → Nat → Int32) → Prop) (post : Int32 → (Nat → Nat → Int32) → Prop) (x4 x5 x6 : Int32) (al : Nat → Nat → Int32) : Prop :=
  (x4 ≤ x6 → post x5 al) ∧ (¬ x4 ≤ x6 → zMi G yX3_spot wsX3_spot rmX3_spot (zTC r) ad ln [.ref (ad (29 + 3 * w1)), .int x6] al (fun q2 a2 => zMi G yX8_roundOfSpot wsX8_roundOfSpot rmX8_roundOfSpot (zTC r) ad ln [.ref (ad (29 + 3 * w2)), .int q2, .int (x6 + p3)] a2 (fun q3 a3 => (q3 < (x6 + p3) → vcX8_placesOver_114 G r ad ln w1 hw1 w2 hw2 p3 K53 post x4 x5 x6 a3) ∧ (¬ q3 < (x6 + p3) → (x4 ≤ q3 → vcX8_placesOver_114 G r ad ln w1 hw1 w2 hw2 p3 K53 post x4 x5 x6 a3) ∧ (¬ x4 ≤ q3 → (x5 < 0 → vcX8_placesOver_107 G r ad ln w1 hw1 w2 hw2 p3 K53 post x4 x6 q3 a3) ∧ (¬ x5 < 0 → (x5 ≤ (q3 - x6) → vcX8_placesOver_114 G r ad ln w1 hw1 w2 hw2 p3 K53 post x4 x5 x6 a3) ∧ (¬ x5 ≤ (q3 - x6) → vcX8_placesOver_107 G r ad ln w1 hw1 w2 hw2 p3 K53 post x4 x6 q3 a3)))))))
set_option maxRecDepth 20000 in
theorem tX8_placesOver_18 {G : zG} {Z : zC} {r : Bool} {ad ln : Nat → Nat} (X : zX G Z cX8_placesOver 8 RX8 wsX8_placesOver) (w1 : Nat) (hw1 : w1 < 48) (w2 : Nat) (hw2 : w2 < 48) (p3 : Int32) {K53 : Int32 → Int32 → Int32 → (Nat → Nat → Int32) → Prop} {post : Int32 → (Nat → Nat → Int32) → Prop} (hR : zRi G Z rmX8_placesOver 8 (zTC r) ad ln cX8_placesOver .int post) (hK53 : ∀ x4 x5 x6 : Int32, ∀ al, K53 x4 x5 x6 al → zB G Z rmX8_placesOver 8 (zTC r) ad ln 0 0 53 [(1, .ref (ad (29 + 3 * w1))), (2, .ref (ad (29 + 3 * w2))), (3, .int p3), (4, .int x4), (5, .int x5), (6, .int x6)] [] al) (al : Nat → Nat → Int32) (h : vcX8_placesOver_18 G r ad ln w1 hw1 w2 hw2 p3 K53 post  al) : zB G Z rmX8_placesOver 8 (zTC r) ad ln 0 0 18 [] [] al := by
  unfold vcX8_placesOver_18 at h
  refine zb_iconst X (-1 : Int32) dX8_placesOver_18 (by decide) ?_
  exact hR 19 _ _ _ dX8_placesOver_19 rfl h
set_option maxRecDepth 20000 in
theorem tX8_placesOver_38 {G : zG} {Z : zC} {r : Bool} {ad ln : Nat → Nat} (X : zX G Z cX8_placesOver 8 RX8 wsX8_placesOver) (w1 : Nat) (hw1 : w1 < 48) (w2 : Nat) (hw2 : w2 < 48) (p3 : Int32) {K53 : Int32 → Int32 → Int32 → (Nat → Nat → Int32) → Prop} {post : Int32 → (Nat → Nat → Int32) → Prop} (hR : zRi G Z rmX8_placesOver 8 (zTC r) ad ln cX8_placesOver .int post) (hK53 : ∀ x4 x5 x6 : Int32, ∀ al, K53 x4 x5 x6 al → zB G Z rmX8_placesOver 8 (zTC r) ad ln 0 0 53 [(1, .ref (ad (29 + 3 * w1))), (2, .ref (ad (29 + 3 * w2))), (3, .int p3), (4, .int x4), (5, .int x5), (6, .int x6)] [] al) (al : Nat → Nat → Int32) (h : vcX8_placesOver_38 G r ad ln w1 hw1 w2 hw2 p3 K53 post  al) : zB G Z rmX8_placesOver 8 (zTC r) ad ln 0 0 38 [(0, .ref (ad 12)), (1, .ref (ad (29 + 3 * w1))), (2, .ref (ad (29 + 3 * w2))), (3, .int p3)] [] al := by
  unfold vcX8_placesOver_38 at h
  refine zb_aload_n X dX8_placesOver_38 rfl 0 rfl ?_
  refine zb_getR X 12 (zTC_lt (by decide)) 8 [6, 4, 0, 15, 16, 17, 18, 19, 0, 0] rfl (C := RX8) (Tt := TX8) (N := 10) rfl kX8_placesOver_4 1 (by decide) 2 rfl kX8_placesOver_3 rfl dX8_placesOver_39 ?_
  refine zb_bipush X (8 : Int32) dX8_placesOver_42 (by decide) ?_
  obtain ⟨hz, h⟩ := h
  refine zb_iald X 2 (zTC_lt (by decide)) 1 9 0 0 rfl (Or.inl rfl) 8 rfl hz dX8_placesOver_44 (al 2 8) rfl ?_
  refine zb_istore X (lv' := [(4, .int (al 2 8)), (0, .ref (ad 12)), (1, .ref (ad (29 + 3 * w1))), (2, .ref (ad (29 + 3 * w2))), (3, .int p3)]) dX8_placesOver_45 (by decide) rfl ?_
  refine zb_iconst X (-1 : Int32) dX8_placesOver_47 (by decide) ?_
  refine zb_istore X (lv' := [(5, .int (-1 : Int32)), (4, .int (al 2 8)), (0, .ref (ad 12)), (1, .ref (ad (29 + 3 * w1))), (2, .ref (ad (29 + 3 * w2))), (3, .int p3)]) dX8_placesOver_48 (by decide) rfl ?_
  refine zb_iconst X (0 : Int32) dX8_placesOver_50 (by decide) ?_
  refine zb_istore X (lv' := [(6, .int (0 : Int32)), (5, .int (-1 : Int32)), (4, .int (al 2 8)), (0, .ref (ad 12)), (1, .ref (ad (29 + 3 * w1))), (2, .ref (ad (29 + 3 * w2))), (3, .int p3)]) dX8_placesOver_51 (by decide) rfl ?_
  refine zb_sub [4, 5, 6, 2, 1, 0] rfl ?_
  exact hK53 (al 2 8) (-1 : Int32) (0 : Int32) al h
set_option maxRecDepth 20000 in
theorem tX8_placesOver_0 {G : zG} {Z : zC} {r : Bool} {ad ln : Nat → Nat} (X : zX G Z cX8_placesOver 8 RX8 wsX8_placesOver) (w1 : Nat) (hw1 : w1 < 48) (w2 : Nat) (hw2 : w2 < 48) (p3 : Int32) {K53 : Int32 → Int32 → Int32 → (Nat → Nat → Int32) → Prop} {post : Int32 → (Nat → Nat → Int32) → Prop} (hR : zRi G Z rmX8_placesOver 8 (zTC r) ad ln cX8_placesOver .int post) (hK53 : ∀ x4 x5 x6 : Int32, ∀ al, K53 x4 x5 x6 al → zB G Z rmX8_placesOver 8 (zTC r) ad ln 0 0 53 [(1, .ref (ad (29 + 3 * w1))), (2, .ref (ad (29 + 3 * w2))), (3, .int p3), (4, .int x4), (5, .int x5), (6, .int x6)] [] al) (al : Nat → Nat → Int32) (h : vcX8_placesOver_0 G r ad ln w1 hw1 w2 hw2 p3 K53 post  al) : zB G Z rmX8_placesOver 8 (zTC r) ad ln 0 0 0 [(0, .ref (ad 12)), (1, .ref (ad (29 + 3 * w1))), (2, .ref (ad (29 + 3 * w2))), (3, .int p3)] [] al := by
  unfold vcX8_placesOver_0 at h
  refine zb_aload_n X dX8_placesOver_0 rfl 1 rfl ?_
  refine zb_getI X (29 + 3 * w1) (zTC_lt (zrow_lt hw1)) 3 [0, 0, 0, 0, 0, 0, 0, (30 + 3 * w1) + 2, (31 + 3 * w1) + 2] (zTC_row r hw1) (C := RX3) (Tt := TX3) (N := 9) rfl kX8_placesOver_1 4 (by decide) rfl kX8_placesOver_0 rfl dX8_placesOver_1 (al (29 + 3 * w1) 4) rfl ?_
  refine zb_if_lt X 18 dX8_placesOver_4 (by decide) (fun c1 => ?_) (fun c1 => ?_)
  · have h := h.1 c1
    refine zb_sub [] rfl ?_
    exact tX8_placesOver_18 X w1 hw1 w2 hw2 p3 hR hK53  al h
  · have h := h.2 c1
    refine zb_aload_n X dX8_placesOver_7 rfl 1 rfl ?_
    refine zb_getI X (29 + 3 * w1) (zTC_lt (zrow_lt hw1)) 3 [0, 0, 0, 0, 0, 0, 0, (30 + 3 * w1) + 2, (31 + 3 * w1) + 2] (zTC_row r hw1) (C := RX3) (Tt := TX3) (N := 9) rfl kX8_placesOver_1 4 (by decide) rfl kX8_placesOver_0 rfl dX8_placesOver_8 (al (29 + 3 * w1) 4) rfl ?_
    refine zb_aload_n X dX8_placesOver_11 rfl 2 rfl ?_
    refine zb_getI X (29 + 3 * w2) (zTC_lt (zrow_lt hw2)) 3 [0, 0, 0, 0, 0, 0, 0, (30 + 3 * w2) + 2, (31 + 3 * w2) + 2] (zTC_row r hw2) (C := RX3) (Tt := TX3) (N := 9) rfl kX8_placesOver_1 4 (by decide) rfl kX8_placesOver_0 rfl dX8_placesOver_12 (al (29 + 3 * w2) 4) rfl ?_
    refine zb_icmp_eq X 20 dX8_placesOver_15 (by decide) (fun c2 => ?_) (fun c2 => ?_)
    · have h := h.1 c2
      refine zb_aload_n X dX8_placesOver_20 rfl 1 rfl ?_
      refine zb_getI X (29 + 3 * w1) (zTC_lt (zrow_lt hw1)) 3 [0, 0, 0, 0, 0, 0, 0, (30 + 3 * w1) + 2, (31 + 3 * w1) + 2] (zTC_row r hw1) (C := RX3) (Tt := TX3) (N := 9) rfl kX8_placesOver_1 0 (by decide) rfl kX8_placesOver_2 rfl dX8_placesOver_21 (al (29 + 3 * w1) 0) rfl ?_
      refine zb_iconst X (3 : Int32) dX8_placesOver_24 (by decide) ?_
      refine zb_icmp_eq X 38 dX8_placesOver_25 (by decide) (fun c3 => ?_) (fun c3 => ?_)
      · have h := h.1 c3
        refine zb_sub [0, 1, 2, 3] rfl ?_
        exact tX8_placesOver_38 X w1 hw1 w2 hw2 p3 hR hK53  al h
      · have h := h.2 c3
        refine zb_aload_n X dX8_placesOver_28 rfl 2 rfl ?_
        refine zb_getI X (29 + 3 * w2) (zTC_lt (zrow_lt hw2)) 3 [0, 0, 0, 0, 0, 0, 0, (30 + 3 * w2) + 2, (31 + 3 * w2) + 2] (zTC_row r hw2) (C := RX3) (Tt := TX3) (N := 9) rfl kX8_placesOver_1 0 (by decide) rfl kX8_placesOver_2 rfl dX8_placesOver_29 (al (29 + 3 * w2) 0) rfl ?_
        refine zb_iconst X (3 : Int32) dX8_placesOver_32 (by decide) ?_
        refine zb_icmp_eq X 38 dX8_placesOver_33 (by decide) (fun c4 => ?_) (fun c4 => ?_)
        · have h := h.1 c4
          refine zb_sub [0, 1, 2, 3] rfl ?_
          exact tX8_placesOver_38 X w1 hw1 w2 hw2 p3 hR hK53  al h
        · have h := h.2 c4
          refine zb_iconst X (-1 : Int32) dX8_placesOver_36 (by decide) ?_
          exact hR 37 _ _ _ dX8_placesOver_37 rfl h
    · have h := h.2 c2
      refine zb_sub [] rfl ?_
      exact tX8_placesOver_18 X w1 hw1 w2 hw2 p3 hR hK53  al h
set_option maxRecDepth 20000 in
theorem tX8_placesOver_114 {G : zG} {Z : zC} {r : Bool} {ad ln : Nat → Nat} (X : zX G Z cX8_placesOver 8 RX8 wsX8_placesOver) (w1 : Nat) (hw1 : w1 < 48) (w2 : Nat) (hw2 : w2 < 48) (p3 : Int32) {K53 : Int32 → Int32 → Int32 → (Nat → Nat → Int32) → Prop} {post : Int32 → (Nat → Nat → Int32) → Prop} (hR : zRi G Z rmX8_placesOver 8 (zTC r) ad ln cX8_placesOver .int post) (hK53 : ∀ x4 x5 x6 : Int32, ∀ al, K53 x4 x5 x6 al → zB G Z rmX8_placesOver 8 (zTC r) ad ln 0 0 53 [(1, .ref (ad (29 + 3 * w1))), (2, .ref (ad (29 + 3 * w2))), (3, .int p3), (4, .int x4), (5, .int x5), (6, .int x6)] [] al) (x4 x5 x6 : Int32) (al : Nat → Nat → Int32) (h : vcX8_placesOver_114 G r ad ln w1 hw1 w2 hw2 p3 K53 post x4 x5 x6 al) : zB G Z rmX8_placesOver 8 (zTC r) ad ln 0 0 114 [(1, .ref (ad (29 + 3 * w1))), (2, .ref (ad (29 + 3 * w2))), (3, .int p3), (4, .int x4), (5, .int x5), (6, .int x6)] [] al := by
  unfold vcX8_placesOver_114 at h
  refine zb_iinc X (lv' := [(6, .int (x6 + (1 : Int32))), (1, .ref (ad (29 + 3 * w1))), (2, .ref (ad (29 + 3 * w2))), (3, .int p3), (4, .int x4), (5, .int x5)]) (x6 + (1 : Int32)) dX8_placesOver_114 5 rfl rfl (by decide) rfl ?_
  refine zb_goto X 53 dX8_placesOver_117 (by decide) ?_
  refine zb_sub [1, 2, 3, 4, 5, 0] rfl ?_
  exact hK53 x4 x5 (x6 + (1 : Int32)) al h
set_option maxRecDepth 20000 in
theorem tX8_placesOver_107 {G : zG} {Z : zC} {r : Bool} {ad ln : Nat → Nat} (X : zX G Z cX8_placesOver 8 RX8 wsX8_placesOver) (w1 : Nat) (hw1 : w1 < 48) (w2 : Nat) (hw2 : w2 < 48) (p3 : Int32) {K53 : Int32 → Int32 → Int32 → (Nat → Nat → Int32) → Prop} {post : Int32 → (Nat → Nat → Int32) → Prop} (hR : zRi G Z rmX8_placesOver 8 (zTC r) ad ln cX8_placesOver .int post) (hK53 : ∀ x4 x5 x6 : Int32, ∀ al, K53 x4 x5 x6 al → zB G Z rmX8_placesOver 8 (zTC r) ad ln 0 0 53 [(1, .ref (ad (29 + 3 * w1))), (2, .ref (ad (29 + 3 * w2))), (3, .int p3), (4, .int x4), (5, .int x5), (6, .int x6)] [] al) (x4 x6 x7 : Int32) (al : Nat → Nat → Int32) (h : vcX8_placesOver_107 G r ad ln w1 hw1 w2 hw2 p3 K53 post x4 x6 x7 al) : zB G Z rmX8_placesOver 8 (zTC r) ad ln 0 0 107 [(1, .ref (ad (29 + 3 * w1))), (2, .ref (ad (29 + 3 * w2))), (3, .int p3), (4, .int x4), (6, .int x6), (7, .int x7)] [] al := by
  unfold vcX8_placesOver_107 at h
  refine zb_iload X dX8_placesOver_107 5 rfl ?_
  refine zb_iload X dX8_placesOver_109 4 rfl ?_
  refine zb_isub X dX8_placesOver_111 ?_
  refine zb_istore X (lv' := [(5, .int (x7 - x6)), (1, .ref (ad (29 + 3 * w1))), (2, .ref (ad (29 + 3 * w2))), (3, .int p3), (4, .int x4), (6, .int x6), (7, .int x7)]) dX8_placesOver_112 (by decide) rfl ?_
  refine zb_sub [1, 2, 3, 4, 0, 5] rfl ?_
  exact tX8_placesOver_114 X w1 hw1 w2 hw2 p3 hR hK53 x4 (x7 - x6) x6 al h
set_option maxRecDepth 20000 in
theorem tX8_placesOver_53 {G : zG} {Z : zC} {r : Bool} {ad ln : Nat → Nat} (X : zX G Z cX8_placesOver 8 RX8 wsX8_placesOver) (w1 : Nat) (hw1 : w1 < 48) (w2 : Nat) (hw2 : w2 < 48) (p3 : Int32) {K53 : Int32 → Int32 → Int32 → (Nat → Nat → Int32) → Prop} {post : Int32 → (Nat → Nat → Int32) → Prop} (hR : zRi G Z rmX8_placesOver 8 (zTC r) ad ln cX8_placesOver .int post) (hK53 : ∀ x4 x5 x6 : Int32, ∀ al, K53 x4 x5 x6 al → zB G Z rmX8_placesOver 8 (zTC r) ad ln 0 0 53 [(1, .ref (ad (29 + 3 * w1))), (2, .ref (ad (29 + 3 * w2))), (3, .int p3), (4, .int x4), (5, .int x5), (6, .int x6)] [] al) (x4 x5 x6 : Int32) (al : Nat → Nat → Int32) (h : vcX8_placesOver_53 G r ad ln w1 hw1 w2 hw2 p3 K53 post x4 x5 x6 al) : zB G Z rmX8_placesOver 8 (zTC r) ad ln 0 0 53 [(1, .ref (ad (29 + 3 * w1))), (2, .ref (ad (29 + 3 * w2))), (3, .int p3), (4, .int x4), (5, .int x5), (6, .int x6)] [] al := by
  unfold vcX8_placesOver_53 at h
  refine zb_iload X dX8_placesOver_53 5 rfl ?_
  refine zb_iload X dX8_placesOver_55 3 rfl ?_
  refine zb_icmp_ge X 120 dX8_placesOver_57 (by decide) (fun c1 => ?_) (fun c1 => ?_)
  · have h := h.1 c1
    refine zb_iload X dX8_placesOver_120 4 rfl ?_
    exact hR 122 _ _ _ dX8_placesOver_122 rfl h
  · have h := h.2 c1
    refine zb_aload_n X dX8_placesOver_60 rfl 1 rfl ?_
    refine zb_aload_n X dX8_placesOver_61 rfl 0 rfl ?_
    refine zb_iload X dX8_placesOver_62 5 rfl ?_
    refine zb_callVi (n := 1) X (29 + 3 * w1) (zTC_lt (zrow_lt hw1)) 3 [0, 0, 0, 0, 0, 0, 0, (30 + 3 * w1) + 2, (31 + 3 * w1) + 2] (zTC_row r hw1) (C := RX3) (Tt := TX3) (N := 9) rfl h gX8_placesOver_X3_spot rfl (by decide +kernel) (by decide) rfl rfl (Nat.le_of_ble_eq_true rfl) dX8_placesOver_64 (kc' := 0) (ks' := 0) rfl rfl (fun q2 a2 h => ?_)
    refine zb_iload X dX8_placesOver_67 5 rfl ?_
    refine zb_iload_n X dX8_placesOver_69 rfl 2 rfl ?_
    refine zb_iadd X dX8_placesOver_70 ?_
    refine zb_callSi (n := 3) X h gX8_placesOver_X8_roundOfSpot rfl (by decide +kernel) (by decide) rfl rfl (Nat.le_of_ble_eq_true rfl) dX8_placesOver_71 (kc' := 0) (ks' := 0) rfl rfl (fun q3 a3 h => ?_)
    refine zb_istore X (lv' := [(7, .int q3), (1, .ref (ad (29 + 3 * w1))), (2, .ref (ad (29 + 3 * w2))), (3, .int p3), (4, .int x4), (5, .int x5), (6, .int x6)]) dX8_placesOver_74 (by decide) rfl ?_
    refine zb_iload X dX8_placesOver_76 0 rfl ?_
    refine zb_iload X dX8_placesOver_78 6 rfl ?_
    refine zb_iload_n X dX8_placesOver_80 rfl 3 rfl ?_
    refine zb_iadd X dX8_placesOver_81 ?_
    refine zb_icmp_lt X 114 dX8_placesOver_82 (by decide) (fun c4 => ?_) (fun c4 => ?_)
    · have h := h.1 c4
      refine zb_sub [1, 2, 3, 4, 5, 6] rfl ?_
      exact tX8_placesOver_114 X w1 hw1 w2 hw2 p3 hR hK53 x4 x5 x6 a3 h
    · have h := h.2 c4
      refine zb_iload X dX8_placesOver_85 0 rfl ?_
      refine zb_iload X dX8_placesOver_87 4 rfl ?_
      refine zb_icmp_ge X 114 dX8_placesOver_89 (by decide) (fun c5 => ?_) (fun c5 => ?_)
      · have h := h.1 c5
        refine zb_sub [1, 2, 3, 4, 5, 6] rfl ?_
        exact tX8_placesOver_114 X w1 hw1 w2 hw2 p3 hR hK53 x4 x5 x6 a3 h
      · have h := h.2 c5
        refine zb_iload X dX8_placesOver_92 5 rfl ?_
        refine zb_if_lt X 107 dX8_placesOver_94 (by decide) (fun c6 => ?_) (fun c6 => ?_)
        · have h := h.1 c6
          refine zb_sub [1, 2, 3, 4, 6, 0] rfl ?_
          exact tX8_placesOver_107 X w1 hw1 w2 hw2 p3 hR hK53 x4 x6 q3 a3 h
        · have h := h.2 c6
          refine zb_iload X dX8_placesOver_97 0 rfl ?_
          refine zb_iload X dX8_placesOver_99 6 rfl ?_
          refine zb_isub X dX8_placesOver_101 ?_
          refine zb_iload X dX8_placesOver_102 5 rfl ?_
          refine zb_icmp_ge X 114 dX8_placesOver_104 (by decide) (fun c7 => ?_) (fun c7 => ?_)
          · have h := h.1 c7
            refine zb_sub [1, 2, 3, 4, 5, 6] rfl ?_
            exact tX8_placesOver_114 X w1 hw1 w2 hw2 p3 hR hK53 x4 x5 x6 a3 h
          · have h := h.2 c7
            refine zb_sub [1, 2, 3, 4, 6, 0] rfl ?_
            exact tX8_placesOver_107 X w1 hw1 w2 hw2 p3 hR hK53 x4 x6 q3 a3 h
theorem uX8_placesOver_18 {G : zG} {Z : zC} {r : Bool} {ad ln : Nat → Nat} (X : zX G Z cX8_placesOver 8 RX8 wsX8_placesOver) (w1 : Nat) (hw1 : w1 < 48) (w2 : Nat) (hw2 : w2 < 48) (p3 : Int32) {post : Int32 → (Nat → Nat → Int32) → Prop} (hR : zRi G Z rmX8_placesOver 8 (zTC r) ad ln cX8_placesOver .int post) (al : Nat → Nat → Int32) (h : vcX8_placesOver_18 G r ad ln w1 hw1 w2 hw2 p3 (BX8_placesOver_53 G Z r ad ln w1 hw1 w2 hw2 p3) post  al) : zB G Z rmX8_placesOver 8 (zTC r) ad ln 0 0 18 [] [] al := tX8_placesOver_18 X w1 hw1 w2 hw2 p3 hR (fun _ _ _ _ h => h)  al h
theorem uX8_placesOver_38 {G : zG} {Z : zC} {r : Bool} {ad ln : Nat → Nat} (X : zX G Z cX8_placesOver 8 RX8 wsX8_placesOver) (w1 : Nat) (hw1 : w1 < 48) (w2 : Nat) (hw2 : w2 < 48) (p3 : Int32) {post : Int32 → (Nat → Nat → Int32) → Prop} (hR : zRi G Z rmX8_placesOver 8 (zTC r) ad ln cX8_placesOver .int post) (al : Nat → Nat → Int32) (h : vcX8_placesOver_38 G r ad ln w1 hw1 w2 hw2 p3 (BX8_placesOver_53 G Z r ad ln w1 hw1 w2 hw2 p3) post  al) : zB G Z rmX8_placesOver 8 (zTC r) ad ln 0 0 38 [(0, .ref (ad 12)), (1, .ref (ad (29 + 3 * w1))), (2, .ref (ad (29 + 3 * w2))), (3, .int p3)] [] al := tX8_placesOver_38 X w1 hw1 w2 hw2 p3 hR (fun _ _ _ _ h => h)  al h
theorem uX8_placesOver_0 {G : zG} {Z : zC} {r : Bool} {ad ln : Nat → Nat} (X : zX G Z cX8_placesOver 8 RX8 wsX8_placesOver) (w1 : Nat) (hw1 : w1 < 48) (w2 : Nat) (hw2 : w2 < 48) (p3 : Int32) {post : Int32 → (Nat → Nat → Int32) → Prop} (hR : zRi G Z rmX8_placesOver 8 (zTC r) ad ln cX8_placesOver .int post) (al : Nat → Nat → Int32) (h : vcX8_placesOver_0 G r ad ln w1 hw1 w2 hw2 p3 (BX8_placesOver_53 G Z r ad ln w1 hw1 w2 hw2 p3) post  al) : zB G Z rmX8_placesOver 8 (zTC r) ad ln 0 0 0 [(0, .ref (ad 12)), (1, .ref (ad (29 + 3 * w1))), (2, .ref (ad (29 + 3 * w2))), (3, .int p3)] [] al := tX8_placesOver_0 X w1 hw1 w2 hw2 p3 hR (fun _ _ _ _ h => h)  al h
theorem uX8_placesOver_114 {G : zG} {Z : zC} {r : Bool} {ad ln : Nat → Nat} (X : zX G Z cX8_placesOver 8 RX8 wsX8_placesOver) (w1 : Nat) (hw1 : w1 < 48) (w2 : Nat) (hw2 : w2 < 48) (p3 : Int32) {post : Int32 → (Nat → Nat → Int32) → Prop} (hR : zRi G Z rmX8_placesOver 8 (zTC r) ad ln cX8_placesOver .int post) (x4 x5 x6 : Int32) (al : Nat → Nat → Int32) (h : vcX8_placesOver_114 G r ad ln w1 hw1 w2 hw2 p3 (BX8_placesOver_53 G Z r ad ln w1 hw1 w2 hw2 p3) post x4 x5 x6 al) : zB G Z rmX8_placesOver 8 (zTC r) ad ln 0 0 114 [(1, .ref (ad (29 + 3 * w1))), (2, .ref (ad (29 + 3 * w2))), (3, .int p3), (4, .int x4), (5, .int x5), (6, .int x6)] [] al := tX8_placesOver_114 X w1 hw1 w2 hw2 p3 hR (fun _ _ _ _ h => h) x4 x5 x6 al h
theorem uX8_placesOver_107 {G : zG} {Z : zC} {r : Bool} {ad ln : Nat → Nat} (X : zX G Z cX8_placesOver 8 RX8 wsX8_placesOver) (w1 : Nat) (hw1 : w1 < 48) (w2 : Nat) (hw2 : w2 < 48) (p3 : Int32) {post : Int32 → (Nat → Nat → Int32) → Prop} (hR : zRi G Z rmX8_placesOver 8 (zTC r) ad ln cX8_placesOver .int post) (x4 x6 x7 : Int32) (al : Nat → Nat → Int32) (h : vcX8_placesOver_107 G r ad ln w1 hw1 w2 hw2 p3 (BX8_placesOver_53 G Z r ad ln w1 hw1 w2 hw2 p3) post x4 x6 x7 al) : zB G Z rmX8_placesOver 8 (zTC r) ad ln 0 0 107 [(1, .ref (ad (29 + 3 * w1))), (2, .ref (ad (29 + 3 * w2))), (3, .int p3), (4, .int x4), (6, .int x6), (7, .int x7)] [] al := tX8_placesOver_107 X w1 hw1 w2 hw2 p3 hR (fun _ _ _ _ h => h) x4 x6 x7 al h
theorem uX8_placesOver_53 {G : zG} {Z : zC} {r : Bool} {ad ln : Nat → Nat} (X : zX G Z cX8_placesOver 8 RX8 wsX8_placesOver) (w1 : Nat) (hw1 : w1 < 48) (w2 : Nat) (hw2 : w2 < 48) (p3 : Int32) {post : Int32 → (Nat → Nat → Int32) → Prop} (hR : zRi G Z rmX8_placesOver 8 (zTC r) ad ln cX8_placesOver .int post) (x4 x5 x6 : Int32) (al : Nat → Nat → Int32) (h : vcX8_placesOver_53 G r ad ln w1 hw1 w2 hw2 p3 (BX8_placesOver_53 G Z r ad ln w1 hw1 w2 hw2 p3) post x4 x5 x6 al) : zB G Z rmX8_placesOver 8 (zTC r) ad ln 0 0 53 [(1, .ref (ad (29 + 3 * w1))), (2, .ref (ad (29 + 3 * w2))), (3, .int p3), (4, .int x4), (5, .int x5), (6, .int x6)] [] al := tX8_placesOver_53 X w1 hw1 w2 hw2 p3 hR (fun _ _ _ _ h => h) x4 x5 x6 al h

abbrev rmX8_rowsInGroup : Room := { frames := 1, cells := 0, slots := 0, locals := 21 }
theorem kX8_rowsInGroup_0 : Cond.fieldLink RX8 27 RX8 "loop" "LLoopForge$Loop;" ∈ wsX8_rowsInGroup := by decide +kernel
theorem kX8_rowsInGroup_1 : zIn RX8 TX8 10 wsX8_rowsInGroup := by decide +kernel
theorem kX8_rowsInGroup_2 : Cond.fieldLink RX8 38 RX0 "size" "I" ∈ wsX8_rowsInGroup := by decide +kernel
theorem kX8_rowsInGroup_3 : zIn RX0 TX0 3 wsX8_rowsInGroup := by decide +kernel
theorem kX8_rowsInGroup_4 : Cond.fieldLink RX8 68 RX0 "rows" "[LLoopForge$Row;" ∈ wsX8_rowsInGroup := by decide +kernel
theorem kX8_rowsInGroup_5 : Cond.fieldLink RX8 72 RX3 "kind" "I" ∈ wsX8_rowsInGroup := by decide +kernel
theorem kX8_rowsInGroup_6 : zIn RX3 TX3 9 wsX8_rowsInGroup := by decide +kernel
theorem kX8_rowsInGroup_7 : Cond.initialized RX9 ∈ wsX8_rowsInGroup := by decide +kernel
theorem kX8_rowsInGroup_8 : Cond.static yX9_isInGroup ∈ wsX8_rowsInGroup := by decide +kernel
abbrev BX8_rowsInGroup_4 (G : zG) (Z : zC) (r : Bool) (ad ln : Nat → Nat) (p1 : Int32) (x2 x3 : Int32) (al : Nat → Nat → Int32) : Prop := zB G Z rmX8_rowsInGroup 4 (zTC r) ad ln 0 0 4 [(0, .ref (ad 12)), (1, .int p1), (2, .int x2), (3, .int x3)] [] al
def vcX8_rowsInGroup_0 (G : zG) (r : Bool) (ad ln : Nat → Nat) (p1 : Int32) (K4 : Int32 → Int32 → (Nat → Nat → Int32) → Prop) (post : Int32 → (Nat → Nat → Int32) → Prop) (al : Nat → Nat → Int32) : Prop :=
  K4 (0 : Int32) (0 : Int32) al
def vcX8_rowsInGroup_37 (G : zG) (r : Bool) (ad ln : Nat → Nat) (p1 : Int32) (K4 : Int32 → Int32 → (Nat → Nat → Int32) → Prop) (post : Int32 → (Nat → Nat → Int32) → Prop) (x2 x3 : Int32) (al : Nat → Nat → Int32) : Prop :=
  K4 x2 (x3 + (1 : Int32)) al
def vcX8_rowsInGroup_4 (G : zG) (r : Bool) (ad ln : Nat → Nat) (p1 : Int32) (K4 : Int32 → Int32 → (Nat → Nat → Int32) → Prop) (post : Int32 → (Nat → Nat → Int32) → Prop) (x2 x3 : Int32) (al : Nat → Nat → Int32) : Prop :=
  ((al 4 1) ≤ x3 → post x2 al) ∧ (¬ (al 4 1) ≤ x3 → (vp_in x3 48 ∧ zMi G yX9_isInGroup wsX9_isInGroup rmX9_isInGroup (zTC r) ad ln [.int (al (29 + 3 * x3.toNatClampNeg) 0), .int p1] al (fun q3 a3 => (q3 = 0 → vcX8_rowsInGroup_37 G r ad ln p1 K4 post x2 x3 a3) ∧ (¬ q3 = 0 → vcX8_rowsInGroup_37 G r ad ln p1 K4 post (x2 + (1 : Int32)) x3 a3))))
set_option maxRecDepth 20000 in
theorem tX8_rowsInGroup_0 {G : zG} {Z : zC} {r : Bool} {ad ln : Nat → Nat} (X : zX G Z cX8_rowsInGroup 4 RX8 wsX8_rowsInGroup) (p1 : Int32) {K4 : Int32 → Int32 → (Nat → Nat → Int32) → Prop} {post : Int32 → (Nat → Nat → Int32) → Prop} (hR : zRi G Z rmX8_rowsInGroup 4 (zTC r) ad ln cX8_rowsInGroup .int post) (hK4 : ∀ x2 x3 : Int32, ∀ al, K4 x2 x3 al → zB G Z rmX8_rowsInGroup 4 (zTC r) ad ln 0 0 4 [(0, .ref (ad 12)), (1, .int p1), (2, .int x2), (3, .int x3)] [] al) (al : Nat → Nat → Int32) (h : vcX8_rowsInGroup_0 G r ad ln p1 K4 post  al) : zB G Z rmX8_rowsInGroup 4 (zTC r) ad ln 0 0 0 [(0, .ref (ad 12)), (1, .int p1)] [] al := by
  unfold vcX8_rowsInGroup_0 at h
  refine zb_iconst X (0 : Int32) dX8_rowsInGroup_0 (by decide) ?_
  refine zb_istore_n X (lv' := [(2, .int (0 : Int32)), (0, .ref (ad 12)), (1, .int p1)]) dX8_rowsInGroup_1 rfl (by decide) rfl ?_
  refine zb_iconst X (0 : Int32) dX8_rowsInGroup_2 (by decide) ?_
  refine zb_istore_n X (lv' := [(3, .int (0 : Int32)), (2, .int (0 : Int32)), (0, .ref (ad 12)), (1, .int p1)]) dX8_rowsInGroup_3 rfl (by decide) rfl ?_
  refine zb_sub [2, 3, 1, 0] rfl ?_
  exact hK4 (0 : Int32) (0 : Int32) al h
set_option maxRecDepth 20000 in
theorem tX8_rowsInGroup_37 {G : zG} {Z : zC} {r : Bool} {ad ln : Nat → Nat} (X : zX G Z cX8_rowsInGroup 4 RX8 wsX8_rowsInGroup) (p1 : Int32) {K4 : Int32 → Int32 → (Nat → Nat → Int32) → Prop} {post : Int32 → (Nat → Nat → Int32) → Prop} (hR : zRi G Z rmX8_rowsInGroup 4 (zTC r) ad ln cX8_rowsInGroup .int post) (hK4 : ∀ x2 x3 : Int32, ∀ al, K4 x2 x3 al → zB G Z rmX8_rowsInGroup 4 (zTC r) ad ln 0 0 4 [(0, .ref (ad 12)), (1, .int p1), (2, .int x2), (3, .int x3)] [] al) (x2 x3 : Int32) (al : Nat → Nat → Int32) (h : vcX8_rowsInGroup_37 G r ad ln p1 K4 post x2 x3 al) : zB G Z rmX8_rowsInGroup 4 (zTC r) ad ln 0 0 37 [(0, .ref (ad 12)), (1, .int p1), (2, .int x2), (3, .int x3)] [] al := by
  unfold vcX8_rowsInGroup_37 at h
  refine zb_iinc X (lv' := [(3, .int (x3 + (1 : Int32))), (0, .ref (ad 12)), (1, .int p1), (2, .int x2)]) (x3 + (1 : Int32)) dX8_rowsInGroup_37 3 rfl rfl (by decide) rfl ?_
  refine zb_goto X 4 dX8_rowsInGroup_40 (by decide) ?_
  refine zb_sub [1, 2, 3, 0] rfl ?_
  exact hK4 x2 (x3 + (1 : Int32)) al h
set_option maxRecDepth 20000 in
theorem tX8_rowsInGroup_4 {G : zG} {Z : zC} {r : Bool} {ad ln : Nat → Nat} (X : zX G Z cX8_rowsInGroup 4 RX8 wsX8_rowsInGroup) (p1 : Int32) {K4 : Int32 → Int32 → (Nat → Nat → Int32) → Prop} {post : Int32 → (Nat → Nat → Int32) → Prop} (hR : zRi G Z rmX8_rowsInGroup 4 (zTC r) ad ln cX8_rowsInGroup .int post) (hK4 : ∀ x2 x3 : Int32, ∀ al, K4 x2 x3 al → zB G Z rmX8_rowsInGroup 4 (zTC r) ad ln 0 0 4 [(0, .ref (ad 12)), (1, .int p1), (2, .int x2), (3, .int x3)] [] al) (x2 x3 : Int32) (al : Nat → Nat → Int32) (h : vcX8_rowsInGroup_4 G r ad ln p1 K4 post x2 x3 al) : zB G Z rmX8_rowsInGroup 4 (zTC r) ad ln 0 0 4 [(0, .ref (ad 12)), (1, .int p1), (2, .int x2), (3, .int x3)] [] al := by
  unfold vcX8_rowsInGroup_4 at h
  refine zb_iload_n X dX8_rowsInGroup_4 rfl 3 rfl ?_
  refine zb_aload_n X dX8_rowsInGroup_5 rfl 0 rfl ?_
  refine zb_getR X 12 (zTC_lt (by decide)) 8 [6, 4, 0, 15, 16, 17, 18, 19, 0, 0] rfl (C := RX8) (Tt := TX8) (N := 10) rfl kX8_rowsInGroup_1 0 (by decide) 4 rfl kX8_rowsInGroup_0 rfl dX8_rowsInGroup_6 ?_
  refine zb_getI X 4 (zTC_lt (by decide)) 0 [7, 0, 8] rfl (C := RX0) (Tt := TX0) (N := 3) rfl kX8_rowsInGroup_3 1 (by decide) rfl kX8_rowsInGroup_2 rfl dX8_rowsInGroup_9 (al 4 1) rfl ?_
  refine zb_icmp_ge X 43 dX8_rowsInGroup_12 (by decide) (fun c1 => ?_) (fun c1 => ?_)
  · have h := h.1 c1
    refine zb_iload_n X dX8_rowsInGroup_43 rfl 2 rfl ?_
    exact hR 44 _ _ _ dX8_rowsInGroup_44 rfl h
  · have h := h.2 c1
    refine zb_aload_n X dX8_rowsInGroup_15 rfl 0 rfl ?_
    refine zb_getR X 12 (zTC_lt (by decide)) 8 [6, 4, 0, 15, 16, 17, 18, 19, 0, 0] rfl (C := RX8) (Tt := TX8) (N := 10) rfl kX8_rowsInGroup_1 0 (by decide) 4 rfl kX8_rowsInGroup_0 rfl dX8_rowsInGroup_16 ?_
    refine zb_getR X 4 (zTC_lt (by decide)) 0 [7, 0, 8] rfl (C := RX0) (Tt := TX0) (N := 3) rfl kX8_rowsInGroup_3 0 (by decide) 5 rfl kX8_rowsInGroup_4 rfl dX8_rowsInGroup_19 ?_
    refine zb_iload_n X dX8_rowsInGroup_22 rfl 3 rfl ?_
    obtain ⟨hq2, h⟩ := h
    refine zb_rald X 5 (zTC_lt (by decide)) 48 29 3 rfl hq2 dX8_rowsInGroup_23 ?_
    refine zb_getI X (29 + 3 * x3.toNatClampNeg) (zTC_lt (zrow_lt (zvp_lt hq2))) 3 [0, 0, 0, 0, 0, 0, 0, (30 + 3 * x3.toNatClampNeg) + 2, (31 + 3 * x3.toNatClampNeg) + 2] (zTC_row r (zvp_lt hq2)) (C := RX3) (Tt := TX3) (N := 9) rfl kX8_rowsInGroup_6 0 (by decide) rfl kX8_rowsInGroup_5 rfl dX8_rowsInGroup_24 (al (29 + 3 * x3.toNatClampNeg) 0) rfl ?_
    refine zb_iload_n X dX8_rowsInGroup_27 rfl 1 rfl ?_
    refine zb_callNi (n := 2) X h gX8_rowsInGroup_X9_isInGroup_n138 (by decide +kernel) kX8_rowsInGroup_7 kX8_rowsInGroup_8 rfl (by decide +kernel) (by decide) rfl rfl (Nat.le_of_ble_eq_true rfl) dX8_rowsInGroup_28 (kc' := 0) (ks' := 0) rfl rfl (fun q3 a3 h => ?_)
    refine zb_if_eq X 37 dX8_rowsInGroup_31 (by decide) (fun c4 => ?_) (fun c4 => ?_)
    · have h := h.1 c4
      refine zb_sub [0, 1, 2, 3] rfl ?_
      exact tX8_rowsInGroup_37 X p1 hR hK4 x2 x3 a3 h
    · have h := h.2 c4
      refine zb_iinc X (lv' := [(2, .int (x2 + (1 : Int32))), (0, .ref (ad 12)), (1, .int p1), (3, .int x3)]) (x2 + (1 : Int32)) dX8_rowsInGroup_34 2 rfl rfl (by decide) rfl ?_
      refine zb_sub [1, 2, 0, 3] rfl ?_
      exact tX8_rowsInGroup_37 X p1 hR hK4 (x2 + (1 : Int32)) x3 a3 h
theorem uX8_rowsInGroup_0 {G : zG} {Z : zC} {r : Bool} {ad ln : Nat → Nat} (X : zX G Z cX8_rowsInGroup 4 RX8 wsX8_rowsInGroup) (p1 : Int32) {post : Int32 → (Nat → Nat → Int32) → Prop} (hR : zRi G Z rmX8_rowsInGroup 4 (zTC r) ad ln cX8_rowsInGroup .int post) (al : Nat → Nat → Int32) (h : vcX8_rowsInGroup_0 G r ad ln p1 (BX8_rowsInGroup_4 G Z r ad ln p1) post  al) : zB G Z rmX8_rowsInGroup 4 (zTC r) ad ln 0 0 0 [(0, .ref (ad 12)), (1, .int p1)] [] al := tX8_rowsInGroup_0 X p1 hR (fun _ _ _ h => h)  al h
theorem uX8_rowsInGroup_37 {G : zG} {Z : zC} {r : Bool} {ad ln : Nat → Nat} (X : zX G Z cX8_rowsInGroup 4 RX8 wsX8_rowsInGroup) (p1 : Int32) {post : Int32 → (Nat → Nat → Int32) → Prop} (hR : zRi G Z rmX8_rowsInGroup 4 (zTC r) ad ln cX8_rowsInGroup .int post) (x2 x3 : Int32) (al : Nat → Nat → Int32) (h : vcX8_rowsInGroup_37 G r ad ln p1 (BX8_rowsInGroup_4 G Z r ad ln p1) post x2 x3 al) : zB G Z rmX8_rowsInGroup 4 (zTC r) ad ln 0 0 37 [(0, .ref (ad 12)), (1, .int p1), (2, .int x2), (3, .int x3)] [] al := tX8_rowsInGroup_37 X p1 hR (fun _ _ _ h => h) x2 x3 al h
theorem uX8_rowsInGroup_4 {G : zG} {Z : zC} {r : Bool} {ad ln : Nat → Nat} (X : zX G Z cX8_rowsInGroup 4 RX8 wsX8_rowsInGroup) (p1 : Int32) {post : Int32 → (Nat → Nat → Int32) → Prop} (hR : zRi G Z rmX8_rowsInGroup 4 (zTC r) ad ln cX8_rowsInGroup .int post) (x2 x3 : Int32) (al : Nat → Nat → Int32) (h : vcX8_rowsInGroup_4 G r ad ln p1 (BX8_rowsInGroup_4 G Z r ad ln p1) post x2 x3 al) : zB G Z rmX8_rowsInGroup 4 (zTC r) ad ln 0 0 4 [(0, .ref (ad 12)), (1, .int p1), (2, .int x2), (3, .int x3)] [] al := tX8_rowsInGroup_4 X p1 hR (fun _ _ _ h => h) x2 x3 al h

abbrev rmX8_findLeastByUnits : Room := { frames := 2, cells := 0, slots := 0, locals := 44 }
theorem kX8_findLeastByUnits_0 : Cond.fieldLink RX8 31 RX8 "settings" "[I" ∈ wsX8_findLeastByUnits := by decide +kernel
theorem kX8_findLeastByUnits_1 : zIn RX8 TX8 10 wsX8_findLeastByUnits := by decide +kernel
theorem kX8_findLeastByUnits_2 : Cond.initialized RX9 ∈ wsX8_findLeastByUnits := by decide +kernel
theorem kX8_findLeastByUnits_3 : Cond.static yX9_quotient ∈ wsX8_findLeastByUnits := by decide +kernel
theorem kX8_findLeastByUnits_4 : Cond.methodLink RX8 99 Lib.Math.max.name ∈ wsX8_findLeastByUnits := by decide +kernel
theorem kX8_findLeastByUnits_5 : Cond.static Lib.Math.max.name ∈ wsX8_findLeastByUnits := by decide +kernel
theorem kX8_findLeastByUnits_6 : Cond.initialized "java/lang/Math" ∈ wsX8_findLeastByUnits := by decide +kernel
theorem kX8_findLeastByUnits_7 : Cond.code Lib.Math.max.name Lib.Math.max.code 2 (some .int) ∈ wsX8_findLeastByUnits := by decide +kernel
abbrev BX8_findLeastByUnits_4 (G : zG) (Z : zC) (r : Bool) (ad ln : Nat → Nat) (x1 x2 : Int32) (al : Nat → Nat → Int32) : Prop := zB G Z rmX8_findLeastByUnits 4 (zTC r) ad ln 0 0 4 [(0, .ref (ad 12)), (1, .int x1), (2, .int x2)] [] al
def vcX8_findLeastByUnits_0 (G : zG) (r : Bool) (ad ln : Nat → Nat) (K4 : Int32 → Int32 → (Nat → Nat → Int32) → Prop) (post : Int32 → (Nat → Nat → Int32) → Prop) (al : Nat → Nat → Int32) : Prop :=
  K4 (0 : Int32) (0 : Int32) al
def vcX8_findLeastByUnits_4 (G : zG) (r : Bool) (ad ln : Nat → Nat) (K4 : Int32 → Int32 → (Nat → Nat → Int32) → Prop) (post : Int32 → (Nat → Nat → Int32) → Prop) (x1 x2 : Int32) (al : Nat → Nat → Int32) : Prop :=
  ((4 : Int32) ≤ x2 → post x1 al) ∧ (¬ (4 : Int32) ≤ x2 → (vp_in x2 4 ∧ vp_in (zGS x2.toNatClampNeg) 9 ∧ zMi G yX8_rowsInGroup wsX8_rowsInGroup rmX8_rowsInGroup (zTC r) ad ln [.ref (ad 12), .int x2] al (fun q3 a3 => zMi G yX9_quotient wsX9_quotient rmX9_quotient (zTC r) ad ln [.int ((q3 + (al 2 ((zGS x2.toNatClampNeg).toNatClampNeg))) - (1 : Int32)), .int (al 2 ((zGS x2.toNatClampNeg).toNatClampNeg))] a3 (fun q4 a4 => K4 (if x1 < q4 then q4 else x1) (x2 + (1 : Int32)) a4))))
set_option maxRecDepth 20000 in
theorem tX8_findLeastByUnits_0 {G : zG} {Z : zC} {r : Bool} {ad ln : Nat → Nat} (X : zX G Z cX8_findLeastByUnits 4 RX8 wsX8_findLeastByUnits) {K4 : Int32 → Int32 → (Nat → Nat → Int32) → Prop} {post : Int32 → (Nat → Nat → Int32) → Prop} (hR : zRi G Z rmX8_findLeastByUnits 4 (zTC r) ad ln cX8_findLeastByUnits .int post) (hK4 : ∀ x1 x2 : Int32, ∀ al, K4 x1 x2 al → zB G Z rmX8_findLeastByUnits 4 (zTC r) ad ln 0 0 4 [(0, .ref (ad 12)), (1, .int x1), (2, .int x2)] [] al) (al : Nat → Nat → Int32) (h : vcX8_findLeastByUnits_0 G r ad ln K4 post  al) : zB G Z rmX8_findLeastByUnits 4 (zTC r) ad ln 0 0 0 [(0, .ref (ad 12))] [] al := by
  unfold vcX8_findLeastByUnits_0 at h
  refine zb_iconst X (0 : Int32) dX8_findLeastByUnits_0 (by decide) ?_
  refine zb_istore_n X (lv' := [(1, .int (0 : Int32)), (0, .ref (ad 12))]) dX8_findLeastByUnits_1 rfl (by decide) rfl ?_
  refine zb_iconst X (0 : Int32) dX8_findLeastByUnits_2 (by decide) ?_
  refine zb_istore_n X (lv' := [(2, .int (0 : Int32)), (1, .int (0 : Int32)), (0, .ref (ad 12))]) dX8_findLeastByUnits_3 rfl (by decide) rfl ?_
  refine zb_sub [2, 1, 0] rfl ?_
  exact hK4 (0 : Int32) (0 : Int32) al h
set_option maxRecDepth 20000 in
theorem tX8_findLeastByUnits_4 {G : zG} {Z : zC} {r : Bool} {ad ln : Nat → Nat} (X : zX G Z cX8_findLeastByUnits 4 RX8 wsX8_findLeastByUnits) {K4 : Int32 → Int32 → (Nat → Nat → Int32) → Prop} {post : Int32 → (Nat → Nat → Int32) → Prop} (hR : zRi G Z rmX8_findLeastByUnits 4 (zTC r) ad ln cX8_findLeastByUnits .int post) (hK4 : ∀ x1 x2 : Int32, ∀ al, K4 x1 x2 al → zB G Z rmX8_findLeastByUnits 4 (zTC r) ad ln 0 0 4 [(0, .ref (ad 12)), (1, .int x1), (2, .int x2)] [] al) (x1 x2 : Int32) (al : Nat → Nat → Int32) (h : vcX8_findLeastByUnits_4 G r ad ln K4 post x1 x2 al) : zB G Z rmX8_findLeastByUnits 4 (zTC r) ad ln 0 0 4 [(0, .ref (ad 12)), (1, .int x1), (2, .int x2)] [] al := by
  unfold vcX8_findLeastByUnits_4 at h
  refine zb_iload_n X dX8_findLeastByUnits_4 rfl 2 rfl ?_
  refine zb_iconst X (4 : Int32) dX8_findLeastByUnits_5 (by decide) ?_
  refine zb_icmp_ge X 44 dX8_findLeastByUnits_6 (by decide) (fun c1 => ?_) (fun c1 => ?_)
  · have h := h.1 c1
    refine zb_iload_n X dX8_findLeastByUnits_44 rfl 1 rfl ?_
    exact hR 45 _ _ _ dX8_findLeastByUnits_45 rfl h
  · have h := h.2 c1
    refine zb_aload_n X dX8_findLeastByUnits_9 rfl 0 rfl ?_
    refine zb_getR X 12 (zTC_lt (by decide)) 8 [6, 4, 0, 15, 16, 17, 18, 19, 0, 0] rfl (C := RX8) (Tt := TX8) (N := 10) rfl kX8_findLeastByUnits_1 1 (by decide) 2 rfl kX8_findLeastByUnits_0 rfl dX8_findLeastByUnits_10 ?_
    refine zb_statN X (by decide) dX8_findLeastByUnits_13 (fun t2 ht2 => ?_)
    refine zb_iload_n X dX8_findLeastByUnits_16 rfl 2 rfl ?_
    obtain ⟨hz, h⟩ := h
    refine zb_tald X t2 4 zGS ht2 x2.toNatClampNeg rfl hz dX8_findLeastByUnits_17 ?_
    obtain ⟨hz, h⟩ := h
    refine zb_iald X 2 (zTC_lt (by decide)) 1 9 0 0 rfl (Or.inl rfl) ((zGS x2.toNatClampNeg).toNatClampNeg) rfl hz dX8_findLeastByUnits_18 (al 2 ((zGS x2.toNatClampNeg).toNatClampNeg)) rfl ?_
    refine zb_istore_n X (lv' := [(3, .int (al 2 ((zGS x2.toNatClampNeg).toNatClampNeg))), (0, .ref (ad 12)), (1, .int x1), (2, .int x2)]) dX8_findLeastByUnits_19 rfl (by decide) rfl ?_
    refine zb_iload_n X dX8_findLeastByUnits_20 rfl 2 rfl ?_
    refine zb_aload_n X dX8_findLeastByUnits_21 rfl 1 rfl ?_
    refine zb_iload_n X dX8_findLeastByUnits_22 rfl 3 rfl ?_
    refine zb_callVi (n := 1) X 12 (zTC_lt (by decide)) 8 [6, 4, 0, 15, 16, 17, 18, 19, 0, 0] rfl (C := RX8) (Tt := TX8) (N := 10) rfl h gX8_findLeastByUnits_X8_rowsInGroup rfl (by decide +kernel) (by decide) rfl rfl (Nat.le_of_ble_eq_true rfl) dX8_findLeastByUnits_23 (kc' := 0) (ks' := 0) rfl rfl (fun q3 a3 h => ?_)
    refine zb_iload_n X dX8_findLeastByUnits_26 rfl 0 rfl ?_
    refine zb_iadd X dX8_findLeastByUnits_27 ?_
    refine zb_iconst X (1 : Int32) dX8_findLeastByUnits_28 (by decide) ?_
    refine zb_isub X dX8_findLeastByUnits_29 ?_
    refine zb_iload_n X dX8_findLeastByUnits_30 rfl 0 rfl ?_
    refine zb_callNi (n := 2) X h gX8_findLeastByUnits_X9_quotient_n135 (by decide +kernel) kX8_findLeastByUnits_2 kX8_findLeastByUnits_3 rfl (by decide +kernel) (by decide) rfl rfl (Nat.le_of_ble_eq_true rfl) dX8_findLeastByUnits_31 (kc' := 0) (ks' := 0) rfl rfl (fun q4 a4 h => ?_)
    refine zb_mmax X kX8_findLeastByUnits_4 kX8_findLeastByUnits_5 kX8_findLeastByUnits_6 kX8_findLeastByUnits_7 ⟨⟨Nat.le_of_ble_eq_true rfl, Nat.le_of_ble_eq_true rfl⟩, Nat.le_of_ble_eq_true rfl, Nat.le_of_ble_eq_true rfl⟩ dX8_findLeastByUnits_34 ?_
    refine zb_istore_n X (lv' := [(1, .int (if x1 < q4 then q4 else x1)), (3, .int (al 2 ((zGS x2.toNatClampNeg).toNatClampNeg))), (0, .ref (ad 12)), (2, .int x2)]) dX8_findLeastByUnits_37 rfl (by decide) rfl ?_
    refine zb_iinc X (lv' := [(2, .int (x2 + (1 : Int32))), (1, .int (if x1 < q4 then q4 else x1)), (3, .int (al 2 ((zGS x2.toNatClampNeg).toNatClampNeg))), (0, .ref (ad 12))]) (x2 + (1 : Int32)) dX8_findLeastByUnits_38 3 rfl rfl (by decide) rfl ?_
    refine zb_goto X 4 dX8_findLeastByUnits_41 (by decide) ?_
    refine zb_sub [3, 1, 0] rfl ?_
    exact hK4 (if x1 < q4 then q4 else x1) (x2 + (1 : Int32)) a4 h
theorem uX8_findLeastByUnits_0 {G : zG} {Z : zC} {r : Bool} {ad ln : Nat → Nat} (X : zX G Z cX8_findLeastByUnits 4 RX8 wsX8_findLeastByUnits) {post : Int32 → (Nat → Nat → Int32) → Prop} (hR : zRi G Z rmX8_findLeastByUnits 4 (zTC r) ad ln cX8_findLeastByUnits .int post) (al : Nat → Nat → Int32) (h : vcX8_findLeastByUnits_0 G r ad ln (BX8_findLeastByUnits_4 G Z r ad ln) post  al) : zB G Z rmX8_findLeastByUnits 4 (zTC r) ad ln 0 0 0 [(0, .ref (ad 12))] [] al := tX8_findLeastByUnits_0 X hR (fun _ _ _ h => h)  al h
theorem uX8_findLeastByUnits_4 {G : zG} {Z : zC} {r : Bool} {ad ln : Nat → Nat} (X : zX G Z cX8_findLeastByUnits 4 RX8 wsX8_findLeastByUnits) {post : Int32 → (Nat → Nat → Int32) → Prop} (hR : zRi G Z rmX8_findLeastByUnits 4 (zTC r) ad ln cX8_findLeastByUnits .int post) (x1 x2 : Int32) (al : Nat → Nat → Int32) (h : vcX8_findLeastByUnits_4 G r ad ln (BX8_findLeastByUnits_4 G Z r ad ln) post x1 x2 al) : zB G Z rmX8_findLeastByUnits 4 (zTC r) ad ln 0 0 4 [(0, .ref (ad 12)), (1, .int x1), (2, .int x2)] [] al := tX8_findLeastByUnits_4 X hR (fun _ _ _ h => h) x1 x2 al h

abbrev rmX8_findLeastByCircles : Room := { frames := 2, cells := 0, slots := 0, locals := 46 }
abbrev BX8_findLeastByCircles_8 (G : zG) (Z : zC) (r : Bool) (ad ln : Nat → Nat) (x1 x2 x3 : Int32) (al : Nat → Nat → Int32) : Prop := zB G Z rmX8_findLeastByCircles 5 (zTC r) ad ln 0 0 8 [(0, .ref (ad 12)), (1, .int x1), (2, .int x2), (3, .int x3)] [] al
def vcX8_findLeastByCircles_0 (G : zG) (r : Bool) (ad ln : Nat → Nat) (K8 : Int32 → Int32 → Int32 → (Nat → Nat → Int32) → Prop) (post : Int32 → (Nat → Nat → Int32) → Prop) (al : Nat → Nat → Int32) : Prop :=
  K8 (1 : Int32) (960 : Int32) (0 : Int32) al
def vcX8_findLeastByCircles_52 (G : zG) (r : Bool) (ad ln : Nat → Nat) (K8 : Int32 → Int32 → Int32 → (Nat → Nat → Int32) → Prop) (post : Int32 → (Nat → Nat → Int32) → Prop) (x2 : Int32) (al : Nat → Nat → Int32) : Prop :=
  post x2 al
def vcX8_findLeastByCircles_46 (G : zG) (r : Bool) (ad ln : Nat → Nat) (K8 : Int32 → Int32 → Int32 → (Nat → Nat → Int32) → Prop) (post : Int32 → (Nat → Nat → Int32) → Prop) (x1 x2 x3 : Int32) (al : Nat → Nat → Int32) : Prop :=
  K8 x1 x2 (x3 + (1 : Int32)) al
def vcX8_findLeastByCircles_8 (G : zG) (r : Bool) (ad ln : Nat → Nat) (K8 : Int32 → Int32 → Int32 → (Nat → Nat → Int32) → Prop) (post : Int32 → (Nat → Nat → Int32) → Prop) (x1 x2 x3 : Int32) (al : Nat → Nat → Int32) : Prop :=
  ((32 : Int32) ≤ x3 → vcX8_findLeastByCircles_52 G r ad ln K8 post x2 al) ∧ (¬ (32 : Int32) ≤ x3 → (x2 ≤ x1 → vcX8_findLeastByCircles_52 G r ad ln K8 post x2 al) ∧ (¬ x2 ≤ x1 → (¬ (2 : Int32) = 0 ∧ zMi G yX8_findHeights wsX8_findHeights rmX8_findHeights (zTC r) ad ln [.ref (ad 12), .int ((x1 + x2) / (2 : Int32))] al (fun q3 a3 => (q3 = 0 → vcX8_findLeastByCircles_46 G r ad ln K8 post (((x1 + x2) / (2 : Int32)) + (1 : Int32)) x2 x3 a3) ∧ (¬ q3 = 0 → vcX8_findLeastByCircles_46 G r ad ln K8 post x1 ((x1 + x2) / (2 : Int32)) x3 a3)))))
set_option maxRecDepth 20000 in
theorem tX8_findLeastByCircles_0 {G : zG} {Z : zC} {r : Bool} {ad ln : Nat → Nat} (X : zX G Z cX8_findLeastByCircles 5 RX8 wsX8_findLeastByCircles) {K8 : Int32 → Int32 → Int32 → (Nat → Nat → Int32) → Prop} {post : Int32 → (Nat → Nat → Int32) → Prop} (hR : zRi G Z rmX8_findLeastByCircles 5 (zTC r) ad ln cX8_findLeastByCircles .int post) (hK8 : ∀ x1 x2 x3 : Int32, ∀ al, K8 x1 x2 x3 al → zB G Z rmX8_findLeastByCircles 5 (zTC r) ad ln 0 0 8 [(0, .ref (ad 12)), (1, .int x1), (2, .int x2), (3, .int x3)] [] al) (al : Nat → Nat → Int32) (h : vcX8_findLeastByCircles_0 G r ad ln K8 post  al) : zB G Z rmX8_findLeastByCircles 5 (zTC r) ad ln 0 0 0 [(0, .ref (ad 12))] [] al := by
  unfold vcX8_findLeastByCircles_0 at h
  refine zb_iconst X (1 : Int32) dX8_findLeastByCircles_0 (by decide) ?_
  refine zb_istore_n X (lv' := [(1, .int (1 : Int32)), (0, .ref (ad 12))]) dX8_findLeastByCircles_1 rfl (by decide) rfl ?_
  refine zb_sipush X (960 : Int32) dX8_findLeastByCircles_2 (by decide) ?_
  refine zb_istore_n X (lv' := [(2, .int (960 : Int32)), (1, .int (1 : Int32)), (0, .ref (ad 12))]) dX8_findLeastByCircles_5 rfl (by decide) rfl ?_
  refine zb_iconst X (0 : Int32) dX8_findLeastByCircles_6 (by decide) ?_
  refine zb_istore_n X (lv' := [(3, .int (0 : Int32)), (2, .int (960 : Int32)), (1, .int (1 : Int32)), (0, .ref (ad 12))]) dX8_findLeastByCircles_7 rfl (by decide) rfl ?_
  refine zb_sub [3, 2, 1, 0] rfl ?_
  exact hK8 (1 : Int32) (960 : Int32) (0 : Int32) al h
set_option maxRecDepth 20000 in
theorem tX8_findLeastByCircles_52 {G : zG} {Z : zC} {r : Bool} {ad ln : Nat → Nat} (X : zX G Z cX8_findLeastByCircles 5 RX8 wsX8_findLeastByCircles) {K8 : Int32 → Int32 → Int32 → (Nat → Nat → Int32) → Prop} {post : Int32 → (Nat → Nat → Int32) → Prop} (hR : zRi G Z rmX8_findLeastByCircles 5 (zTC r) ad ln cX8_findLeastByCircles .int post) (hK8 : ∀ x1 x2 x3 : Int32, ∀ al, K8 x1 x2 x3 al → zB G Z rmX8_findLeastByCircles 5 (zTC r) ad ln 0 0 8 [(0, .ref (ad 12)), (1, .int x1), (2, .int x2), (3, .int x3)] [] al) (x2 : Int32) (al : Nat → Nat → Int32) (h : vcX8_findLeastByCircles_52 G r ad ln K8 post x2 al) : zB G Z rmX8_findLeastByCircles 5 (zTC r) ad ln 0 0 52 [(2, .int x2)] [] al := by
  unfold vcX8_findLeastByCircles_52 at h
  refine zb_iload_n X dX8_findLeastByCircles_52 rfl 0 rfl ?_
  exact hR 53 _ _ _ dX8_findLeastByCircles_53 rfl h
set_option maxRecDepth 20000 in
theorem tX8_findLeastByCircles_46 {G : zG} {Z : zC} {r : Bool} {ad ln : Nat → Nat} (X : zX G Z cX8_findLeastByCircles 5 RX8 wsX8_findLeastByCircles) {K8 : Int32 → Int32 → Int32 → (Nat → Nat → Int32) → Prop} {post : Int32 → (Nat → Nat → Int32) → Prop} (hR : zRi G Z rmX8_findLeastByCircles 5 (zTC r) ad ln cX8_findLeastByCircles .int post) (hK8 : ∀ x1 x2 x3 : Int32, ∀ al, K8 x1 x2 x3 al → zB G Z rmX8_findLeastByCircles 5 (zTC r) ad ln 0 0 8 [(0, .ref (ad 12)), (1, .int x1), (2, .int x2), (3, .int x3)] [] al) (x1 x2 x3 : Int32) (al : Nat → Nat → Int32) (h : vcX8_findLeastByCircles_46 G r ad ln K8 post x1 x2 x3 al) : zB G Z rmX8_findLeastByCircles 5 (zTC r) ad ln 0 0 46 [(0, .ref (ad 12)), (1, .int x1), (2, .int x2), (3, .int x3)] [] al := by
  unfold vcX8_findLeastByCircles_46 at h
  refine zb_iinc X (lv' := [(3, .int (x3 + (1 : Int32))), (0, .ref (ad 12)), (1, .int x1), (2, .int x2)]) (x3 + (1 : Int32)) dX8_findLeastByCircles_46 3 rfl rfl (by decide) rfl ?_
  refine zb_goto X 8 dX8_findLeastByCircles_49 (by decide) ?_
  refine zb_sub [1, 2, 3, 0] rfl ?_
  exact hK8 x1 x2 (x3 + (1 : Int32)) al h
set_option maxRecDepth 20000 in
theorem tX8_findLeastByCircles_8 {G : zG} {Z : zC} {r : Bool} {ad ln : Nat → Nat} (X : zX G Z cX8_findLeastByCircles 5 RX8 wsX8_findLeastByCircles) {K8 : Int32 → Int32 → Int32 → (Nat → Nat → Int32) → Prop} {post : Int32 → (Nat → Nat → Int32) → Prop} (hR : zRi G Z rmX8_findLeastByCircles 5 (zTC r) ad ln cX8_findLeastByCircles .int post) (hK8 : ∀ x1 x2 x3 : Int32, ∀ al, K8 x1 x2 x3 al → zB G Z rmX8_findLeastByCircles 5 (zTC r) ad ln 0 0 8 [(0, .ref (ad 12)), (1, .int x1), (2, .int x2), (3, .int x3)] [] al) (x1 x2 x3 : Int32) (al : Nat → Nat → Int32) (h : vcX8_findLeastByCircles_8 G r ad ln K8 post x1 x2 x3 al) : zB G Z rmX8_findLeastByCircles 5 (zTC r) ad ln 0 0 8 [(0, .ref (ad 12)), (1, .int x1), (2, .int x2), (3, .int x3)] [] al := by
  unfold vcX8_findLeastByCircles_8 at h
  refine zb_iload_n X dX8_findLeastByCircles_8 rfl 3 rfl ?_
  refine zb_bipush X (32 : Int32) dX8_findLeastByCircles_9 (by decide) ?_
  refine zb_icmp_ge X 52 dX8_findLeastByCircles_11 (by decide) (fun c1 => ?_) (fun c1 => ?_)
  · have h := h.1 c1
    refine zb_sub [2] rfl ?_
    exact tX8_findLeastByCircles_52 X hR hK8 x2 al h
  · have h := h.2 c1
    refine zb_iload_n X dX8_findLeastByCircles_14 rfl 1 rfl ?_
    refine zb_iload_n X dX8_findLeastByCircles_15 rfl 2 rfl ?_
    refine zb_icmp_ge X 52 dX8_findLeastByCircles_16 (by decide) (fun c2 => ?_) (fun c2 => ?_)
    · have h := h.1 c2
      refine zb_sub [2] rfl ?_
      exact tX8_findLeastByCircles_52 X hR hK8 x2 al h
    · have h := h.2 c2
      refine zb_iload_n X dX8_findLeastByCircles_19 rfl 1 rfl ?_
      refine zb_iload_n X dX8_findLeastByCircles_20 rfl 2 rfl ?_
      refine zb_iadd X dX8_findLeastByCircles_21 ?_
      refine zb_iconst X (2 : Int32) dX8_findLeastByCircles_22 (by decide) ?_
      obtain ⟨hz, h⟩ := h
      refine zb_idiv X dX8_findLeastByCircles_23 hz ?_
      refine zb_istore X (lv' := [(4, .int ((x1 + x2) / (2 : Int32))), (0, .ref (ad 12)), (1, .int x1), (2, .int x2), (3, .int x3)]) dX8_findLeastByCircles_24 (by decide) rfl ?_
      refine zb_aload_n X dX8_findLeastByCircles_26 rfl 1 rfl ?_
      refine zb_iload X dX8_findLeastByCircles_27 0 rfl ?_
      refine zb_callVi (n := 1) X 12 (zTC_lt (by decide)) 8 [6, 4, 0, 15, 16, 17, 18, 19, 0, 0] rfl (C := RX8) (Tt := TX8) (N := 10) rfl h gX8_findLeastByCircles_X8_findHeights rfl (by decide +kernel) (by decide) rfl rfl (Nat.le_of_ble_eq_true rfl) dX8_findLeastByCircles_29 (kc' := 0) (ks' := 0) rfl rfl (fun q3 a3 h => ?_)
      refine zb_if_eq X 41 dX8_findLeastByCircles_32 (by decide) (fun c4 => ?_) (fun c4 => ?_)
      · have h := h.1 c4
        refine zb_iload X dX8_findLeastByCircles_41 0 rfl ?_
        refine zb_iconst X (1 : Int32) dX8_findLeastByCircles_43 (by decide) ?_
        refine zb_iadd X dX8_findLeastByCircles_44 ?_
        refine zb_istore_n X (lv' := [(1, .int (((x1 + x2) / (2 : Int32)) + (1 : Int32))), (4, .int ((x1 + x2) / (2 : Int32))), (0, .ref (ad 12)), (2, .int x2), (3, .int x3)]) dX8_findLeastByCircles_45 rfl (by decide) rfl ?_
        refine zb_sub [2, 0, 3, 4] rfl ?_
        exact tX8_findLeastByCircles_46 X hR hK8 (((x1 + x2) / (2 : Int32)) + (1 : Int32)) x2 x3 a3 h
      · have h := h.2 c4
        refine zb_iload X dX8_findLeastByCircles_35 0 rfl ?_
        refine zb_istore_n X (lv' := [(2, .int ((x1 + x2) / (2 : Int32))), (4, .int ((x1 + x2) / (2 : Int32))), (0, .ref (ad 12)), (1, .int x1), (3, .int x3)]) dX8_findLeastByCircles_37 rfl (by decide) rfl ?_
        refine zb_goto X 46 dX8_findLeastByCircles_38 (by decide) ?_
        refine zb_sub [2, 3, 0, 4] rfl ?_
        exact tX8_findLeastByCircles_46 X hR hK8 x1 ((x1 + x2) / (2 : Int32)) x3 a3 h
theorem uX8_findLeastByCircles_0 {G : zG} {Z : zC} {r : Bool} {ad ln : Nat → Nat} (X : zX G Z cX8_findLeastByCircles 5 RX8 wsX8_findLeastByCircles) {post : Int32 → (Nat → Nat → Int32) → Prop} (hR : zRi G Z rmX8_findLeastByCircles 5 (zTC r) ad ln cX8_findLeastByCircles .int post) (al : Nat → Nat → Int32) (h : vcX8_findLeastByCircles_0 G r ad ln (BX8_findLeastByCircles_8 G Z r ad ln) post  al) : zB G Z rmX8_findLeastByCircles 5 (zTC r) ad ln 0 0 0 [(0, .ref (ad 12))] [] al := tX8_findLeastByCircles_0 X hR (fun _ _ _ _ h => h)  al h
theorem uX8_findLeastByCircles_52 {G : zG} {Z : zC} {r : Bool} {ad ln : Nat → Nat} (X : zX G Z cX8_findLeastByCircles 5 RX8 wsX8_findLeastByCircles) {post : Int32 → (Nat → Nat → Int32) → Prop} (hR : zRi G Z rmX8_findLeastByCircles 5 (zTC r) ad ln cX8_findLeastByCircles .int post) (x2 : Int32) (al : Nat → Nat → Int32) (h : vcX8_findLeastByCircles_52 G r ad ln (BX8_findLeastByCircles_8 G Z r ad ln) post x2 al) : zB G Z rmX8_findLeastByCircles 5 (zTC r) ad ln 0 0 52 [(2, .int x2)] [] al := tX8_findLeastByCircles_52 X hR (fun _ _ _ _ h => h) x2 al h
theorem uX8_findLeastByCircles_46 {G : zG} {Z : zC} {r : Bool} {ad ln : Nat → Nat} (X : zX G Z cX8_findLeastByCircles 5 RX8 wsX8_findLeastByCircles) {post : Int32 → (Nat → Nat → Int32) → Prop} (hR : zRi G Z rmX8_findLeastByCircles 5 (zTC r) ad ln cX8_findLeastByCircles .int post) (x1 x2 x3 : Int32) (al : Nat → Nat → Int32) (h : vcX8_findLeastByCircles_46 G r ad ln (BX8_findLeastByCircles_8 G Z r ad ln) post x1 x2 x3 al) : zB G Z rmX8_findLeastByCircles 5 (zTC r) ad ln 0 0 46 [(0, .ref (ad 12)), (1, .int x1), (2, .int x2), (3, .int x3)] [] al := tX8_findLeastByCircles_46 X hR (fun _ _ _ _ h => h) x1 x2 x3 al h
theorem uX8_findLeastByCircles_8 {G : zG} {Z : zC} {r : Bool} {ad ln : Nat → Nat} (X : zX G Z cX8_findLeastByCircles 5 RX8 wsX8_findLeastByCircles) {post : Int32 → (Nat → Nat → Int32) → Prop} (hR : zRi G Z rmX8_findLeastByCircles 5 (zTC r) ad ln cX8_findLeastByCircles .int post) (x1 x2 x3 : Int32) (al : Nat → Nat → Int32) (h : vcX8_findLeastByCircles_8 G r ad ln (BX8_findLeastByCircles_8 G Z r ad ln) post x1 x2 x3 al) : zB G Z rmX8_findLeastByCircles 5 (zTC r) ad ln 0 0 8 [(0, .ref (ad 12)), (1, .int x1), (2, .int x2), (3, .int x3)] [] al := tX8_findLeastByCircles_8 X hR (fun _ _ _ _ h => h) x1 x2 x3 al h
