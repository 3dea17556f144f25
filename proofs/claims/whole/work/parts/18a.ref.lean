abbrev rmX11_kind : Room := { frames := 0, cells := 0, slots := 0, locals := 0 }
theorem kX11_kind_0 : Cond.fieldLink RX11 1 RX11 "op" "[I" ∈ wsX11_kind := by decide +kernel
theorem kX11_kind_1 : zIn RX11 TX11 51 wsX11_kind := by decide +kernel
def vcX11_kind_45 (G : zG)  (ad ln : Nat → Nat) (p1 : Int32)  (post : Int32 → (Nat → Nat → Int32) → Prop) (s0 : Int32) (al : Nat → Nat → Int32) : Prop :=
  post s0 al
def vcX11_kind_0 (G : zG)  (ad ln : Nat → Nat) (p1 : Int32)  (post : Int32 → (Nat → Nat → Int32) → Prop) (al : Nat → Nat → Int32) : Prop :=
  (vp_in p1 49 ∧ (¬ (al 1 p1.toNatClampNeg) = (2 : Int32) → (vp_in p1 49 ∧ (¬ (al 1 p1.toNatClampNeg) = (11 : Int32) → (vp_in p1 49 ∧ (¬ (al 1 p1.toNatClampNeg) = (12 : Int32) → vcX11_kind_45 G  ad ln p1  post (0 : Int32) al) ∧ ((al 1 p1.toNatClampNeg) = (12 : Int32) → vcX11_kind_45 G  ad ln p1  post (3 : Int32) al))) ∧ ((al 1 p1.toNatClampNeg) = (11 : Int32) → vcX11_kind_45 G  ad ln p1  post (2 : Int32) al))) ∧ ((al 1 p1.toNatClampNeg) = (2 : Int32) → vcX11_kind_45 G  ad ln p1  post (1 : Int32) al))
set_option maxRecDepth 20000 in
theorem tX11_kind_45 {G : zG} {Z : zC}  {ad ln : Nat → Nat} (X : zX G Z cX11_kind 2 RX11 wsX11_kind) (p1 : Int32)  {post : Int32 → (Nat → Nat → Int32) → Prop} (hR : zRi G Z rmX11_kind 2 zTR ad ln cX11_kind .int post)  (s0 : Int32) (al : Nat → Nat → Int32) (h : vcX11_kind_45 G  ad ln p1  post s0 al) : zB G Z rmX11_kind 2 zTR ad ln 0 0 45 [] [.int s0] al := by
  unfold vcX11_kind_45 at h
  exact hR 45 _ _ _ dX11_kind_45 rfl h
set_option maxRecDepth 20000 in
theorem tX11_kind_0 {G : zG} {Z : zC}  {ad ln : Nat → Nat} (X : zX G Z cX11_kind 2 RX11 wsX11_kind) (p1 : Int32)  {post : Int32 → (Nat → Nat → Int32) → Prop} (hR : zRi G Z rmX11_kind 2 zTR ad ln cX11_kind .int post)  (al : Nat → Nat → Int32) (h : vcX11_kind_0 G  ad ln p1  post  al) : zB G Z rmX11_kind 2 zTR ad ln 0 0 0 [(0, .ref (ad 0)), (1, .int p1)] [] al := by
  unfold vcX11_kind_0 at h
  refine zb_aload_n X dX11_kind_0 rfl 0 rfl ?_
  refine zb_getR X 0 (by decide) 11 [3, 4, 5, 6, 7, 8, 9, 10, 11, 0, 12, 0, 0, 0, 0, 0, 0, 0, 0, 0, 0, 0, 0, 13, 14, 15, 16, 17, 0, 18, 19, 20, 21, 0, 0, 0, 22, 23, 24, 25, 0, 0, 26, 27, 28, 29, 0, 0, 0, 30, 0] rfl (C := RX11) (Tt := TX11) (N := 51) rfl kX11_kind_1 0 (by decide) 1 rfl kX11_kind_0 rfl dX11_kind_1 ?_
  refine zb_iload_n X dX11_kind_4 rfl 1 rfl ?_
  obtain ⟨hz, h⟩ := h
  refine zb_iald X 1 (by decide) 1 49 0 0 rfl (Or.inl rfl) p1.toNatClampNeg rfl hz dX11_kind_5 (al 1 p1.toNatClampNeg) rfl ?_
  refine zb_iconst X (2 : Int32) dX11_kind_6 (by decide) ?_
  refine zb_icmp_ne X 14 dX11_kind_7 (by decide) (fun c1 => ?_) (fun c1 => ?_)
  · have h := h.1 c1
    refine zb_aload_n X dX11_kind_14 rfl 0 rfl ?_
    refine zb_getR X 0 (by decide) 11 [3, 4, 5, 6, 7, 8, 9, 10, 11, 0, 12, 0, 0, 0, 0, 0, 0, 0, 0, 0, 0, 0, 0, 13, 14, 15, 16, 17, 0, 18, 19, 20, 21, 0, 0, 0, 22, 23, 24, 25, 0, 0, 26, 27, 28, 29, 0, 0, 0, 30, 0] rfl (C := RX11) (Tt := TX11) (N := 51) rfl kX11_kind_1 0 (by decide) 1 rfl kX11_kind_0 rfl dX11_kind_15 ?_
    refine zb_iload_n X dX11_kind_18 rfl 1 rfl ?_
    obtain ⟨hz, h⟩ := h
    refine zb_iald X 1 (by decide) 1 49 0 0 rfl (Or.inl rfl) p1.toNatClampNeg rfl hz dX11_kind_19 (al 1 p1.toNatClampNeg) rfl ?_
    refine zb_bipush X (11 : Int32) dX11_kind_20 (by decide) ?_
    refine zb_icmp_ne X 29 dX11_kind_22 (by decide) (fun c2 => ?_) (fun c2 => ?_)
    · have h := h.1 c2
      refine zb_aload_n X dX11_kind_29 rfl 0 rfl ?_
      refine zb_getR X 0 (by decide) 11 [3, 4, 5, 6, 7, 8, 9, 10, 11, 0, 12, 0, 0, 0, 0, 0, 0, 0, 0, 0, 0, 0, 0, 13, 14, 15, 16, 17, 0, 18, 19, 20, 21, 0, 0, 0, 22, 23, 24, 25, 0, 0, 26, 27, 28, 29, 0, 0, 0, 30, 0] rfl (C := RX11) (Tt := TX11) (N := 51) rfl kX11_kind_1 0 (by decide) 1 rfl kX11_kind_0 rfl dX11_kind_30 ?_
      refine zb_iload_n X dX11_kind_33 rfl 1 rfl ?_
      obtain ⟨hz, h⟩ := h
      refine zb_iald X 1 (by decide) 1 49 0 0 rfl (Or.inl rfl) p1.toNatClampNeg rfl hz dX11_kind_34 (al 1 p1.toNatClampNeg) rfl ?_
      refine zb_bipush X (12 : Int32) dX11_kind_35 (by decide) ?_
      refine zb_icmp_ne X 44 dX11_kind_37 (by decide) (fun c3 => ?_) (fun c3 => ?_)
      · have h := h.1 c3
        refine zb_iconst X (0 : Int32) dX11_kind_44 (by decide) ?_
        refine zb_sub [] rfl ?_
        exact tX11_kind_45 X p1 hR  (0 : Int32) al h
      · have h := h.2 c3
        refine zb_iconst X (3 : Int32) dX11_kind_40 (by decide) ?_
        refine zb_goto X 45 dX11_kind_41 (by decide) ?_
        refine zb_sub [] rfl ?_
        exact tX11_kind_45 X p1 hR  (3 : Int32) al h
    · have h := h.2 c2
      refine zb_iconst X (2 : Int32) dX11_kind_25 (by decide) ?_
      refine zb_goto X 45 dX11_kind_26 (by decide) ?_
      refine zb_sub [] rfl ?_
      exact tX11_kind_45 X p1 hR  (2 : Int32) al h
  · have h := h.2 c1
    refine zb_iconst X (1 : Int32) dX11_kind_10 (by decide) ?_
    refine zb_goto X 45 dX11_kind_11 (by decide) ?_
    refine zb_sub [] rfl ?_
    exact tX11_kind_45 X p1 hR  (1 : Int32) al h

abbrev rmX11_uses : Room := { frames := 0, cells := 0, slots := 0, locals := 0 }
theorem kX11_uses_0 : Cond.fieldLink RX11 7 RX11 "kindA" "[I" ∈ wsX11_uses := by decide +kernel
theorem kX11_uses_1 : zIn RX11 TX11 51 wsX11_uses := by decide +kernel
theorem kX11_uses_2 : Cond.fieldLink RX11 10 RX11 "a" "[I" ∈ wsX11_uses := by decide +kernel
theorem kX11_uses_3 : Cond.fieldLink RX11 13 RX11 "kindB" "[I" ∈ wsX11_uses := by decide +kernel
theorem kX11_uses_4 : Cond.fieldLink RX11 16 RX11 "b" "[I" ∈ wsX11_uses := by decide +kernel
def vcX11_uses_45 (G : zG)  (ad ln : Nat → Nat) (p1 : Int32) (p2 : Int32)  (post : Int32 → (Nat → Nat → Int32) → Prop) (s0 : Int32) (al : Nat → Nat → Int32) : Prop :=
  zOk .boolean s0 ∧ post s0 al
def vcX11_uses_44 (G : zG)  (ad ln : Nat → Nat) (p1 : Int32) (p2 : Int32)  (post : Int32 → (Nat → Nat → Int32) → Prop) (al : Nat → Nat → Int32) : Prop :=
  vcX11_uses_45 G  ad ln p1 p2  post (0 : Int32) al
def vcX11_uses_40 (G : zG)  (ad ln : Nat → Nat) (p1 : Int32) (p2 : Int32)  (post : Int32 → (Nat → Nat → Int32) → Prop) (al : Nat → Nat → Int32) : Prop :=
  vcX11_uses_45 G  ad ln p1 p2  post (1 : Int32) al
def vcX11_uses_20 (G : zG)  (ad ln : Nat → Nat) (p1 : Int32) (p2 : Int32)  (post : Int32 → (Nat → Nat → Int32) → Prop) (al : Nat → Nat → Int32) : Prop :=
  (vp_in p1 49 ∧ (¬ (al 7 p1.toNatClampNeg) = (1 : Int32) → vcX11_uses_44 G  ad ln p1 p2  post  al) ∧ ((al 7 p1.toNatClampNeg) = (1 : Int32) → (vp_in p1 49 ∧ (¬ (al 9 p1.toNatClampNeg) = p2 → vcX11_uses_44 G  ad ln p1 p2  post  al) ∧ ((al 9 p1.toNatClampNeg) = p2 → vcX11_uses_40 G  ad ln p1 p2  post  al))))
def vcX11_uses_0 (G : zG)  (ad ln : Nat → Nat) (p1 : Int32) (p2 : Int32)  (post : Int32 → (Nat → Nat → Int32) → Prop) (al : Nat → Nat → Int32) : Prop :=
  (vp_in p1 49 ∧ (¬ (al 6 p1.toNatClampNeg) = (1 : Int32) → vcX11_uses_20 G  ad ln p1 p2  post  al) ∧ ((al 6 p1.toNatClampNeg) = (1 : Int32) → (vp_in p1 49 ∧ ((al 8 p1.toNatClampNeg) = p2 → vcX11_uses_40 G  ad ln p1 p2  post  al) ∧ (¬ (al 8 p1.toNatClampNeg) = p2 → vcX11_uses_20 G  ad ln p1 p2  post  al))))
set_option maxRecDepth 20000 in
theorem tX11_uses_45 {G : zG} {Z : zC}  {ad ln : Nat → Nat} (X : zX G Z cX11_uses 3 RX11 wsX11_uses) (p1 : Int32) (p2 : Int32)  {post : Int32 → (Nat → Nat → Int32) → Prop} (hR : zRi G Z rmX11_uses 3 zTR ad ln cX11_uses .boolean post)  (s0 : Int32) (al : Nat → Nat → Int32) (h : vcX11_uses_45 G  ad ln p1 p2  post s0 al) : zB G Z rmX11_uses 3 zTR ad ln 0 0 45 [] [.int s0] al := by
  unfold vcX11_uses_45 at h
  exact hR 45 _ _ _ dX11_uses_45 h.1 h.2
set_option maxRecDepth 20000 in
theorem tX11_uses_44 {G : zG} {Z : zC}  {ad ln : Nat → Nat} (X : zX G Z cX11_uses 3 RX11 wsX11_uses) (p1 : Int32) (p2 : Int32)  {post : Int32 → (Nat → Nat → Int32) → Prop} (hR : zRi G Z rmX11_uses 3 zTR ad ln cX11_uses .boolean post)  (al : Nat → Nat → Int32) (h : vcX11_uses_44 G  ad ln p1 p2  post  al) : zB G Z rmX11_uses 3 zTR ad ln 0 0 44 [] [] al := by
  unfold vcX11_uses_44 at h
  refine zb_iconst X (0 : Int32) dX11_uses_44 (by decide) ?_
  refine zb_sub [] rfl ?_
  exact tX11_uses_45 X p1 p2 hR  (0 : Int32) al h
set_option maxRecDepth 20000 in
theorem tX11_uses_40 {G : zG} {Z : zC}  {ad ln : Nat → Nat} (X : zX G Z cX11_uses 3 RX11 wsX11_uses) (p1 : Int32) (p2 : Int32)  {post : Int32 → (Nat → Nat → Int32) → Prop} (hR : zRi G Z rmX11_uses 3 zTR ad ln cX11_uses .boolean post)  (al : Nat → Nat → Int32) (h : vcX11_uses_40 G  ad ln p1 p2  post  al) : zB G Z rmX11_uses 3 zTR ad ln 0 0 40 [] [] al := by
  unfold vcX11_uses_40 at h
  refine zb_iconst X (1 : Int32) dX11_uses_40 (by decide) ?_
  refine zb_goto X 45 dX11_uses_41 (by decide) ?_
  refine zb_sub [] rfl ?_
  exact tX11_uses_45 X p1 p2 hR  (1 : Int32) al h
set_option maxRecDepth 20000 in
theorem tX11_uses_20 {G : zG} {Z : zC}  {ad ln : Nat → Nat} (X : zX G Z cX11_uses 3 RX11 wsX11_uses) (p1 : Int32) (p2 : Int32)  {post : Int32 → (Nat → Nat → Int32) → Prop} (hR : zRi G Z rmX11_uses 3 zTR ad ln cX11_uses .boolean post)  (al : Nat → Nat → Int32) (h : vcX11_uses_20 G  ad ln p1 p2  post  al) : zB G Z rmX11_uses 3 zTR ad ln 0 0 20 [(0, .ref (ad 0)), (1, .int p1), (2, .int p2)] [] al := by
  unfold vcX11_uses_20 at h
  refine zb_aload_n X dX11_uses_20 rfl 0 rfl ?_
  refine zb_getR X 0 (by decide) 11 [3, 4, 5, 6, 7, 8, 9, 10, 11, 0, 12, 0, 0, 0, 0, 0, 0, 0, 0, 0, 0, 0, 0, 13, 14, 15, 16, 17, 0, 18, 19, 20, 21, 0, 0, 0, 22, 23, 24, 25, 0, 0, 26, 27, 28, 29, 0, 0, 0, 30, 0] rfl (C := RX11) (Tt := TX11) (N := 51) rfl kX11_uses_1 6 (by decide) 7 rfl kX11_uses_3 rfl dX11_uses_21 ?_
  refine zb_iload_n X dX11_uses_24 rfl 1 rfl ?_
  obtain ⟨hz, h⟩ := h
  refine zb_iald X 7 (by decide) 1 49 0 0 rfl (Or.inl rfl) p1.toNatClampNeg rfl hz dX11_uses_25 (al 7 p1.toNatClampNeg) rfl ?_
  refine zb_iconst X (1 : Int32) dX11_uses_26 (by decide) ?_
  refine zb_icmp_ne X 44 dX11_uses_27 (by decide) (fun c1 => ?_) (fun c1 => ?_)
  · have h := h.1 c1
    refine zb_sub [] rfl ?_
    exact tX11_uses_44 X p1 p2 hR   al h
  · have h := h.2 c1
    refine zb_aload_n X dX11_uses_30 rfl 0 rfl ?_
    refine zb_getR X 0 (by decide) 11 [3, 4, 5, 6, 7, 8, 9, 10, 11, 0, 12, 0, 0, 0, 0, 0, 0, 0, 0, 0, 0, 0, 0, 13, 14, 15, 16, 17, 0, 18, 19, 20, 21, 0, 0, 0, 22, 23, 24, 25, 0, 0, 26, 27, 28, 29, 0, 0, 0, 30, 0] rfl (C := RX11) (Tt := TX11) (N := 51) rfl kX11_uses_1 8 (by decide) 9 rfl kX11_uses_4 rfl dX11_uses_31 ?_
    refine zb_iload_n X dX11_uses_34 rfl 1 rfl ?_
    obtain ⟨hz, h⟩ := h
    refine zb_iald X 9 (by decide) 1 49 0 0 rfl (Or.inl rfl) p1.toNatClampNeg rfl hz dX11_uses_35 (al 9 p1.toNatClampNeg) rfl ?_
    refine zb_iload_n X dX11_uses_36 rfl 2 rfl ?_
    refine zb_icmp_ne X 44 dX11_uses_37 (by decide) (fun c2 => ?_) (fun c2 => ?_)
    · have h := h.1 c2
      refine zb_sub [] rfl ?_
      exact tX11_uses_44 X p1 p2 hR   al h
    · have h := h.2 c2
      refine zb_sub [] rfl ?_
      exact tX11_uses_40 X p1 p2 hR   al h
set_option maxRecDepth 20000 in
theorem tX11_uses_0 {G : zG} {Z : zC}  {ad ln : Nat → Nat} (X : zX G Z cX11_uses 3 RX11 wsX11_uses) (p1 : Int32) (p2 : Int32)  {post : Int32 → (Nat → Nat → Int32) → Prop} (hR : zRi G Z rmX11_uses 3 zTR ad ln cX11_uses .boolean post)  (al : Nat → Nat → Int32) (h : vcX11_uses_0 G  ad ln p1 p2  post  al) : zB G Z rmX11_uses 3 zTR ad ln 0 0 0 [(0, .ref (ad 0)), (1, .int p1), (2, .int p2)] [] al := by
  unfold vcX11_uses_0 at h
  refine zb_aload_n X dX11_uses_0 rfl 0 rfl ?_
  refine zb_getR X 0 (by decide) 11 [3, 4, 5, 6, 7, 8, 9, 10, 11, 0, 12, 0, 0, 0, 0, 0, 0, 0, 0, 0, 0, 0, 0, 13, 14, 15, 16, 17, 0, 18, 19, 20, 21, 0, 0, 0, 22, 23, 24, 25, 0, 0, 26, 27, 28, 29, 0, 0, 0, 30, 0] rfl (C := RX11) (Tt := TX11) (N := 51) rfl kX11_uses_1 5 (by decide) 6 rfl kX11_uses_0 rfl dX11_uses_1 ?_
  refine zb_iload_n X dX11_uses_4 rfl 1 rfl ?_
  obtain ⟨hz, h⟩ := h
  refine zb_iald X 6 (by decide) 1 49 0 0 rfl (Or.inl rfl) p1.toNatClampNeg rfl hz dX11_uses_5 (al 6 p1.toNatClampNeg) rfl ?_
  refine zb_iconst X (1 : Int32) dX11_uses_6 (by decide) ?_
  refine zb_icmp_ne X 20 dX11_uses_7 (by decide) (fun c1 => ?_) (fun c1 => ?_)
  · have h := h.1 c1
    refine zb_sub [0, 1, 2] rfl ?_
    exact tX11_uses_20 X p1 p2 hR   al h
  · have h := h.2 c1
    refine zb_aload_n X dX11_uses_10 rfl 0 rfl ?_
    refine zb_getR X 0 (by decide) 11 [3, 4, 5, 6, 7, 8, 9, 10, 11, 0, 12, 0, 0, 0, 0, 0, 0, 0, 0, 0, 0, 0, 0, 13, 14, 15, 16, 17, 0, 18, 19, 20, 21, 0, 0, 0, 22, 23, 24, 25, 0, 0, 26, 27, 28, 29, 0, 0, 0, 30, 0] rfl (C := RX11) (Tt := TX11) (N := 51) rfl kX11_uses_1 7 (by decide) 8 rfl kX11_uses_2 rfl dX11_uses_11 ?_
    refine zb_iload_n X dX11_uses_14 rfl 1 rfl ?_
    obtain ⟨hz, h⟩ := h
    refine zb_iald X 8 (by decide) 1 49 0 0 rfl (Or.inl rfl) p1.toNatClampNeg rfl hz dX11_uses_15 (al 8 p1.toNatClampNeg) rfl ?_
    refine zb_iload_n X dX11_uses_16 rfl 2 rfl ?_
    refine zb_icmp_eq X 40 dX11_uses_17 (by decide) (fun c2 => ?_) (fun c2 => ?_)
    · have h := h.1 c2
      refine zb_sub [] rfl ?_
      exact tX11_uses_40 X p1 p2 hR   al h
    · have h := h.2 c2
      refine zb_sub [0, 1, 2] rfl ?_
      exact tX11_uses_20 X p1 p2 hR   al h

abbrev rmX11_isDigit : Room := { frames := 0, cells := 0, slots := 0, locals := 0 }
def vcX11_isDigit_17 (G : zG)  (ad ln : Nat → Nat) (p0 : Int32)  (post : Int32 → (Nat → Nat → Int32) → Prop) (s0 : Int32) (al : Nat → Nat → Int32) : Prop :=
  zOk .boolean s0 ∧ post s0 al
def vcX11_isDigit_16 (G : zG)  (ad ln : Nat → Nat) (p0 : Int32)  (post : Int32 → (Nat → Nat → Int32) → Prop) (al : Nat → Nat → Int32) : Prop :=
  vcX11_isDigit_17 G  ad ln p0  post (0 : Int32) al
def vcX11_isDigit_0 (G : zG)  (ad ln : Nat → Nat) (p0 : Int32)  (post : Int32 → (Nat → Nat → Int32) → Prop) (al : Nat → Nat → Int32) : Prop :=
  (p0 < (48 : Int32) → vcX11_isDigit_16 G  ad ln p0  post  al) ∧ (¬ p0 < (48 : Int32) → ((57 : Int32) < p0 → vcX11_isDigit_16 G  ad ln p0  post  al) ∧ (¬ (57 : Int32) < p0 → vcX11_isDigit_17 G  ad ln p0  post (1 : Int32) al))
set_option maxRecDepth 20000 in
theorem tX11_isDigit_17 {G : zG} {Z : zC}  {ad ln : Nat → Nat} (X : zX G Z cX11_isDigit 1 RX11 wsX11_isDigit) (p0 : Int32)  {post : Int32 → (Nat → Nat → Int32) → Prop} (hR : zRi G Z rmX11_isDigit 1 zTR ad ln cX11_isDigit .boolean post)  (s0 : Int32) (al : Nat → Nat → Int32) (h : vcX11_isDigit_17 G  ad ln p0  post s0 al) : zB G Z rmX11_isDigit 1 zTR ad ln 0 0 17 [] [.int s0] al := by
  unfold vcX11_isDigit_17 at h
  exact hR 17 _ _ _ dX11_isDigit_17 h.1 h.2
set_option maxRecDepth 20000 in
theorem tX11_isDigit_16 {G : zG} {Z : zC}  {ad ln : Nat → Nat} (X : zX G Z cX11_isDigit 1 RX11 wsX11_isDigit) (p0 : Int32)  {post : Int32 → (Nat → Nat → Int32) → Prop} (hR : zRi G Z rmX11_isDigit 1 zTR ad ln cX11_isDigit .boolean post)  (al : Nat → Nat → Int32) (h : vcX11_isDigit_16 G  ad ln p0  post  al) : zB G Z rmX11_isDigit 1 zTR ad ln 0 0 16 [] [] al := by
  unfold vcX11_isDigit_16 at h
  refine zb_iconst X (0 : Int32) dX11_isDigit_16 (by decide) ?_
  refine zb_sub [] rfl ?_
  exact tX11_isDigit_17 X p0 hR  (0 : Int32) al h
set_option maxRecDepth 20000 in
theorem tX11_isDigit_0 {G : zG} {Z : zC}  {ad ln : Nat → Nat} (X : zX G Z cX11_isDigit 1 RX11 wsX11_isDigit) (p0 : Int32)  {post : Int32 → (Nat → Nat → Int32) → Prop} (hR : zRi G Z rmX11_isDigit 1 zTR ad ln cX11_isDigit .boolean post)  (al : Nat → Nat → Int32) (h : vcX11_isDigit_0 G  ad ln p0  post  al) : zB G Z rmX11_isDigit 1 zTR ad ln 0 0 0 [(0, .int p0)] [] al := by
  unfold vcX11_isDigit_0 at h
  refine zb_iload_n X dX11_isDigit_0 rfl 0 rfl ?_
  refine zb_bipush X (48 : Int32) dX11_isDigit_1 (by decide) ?_
  refine zb_icmp_lt X 16 dX11_isDigit_3 (by decide) (fun c1 => ?_) (fun c1 => ?_)
  · have h := h.1 c1
    refine zb_sub [] rfl ?_
    exact tX11_isDigit_16 X p0 hR   al h
  · have h := h.2 c1
    refine zb_iload_n X dX11_isDigit_6 rfl 0 rfl ?_
    refine zb_bipush X (57 : Int32) dX11_isDigit_7 (by decide) ?_
    refine zb_icmp_gt X 16 dX11_isDigit_9 (by decide) (fun c2 => ?_) (fun c2 => ?_)
    · have h := h.1 c2
      refine zb_sub [] rfl ?_
      exact tX11_isDigit_16 X p0 hR   al h
    · have h := h.2 c2
      refine zb_iconst X (1 : Int32) dX11_isDigit_12 (by decide) ?_
      refine zb_goto X 17 dX11_isDigit_13 (by decide) ?_
      refine zb_sub [] rfl ?_
      exact tX11_isDigit_17 X p0 hR  (1 : Int32) al h

abbrev rmX11_byteAt : Room := { frames := 0, cells := 0, slots := 0, locals := 0 }
theorem kX11_byteAt_0 : Cond.fieldLink RX11 19 RX11 "size" "I" ∈ wsX11_byteAt := by decide +kernel
theorem kX11_byteAt_1 : zIn RX11 TX11 51 wsX11_byteAt := by decide +kernel
theorem kX11_byteAt_2 : Cond.fieldLink RX11 23 RX11 "tape" "[B" ∈ wsX11_byteAt := by decide +kernel
def vcX11_byteAt_18 (G : zG)  (ad ln : Nat → Nat) (p1 : Int32)  (post : Int32 → (Nat → Nat → Int32) → Prop) (s0 : Int32) (al : Nat → Nat → Int32) : Prop :=
  post s0 al
def vcX11_byteAt_0 (G : zG)  (ad ln : Nat → Nat) (p1 : Int32)  (post : Int32 → (Nat → Nat → Int32) → Prop) (al : Nat → Nat → Int32) : Prop :=
  ((al 0 11) ≤ p1 → vcX11_byteAt_18 G  ad ln p1  post (-1 : Int32) al) ∧ (¬ (al 0 11) ≤ p1 → (vp_in p1 4096 ∧ vcX11_byteAt_18 G  ad ln p1  post (al 10 p1.toNatClampNeg) al))
set_option maxRecDepth 20000 in
theorem tX11_byteAt_18 {G : zG} {Z : zC}  {ad ln : Nat → Nat} (X : zX G Z cX11_byteAt 2 RX11 wsX11_byteAt) (p1 : Int32)  {post : Int32 → (Nat → Nat → Int32) → Prop} (hR : zRi G Z rmX11_byteAt 2 zTR ad ln cX11_byteAt .int post)  (s0 : Int32) (al : Nat → Nat → Int32) (h : vcX11_byteAt_18 G  ad ln p1  post s0 al) : zB G Z rmX11_byteAt 2 zTR ad ln 0 0 18 [] [.int s0] al := by
  unfold vcX11_byteAt_18 at h
  exact hR 18 _ _ _ dX11_byteAt_18 rfl h
set_option maxRecDepth 20000 in
theorem tX11_byteAt_0 {G : zG} {Z : zC}  {ad ln : Nat → Nat} (X : zX G Z cX11_byteAt 2 RX11 wsX11_byteAt) (p1 : Int32)  {post : Int32 → (Nat → Nat → Int32) → Prop} (hR : zRi G Z rmX11_byteAt 2 zTR ad ln cX11_byteAt .int post)  (al : Nat → Nat → Int32) (h : vcX11_byteAt_0 G  ad ln p1  post  al) : zB G Z rmX11_byteAt 2 zTR ad ln 0 0 0 [(0, .ref (ad 0)), (1, .int p1)] [] al := by
  unfold vcX11_byteAt_0 at h
  refine zb_iload_n X dX11_byteAt_0 rfl 1 rfl ?_
  refine zb_aload_n X dX11_byteAt_1 rfl 0 rfl ?_
  refine zb_getI X 0 (by decide) 11 [3, 4, 5, 6, 7, 8, 9, 10, 11, 0, 12, 0, 0, 0, 0, 0, 0, 0, 0, 0, 0, 0, 0, 13, 14, 15, 16, 17, 0, 18, 19, 20, 21, 0, 0, 0, 22, 23, 24, 25, 0, 0, 26, 27, 28, 29, 0, 0, 0, 30, 0] rfl (C := RX11) (Tt := TX11) (N := 51) rfl kX11_byteAt_1 11 (by decide) rfl kX11_byteAt_0 rfl dX11_byteAt_2 (al 0 11) rfl ?_
  refine zb_icmp_ge X 17 dX11_byteAt_5 (by decide) (fun c1 => ?_) (fun c1 => ?_)
  · have h := h.1 c1
    refine zb_iconst X (-1 : Int32) dX11_byteAt_17 (by decide) ?_
    refine zb_sub [] rfl ?_
    exact tX11_byteAt_18 X p1 hR  (-1 : Int32) al h
  · have h := h.2 c1
    refine zb_aload_n X dX11_byteAt_8 rfl 0 rfl ?_
    refine zb_getR X 0 (by decide) 11 [3, 4, 5, 6, 7, 8, 9, 10, 11, 0, 12, 0, 0, 0, 0, 0, 0, 0, 0, 0, 0, 0, 0, 13, 14, 15, 16, 17, 0, 18, 19, 20, 21, 0, 0, 0, 22, 23, 24, 25, 0, 0, 26, 27, 28, 29, 0, 0, 0, 30, 0] rfl (C := RX11) (Tt := TX11) (N := 51) rfl kX11_byteAt_1 10 (by decide) 10 rfl kX11_byteAt_2 rfl dX11_byteAt_9 ?_
    refine zb_iload_n X dX11_byteAt_12 rfl 1 rfl ?_
    obtain ⟨hz, h⟩ := h
    refine zb_bald X 10 (by decide) 4096 0 0 rfl p1.toNatClampNeg rfl hz dX11_byteAt_13 (al 10 p1.toNatClampNeg) rfl ?_
    refine zb_goto X 18 dX11_byteAt_14 (by decide) ?_
    refine zb_sub [] rfl ?_
    exact tX11_byteAt_18 X p1 hR  (al 10 p1.toNatClampNeg) al h

abbrev rmX11_is : Room := { frames := 0, cells := 0, slots := 0, locals := 0 }
theorem kX11_is_0 : Cond.fieldLink RX11 36 RX11 "sign" "I" ∈ wsX11_is := by decide +kernel
theorem kX11_is_1 : zIn RX11 TX11 51 wsX11_is := by decide +kernel
theorem kX11_is_2 : Cond.fieldLink RX11 33 RX11 "text" "I" ∈ wsX11_is := by decide +kernel
def vcX11_is_21 (G : zG)  (ad ln : Nat → Nat) (p1 : Int32)  (post : Int32 → (Nat → Nat → Int32) → Prop) (s0 : Int32) (al : Nat → Nat → Int32) : Prop :=
  zOk .boolean s0 ∧ post s0 al
def vcX11_is_20 (G : zG)  (ad ln : Nat → Nat) (p1 : Int32)  (post : Int32 → (Nat → Nat → Int32) → Prop) (al : Nat → Nat → Int32) : Prop :=
  vcX11_is_21 G  ad ln p1  post (0 : Int32) al
def vcX11_is_0 (G : zG)  (ad ln : Nat → Nat) (p1 : Int32)  (post : Int32 → (Nat → Nat → Int32) → Prop) (al : Nat → Nat → Int32) : Prop :=
  (¬ (al 0 13) = (3 : Int32) → vcX11_is_20 G  ad ln p1  post  al) ∧ ((al 0 13) = (3 : Int32) → (¬ (al 0 16) = p1 → vcX11_is_20 G  ad ln p1  post  al) ∧ ((al 0 16) = p1 → vcX11_is_21 G  ad ln p1  post (1 : Int32) al))
set_option maxRecDepth 20000 in
theorem tX11_is_21 {G : zG} {Z : zC}  {ad ln : Nat → Nat} (X : zX G Z cX11_is 2 RX11 wsX11_is) (p1 : Int32)  {post : Int32 → (Nat → Nat → Int32) → Prop} (hR : zRi G Z rmX11_is 2 zTR ad ln cX11_is .boolean post)  (s0 : Int32) (al : Nat → Nat → Int32) (h : vcX11_is_21 G  ad ln p1  post s0 al) : zB G Z rmX11_is 2 zTR ad ln 0 0 21 [] [.int s0] al := by
  unfold vcX11_is_21 at h
  exact hR 21 _ _ _ dX11_is_21 h.1 h.2
set_option maxRecDepth 20000 in
theorem tX11_is_20 {G : zG} {Z : zC}  {ad ln : Nat → Nat} (X : zX G Z cX11_is 2 RX11 wsX11_is) (p1 : Int32)  {post : Int32 → (Nat → Nat → Int32) → Prop} (hR : zRi G Z rmX11_is 2 zTR ad ln cX11_is .boolean post)  (al : Nat → Nat → Int32) (h : vcX11_is_20 G  ad ln p1  post  al) : zB G Z rmX11_is 2 zTR ad ln 0 0 20 [] [] al := by
  unfold vcX11_is_20 at h
  refine zb_iconst X (0 : Int32) dX11_is_20 (by decide) ?_
  refine zb_sub [] rfl ?_
  exact tX11_is_21 X p1 hR  (0 : Int32) al h
set_option maxRecDepth 20000 in
theorem tX11_is_0 {G : zG} {Z : zC}  {ad ln : Nat → Nat} (X : zX G Z cX11_is 2 RX11 wsX11_is) (p1 : Int32)  {post : Int32 → (Nat → Nat → Int32) → Prop} (hR : zRi G Z rmX11_is 2 zTR ad ln cX11_is .boolean post)  (al : Nat → Nat → Int32) (h : vcX11_is_0 G  ad ln p1  post  al) : zB G Z rmX11_is 2 zTR ad ln 0 0 0 [(0, .ref (ad 0)), (1, .int p1)] [] al := by
  unfold vcX11_is_0 at h
  refine zb_aload_n X dX11_is_0 rfl 0 rfl ?_
  refine zb_getI X 0 (by decide) 11 [3, 4, 5, 6, 7, 8, 9, 10, 11, 0, 12, 0, 0, 0, 0, 0, 0, 0, 0, 0, 0, 0, 0, 13, 14, 15, 16, 17, 0, 18, 19, 20, 21, 0, 0, 0, 22, 23, 24, 25, 0, 0, 26, 27, 28, 29, 0, 0, 0, 30, 0] rfl (C := RX11) (Tt := TX11) (N := 51) rfl kX11_is_1 13 (by decide) rfl kX11_is_0 rfl dX11_is_1 (al 0 13) rfl ?_
  refine zb_iconst X (3 : Int32) dX11_is_4 (by decide) ?_
  refine zb_icmp_ne X 20 dX11_is_5 (by decide) (fun c1 => ?_) (fun c1 => ?_)
  · have h := h.1 c1
    refine zb_sub [] rfl ?_
    exact tX11_is_20 X p1 hR   al h
  · have h := h.2 c1
    refine zb_aload_n X dX11_is_8 rfl 0 rfl ?_
    refine zb_getI X 0 (by decide) 11 [3, 4, 5, 6, 7, 8, 9, 10, 11, 0, 12, 0, 0, 0, 0, 0, 0, 0, 0, 0, 0, 0, 0, 13, 14, 15, 16, 17, 0, 18, 19, 20, 21, 0, 0, 0, 22, 23, 24, 25, 0, 0, 26, 27, 28, 29, 0, 0, 0, 30, 0] rfl (C := RX11) (Tt := TX11) (N := 51) rfl kX11_is_1 16 (by decide) rfl kX11_is_2 rfl dX11_is_9 (al 0 16) rfl ?_
    refine zb_iload_n X dX11_is_12 rfl 1 rfl ?_
    refine zb_icmp_ne X 20 dX11_is_13 (by decide) (fun c2 => ?_) (fun c2 => ?_)
    · have h := h.1 c2
      refine zb_sub [] rfl ?_
      exact tX11_is_20 X p1 hR   al h
    · have h := h.2 c2
      refine zb_iconst X (1 : Int32) dX11_is_16 (by decide) ?_
      refine zb_goto X 21 dX11_is_17 (by decide) ?_
      refine zb_sub [] rfl ?_
      exact tX11_is_21 X p1 hR  (1 : Int32) al h

abbrev rmX11_operation : Room := { frames := 0, cells := 0, slots := 0, locals := 0 }
theorem kX11_operation_0 : Cond.fieldLink RX11 36 RX11 "sign" "I" ∈ wsX11_operation := by decide +kernel
theorem kX11_operation_1 : zIn RX11 TX11 51 wsX11_operation := by decide +kernel
theorem kX11_operation_2 : Cond.fieldLink RX11 33 RX11 "text" "I" ∈ wsX11_operation := by decide +kernel
def vcX11_operation_0 (G : zG)  (ad ln : Nat → Nat)  (post : Int32 → (Nat → Nat → Int32) → Prop) (al : Nat → Nat → Int32) : Prop :=
  ((al 0 13) = (3 : Int32) → ((al 0 16) = (38 : Int32) → post (3 : Int32) al) ∧ (¬ (al 0 16) = (38 : Int32) → ((al 0 16) = (42 : Int32) → post (2 : Int32) al) ∧ (¬ (al 0 16) = (42 : Int32) → ((al 0 16) = (43 : Int32) → post (0 : Int32) al) ∧ (¬ (al 0 16) = (43 : Int32) → ((al 0 16) = (45 : Int32) → post (1 : Int32) al) ∧ (¬ (al 0 16) = (45 : Int32) → ((al 0 16) = (60 : Int32) → post (8 : Int32) al) ∧ (¬ (al 0 16) = (60 : Int32) → ((al 0 16) = (94 : Int32) → post (5 : Int32) al) ∧ (¬ (al 0 16) = (94 : Int32) → ((al 0 16) = (124 : Int32) → post (4 : Int32) al) ∧ (¬ (al 0 16) = (124 : Int32) → ((al 0 16) = (15420 : Int32) → post (6 : Int32) al) ∧ (¬ (al 0 16) = (15420 : Int32) → ((al 0 16) = (15934 : Int32) → post (7 : Int32) al) ∧ (¬ (al 0 16) = (15934 : Int32) → post (-1 : Int32) al)))))))))) ∧ (¬ (al 0 13) = (3 : Int32) → post (-1 : Int32) al)
set_option maxRecDepth 20000 in
theorem tX11_operation_0 {G : zG} {Z : zC}  {ad ln : Nat → Nat} (X : zX G Z cX11_operation 1 RX11 wsX11_operation)  {post : Int32 → (Nat → Nat → Int32) → Prop} (hR : zRi G Z rmX11_operation 1 zTR ad ln cX11_operation .int post)  (al : Nat → Nat → Int32) (h : vcX11_operation_0 G  ad ln  post  al) : zB G Z rmX11_operation 1 zTR ad ln 0 0 0 [(0, .ref (ad 0))] [] al := by
  unfold vcX11_operation_0 at h
  refine zb_aload_n X dX11_operation_0 rfl 0 rfl ?_
  refine zb_getI X 0 (by decide) 11 [3, 4, 5, 6, 7, 8, 9, 10, 11, 0, 12, 0, 0, 0, 0, 0, 0, 0, 0, 0, 0, 0, 0, 13, 14, 15, 16, 17, 0, 18, 19, 20, 21, 0, 0, 0, 22, 23, 24, 25, 0, 0, 26, 27, 28, 29, 0, 0, 0, 30, 0] rfl (C := RX11) (Tt := TX11) (N := 51) rfl kX11_operation_1 13 (by decide) rfl kX11_operation_0 rfl dX11_operation_1 (al 0 13) rfl ?_
  refine zb_iconst X (3 : Int32) dX11_operation_4 (by decide) ?_
  refine zb_icmp_eq X 10 dX11_operation_5 (by decide) (fun c1 => ?_) (fun c1 => ?_)
  · have h := h.1 c1
    refine zb_aload_n X dX11_operation_10 rfl 0 rfl ?_
    refine zb_getI X 0 (by decide) 11 [3, 4, 5, 6, 7, 8, 9, 10, 11, 0, 12, 0, 0, 0, 0, 0, 0, 0, 0, 0, 0, 0, 0, 13, 14, 15, 16, 17, 0, 18, 19, 20, 21, 0, 0, 0, 22, 23, 24, 25, 0, 0, 26, 27, 28, 29, 0, 0, 0, 30, 0] rfl (C := RX11) (Tt := TX11) (N := 51) rfl kX11_operation_1 16 (by decide) rfl kX11_operation_2 rfl dX11_operation_11 (al 0 16) rfl ?_
    by_cases c2 : (al 0 16) = (38 : Int32)
    · have h := h.1 c2
      refine zb_look X (off := 88) 102 dX11_operation_14 (by decide) (by rw [c2]; rfl) (by decide) ?_
      refine zb_iconst X (3 : Int32) dX11_operation_102 (by decide) ?_
      exact hR 103 _ _ _ dX11_operation_103 rfl h
    have h := h.2 c2
    by_cases c3 : (al 0 16) = (42 : Int32)
    · have h := h.1 c3
      refine zb_look X (off := 86) 100 dX11_operation_14 (by decide) (by rw [c3]; rfl) (by decide) ?_
      refine zb_iconst X (2 : Int32) dX11_operation_100 (by decide) ?_
      exact hR 101 _ _ _ dX11_operation_101 rfl h
    have h := h.2 c3
    by_cases c4 : (al 0 16) = (43 : Int32)
    · have h := h.1 c4
      refine zb_look X (off := 82) 96 dX11_operation_14 (by decide) (by rw [c4]; rfl) (by decide) ?_
      refine zb_iconst X (0 : Int32) dX11_operation_96 (by decide) ?_
      exact hR 97 _ _ _ dX11_operation_97 rfl h
    have h := h.2 c4
    by_cases c5 : (al 0 16) = (45 : Int32)
    · have h := h.1 c5
      refine zb_look X (off := 84) 98 dX11_operation_14 (by decide) (by rw [c5]; rfl) (by decide) ?_
      refine zb_iconst X (1 : Int32) dX11_operation_98 (by decide) ?_
      exact hR 99 _ _ _ dX11_operation_99 rfl h
    have h := h.2 c5
    by_cases c6 : (al 0 16) = (60 : Int32)
    · have h := h.1 c6
      refine zb_look X (off := 100) 114 dX11_operation_14 (by decide) (by rw [c6]; rfl) (by decide) ?_
      refine zb_bipush X (8 : Int32) dX11_operation_114 (by decide) ?_
      exact hR 116 _ _ _ dX11_operation_116 rfl h
    have h := h.2 c6
    by_cases c7 : (al 0 16) = (94 : Int32)
    · have h := h.1 c7
      refine zb_look X (off := 92) 106 dX11_operation_14 (by decide) (by rw [c7]; rfl) (by decide) ?_
      refine zb_iconst X (5 : Int32) dX11_operation_106 (by decide) ?_
      exact hR 107 _ _ _ dX11_operation_107 rfl h
    have h := h.2 c7
    by_cases c8 : (al 0 16) = (124 : Int32)
    · have h := h.1 c8
      refine zb_look X (off := 90) 104 dX11_operation_14 (by decide) (by rw [c8]; rfl) (by decide) ?_
      refine zb_iconst X (4 : Int32) dX11_operation_104 (by decide) ?_
      exact hR 105 _ _ _ dX11_operation_105 rfl h
    have h := h.2 c8
    by_cases c9 : (al 0 16) = (15420 : Int32)
    · have h := h.1 c9
      refine zb_look X (off := 94) 108 dX11_operation_14 (by decide) (by rw [c9]; rfl) (by decide) ?_
      refine zb_bipush X (6 : Int32) dX11_operation_108 (by decide) ?_
      exact hR 110 _ _ _ dX11_operation_110 rfl h
    have h := h.2 c9
    by_cases c10 : (al 0 16) = (15934 : Int32)
    · have h := h.1 c10
      refine zb_look X (off := 97) 111 dX11_operation_14 (by decide) (by rw [c10]; rfl) (by decide) ?_
      refine zb_bipush X (7 : Int32) dX11_operation_111 (by decide) ?_
      exact hR 113 _ _ _ dX11_operation_113 rfl h
    have h := h.2 c10
    refine zb_look X (off := 103) 117 dX11_operation_14 (by decide) (by have e0 := zne_int c2; rw [show (38 : Int32).toInt = 38 from by decide] at e0; have e1 := zne_int c3; rw [show (42 : Int32).toInt = 42 from by decide] at e1; have e2 := zne_int c4; rw [show (43 : Int32).toInt = 43 from by decide] at e2; have e3 := zne_int c5; rw [show (45 : Int32).toInt = 45 from by decide] at e3; have e4 := zne_int c6; rw [show (60 : Int32).toInt = 60 from by decide] at e4; have e5 := zne_int c7; rw [show (94 : Int32).toInt = 94 from by decide] at e5; have e6 := zne_int c8; rw [show (124 : Int32).toInt = 124 from by decide] at e6; have e7 := zne_int c9; rw [show (15420 : Int32).toInt = 15420 from by decide] at e7; have e8 := zne_int c10; rw [show (15934 : Int32).toInt = 15934 from by decide] at e8; simp only [Op.lookupswitch.offset, List.toList_toArray]; rw [if_neg (fun h => e0 h.symm), if_neg (fun h => e1 h.symm), if_neg (fun h => e2 h.symm), if_neg (fun h => e3 h.symm), if_neg (fun h => e4 h.symm), if_neg (fun h => e5 h.symm), if_neg (fun h => e6 h.symm), if_neg (fun h => e7 h.symm), if_neg (fun h => e8 h.symm)]) (by decide) ?_
    refine zb_iconst X (-1 : Int32) dX11_operation_117 (by decide) ?_
    exact hR 118 _ _ _ dX11_operation_118 rfl h
  · have h := h.2 c1
    refine zb_iconst X (-1 : Int32) dX11_operation_8 (by decide) ?_
    exact hR 9 _ _ _ dX11_operation_9 rfl h

abbrev rmX11_isArray : Room := { frames := 0, cells := 0, slots := 0, locals := 0 }
theorem kX11_isArray_0 : Cond.fieldLink RX11 36 RX11 "sign" "I" ∈ wsX11_isArray := by decide +kernel
theorem kX11_isArray_1 : zIn RX11 TX11 51 wsX11_isArray := by decide +kernel
theorem kX11_isArray_2 : Cond.fieldLink RX11 33 RX11 "text" "I" ∈ wsX11_isArray := by decide +kernel
def vcX11_isArray_31 (G : zG)  (ad ln : Nat → Nat)  (post : Int32 → (Nat → Nat → Int32) → Prop) (s0 : Int32) (al : Nat → Nat → Int32) : Prop :=
  zOk .boolean s0 ∧ post s0 al
def vcX11_isArray_30 (G : zG)  (ad ln : Nat → Nat)  (post : Int32 → (Nat → Nat → Int32) → Prop) (al : Nat → Nat → Int32) : Prop :=
  vcX11_isArray_31 G  ad ln  post (0 : Int32) al
def vcX11_isArray_0 (G : zG)  (ad ln : Nat → Nat)  (post : Int32 → (Nat → Nat → Int32) → Prop) (al : Nat → Nat → Int32) : Prop :=
  (¬ (al 0 13) = (3 : Int32) → vcX11_isArray_30 G  ad ln  post  al) ∧ ((al 0 13) = (3 : Int32) → ((al 0 16) < (97 : Int32) → vcX11_isArray_30 G  ad ln  post  al) ∧ (¬ (al 0 16) < (97 : Int32) → ((100 : Int32) < (al 0 16) → vcX11_isArray_30 G  ad ln  post  al) ∧ (¬ (100 : Int32) < (al 0 16) → vcX11_isArray_31 G  ad ln  post (1 : Int32) al)))
set_option maxRecDepth 20000 in
theorem tX11_isArray_31 {G : zG} {Z : zC}  {ad ln : Nat → Nat} (X : zX G Z cX11_isArray 1 RX11 wsX11_isArray)  {post : Int32 → (Nat → Nat → Int32) → Prop} (hR : zRi G Z rmX11_isArray 1 zTR ad ln cX11_isArray .boolean post)  (s0 : Int32) (al : Nat → Nat → Int32) (h : vcX11_isArray_31 G  ad ln  post s0 al) : zB G Z rmX11_isArray 1 zTR ad ln 0 0 31 [] [.int s0] al := by
  unfold vcX11_isArray_31 at h
  exact hR 31 _ _ _ dX11_isArray_31 h.1 h.2
set_option maxRecDepth 20000 in
theorem tX11_isArray_30 {G : zG} {Z : zC}  {ad ln : Nat → Nat} (X : zX G Z cX11_isArray 1 RX11 wsX11_isArray)  {post : Int32 → (Nat → Nat → Int32) → Prop} (hR : zRi G Z rmX11_isArray 1 zTR ad ln cX11_isArray .boolean post)  (al : Nat → Nat → Int32) (h : vcX11_isArray_30 G  ad ln  post  al) : zB G Z rmX11_isArray 1 zTR ad ln 0 0 30 [] [] al := by
  unfold vcX11_isArray_30 at h
  refine zb_iconst X (0 : Int32) dX11_isArray_30 (by decide) ?_
  refine zb_sub [] rfl ?_
  exact tX11_isArray_31 X hR  (0 : Int32) al h
set_option maxRecDepth 20000 in
theorem tX11_isArray_0 {G : zG} {Z : zC}  {ad ln : Nat → Nat} (X : zX G Z cX11_isArray 1 RX11 wsX11_isArray)  {post : Int32 → (Nat → Nat → Int32) → Prop} (hR : zRi G Z rmX11_isArray 1 zTR ad ln cX11_isArray .boolean post)  (al : Nat → Nat → Int32) (h : vcX11_isArray_0 G  ad ln  post  al) : zB G Z rmX11_isArray 1 zTR ad ln 0 0 0 [(0, .ref (ad 0))] [] al := by
  unfold vcX11_isArray_0 at h
  refine zb_aload_n X dX11_isArray_0 rfl 0 rfl ?_
  refine zb_getI X 0 (by decide) 11 [3, 4, 5, 6, 7, 8, 9, 10, 11, 0, 12, 0, 0, 0, 0, 0, 0, 0, 0, 0, 0, 0, 0, 13, 14, 15, 16, 17, 0, 18, 19, 20, 21, 0, 0, 0, 22, 23, 24, 25, 0, 0, 26, 27, 28, 29, 0, 0, 0, 30, 0] rfl (C := RX11) (Tt := TX11) (N := 51) rfl kX11_isArray_1 13 (by decide) rfl kX11_isArray_0 rfl dX11_isArray_1 (al 0 13) rfl ?_
  refine zb_iconst X (3 : Int32) dX11_isArray_4 (by decide) ?_
  refine zb_icmp_ne X 30 dX11_isArray_5 (by decide) (fun c1 => ?_) (fun c1 => ?_)
  · have h := h.1 c1
    refine zb_sub [] rfl ?_
    exact tX11_isArray_30 X hR   al h
  · have h := h.2 c1
    refine zb_aload_n X dX11_isArray_8 rfl 0 rfl ?_
    refine zb_getI X 0 (by decide) 11 [3, 4, 5, 6, 7, 8, 9, 10, 11, 0, 12, 0, 0, 0, 0, 0, 0, 0, 0, 0, 0, 0, 0, 13, 14, 15, 16, 17, 0, 18, 19, 20, 21, 0, 0, 0, 22, 23, 24, 25, 0, 0, 26, 27, 28, 29, 0, 0, 0, 30, 0] rfl (C := RX11) (Tt := TX11) (N := 51) rfl kX11_isArray_1 16 (by decide) rfl kX11_isArray_2 rfl dX11_isArray_9 (al 0 16) rfl ?_
    refine zb_bipush X (97 : Int32) dX11_isArray_12 (by decide) ?_
    refine zb_icmp_lt X 30 dX11_isArray_14 (by decide) (fun c2 => ?_) (fun c2 => ?_)
    · have h := h.1 c2
      refine zb_sub [] rfl ?_
      exact tX11_isArray_30 X hR   al h
    · have h := h.2 c2
      refine zb_aload_n X dX11_isArray_17 rfl 0 rfl ?_
      refine zb_getI X 0 (by decide) 11 [3, 4, 5, 6, 7, 8, 9, 10, 11, 0, 12, 0, 0, 0, 0, 0, 0, 0, 0, 0, 0, 0, 0, 13, 14, 15, 16, 17, 0, 18, 19, 20, 21, 0, 0, 0, 22, 23, 24, 25, 0, 0, 26, 27, 28, 29, 0, 0, 0, 30, 0] rfl (C := RX11) (Tt := TX11) (N := 51) rfl kX11_isArray_1 16 (by decide) rfl kX11_isArray_2 rfl dX11_isArray_18 (al 0 16) rfl ?_
      refine zb_bipush X (100 : Int32) dX11_isArray_21 (by decide) ?_
      refine zb_icmp_gt X 30 dX11_isArray_23 (by decide) (fun c3 => ?_) (fun c3 => ?_)
      · have h := h.1 c3
        refine zb_sub [] rfl ?_
        exact tX11_isArray_30 X hR   al h
      · have h := h.2 c3
        refine zb_iconst X (1 : Int32) dX11_isArray_26 (by decide) ?_
        refine zb_goto X 31 dX11_isArray_27 (by decide) ?_
        refine zb_sub [] rfl ?_
        exact tX11_isArray_31 X hR  (1 : Int32) al h

abbrev rmX11_time : Room := { frames := 1, cells := 0, slots := 0, locals := 21 }
theorem kX11_time_0 : Cond.fieldLink RX11 113 RX11 "times" "[I" ∈ wsX11_time := by decide +kernel
theorem kX11_time_1 : zIn RX11 TX11 51 wsX11_time := by decide +kernel
def vcX11_time_0 (G : zG)  (ad ln : Nat → Nat) (p1 : Int32)  (post : Int32 → (Nat → Nat → Int32) → Prop) (al : Nat → Nat → Int32) : Prop :=
  zMi G yX11_kind wsX11_kind rmX11_kind zTR ad ln [.ref (ad 0), .int p1] al (fun q1 a1 => (vp_in q1 4 ∧ post (a1 11 q1.toNatClampNeg) a1))
set_option maxRecDepth 20000 in
theorem tX11_time_0 {G : zG} {Z : zC}  {ad ln : Nat → Nat} (X : zX G Z cX11_time 2 RX11 wsX11_time) (p1 : Int32)  {post : Int32 → (Nat → Nat → Int32) → Prop} (hR : zRi G Z rmX11_time 2 zTR ad ln cX11_time .int post)  (al : Nat → Nat → Int32) (h : vcX11_time_0 G  ad ln p1  post  al) : zB G Z rmX11_time 2 zTR ad ln 0 0 0 [(0, .ref (ad 0)), (1, .int p1)] [] al := by
  unfold vcX11_time_0 at h
  refine zb_aload_n X dX11_time_0 rfl 0 rfl ?_
  refine zb_getR X 0 (by decide) 11 [3, 4, 5, 6, 7, 8, 9, 10, 11, 0, 12, 0, 0, 0, 0, 0, 0, 0, 0, 0, 0, 0, 0, 13, 14, 15, 16, 17, 0, 18, 19, 20, 21, 0, 0, 0, 22, 23, 24, 25, 0, 0, 26, 27, 28, 29, 0, 0, 0, 30, 0] rfl (C := RX11) (Tt := TX11) (N := 51) rfl kX11_time_1 23 (by decide) 11 rfl kX11_time_0 rfl dX11_time_1 ?_
  refine zb_aload_n X dX11_time_4 rfl 0 rfl ?_
  refine zb_iload_n X dX11_time_5 rfl 1 rfl ?_
  refine zb_callVi (n := 1) X 0 (by decide) 11 [3, 4, 5, 6, 7, 8, 9, 10, 11, 0, 12, 0, 0, 0, 0, 0, 0, 0, 0, 0, 0, 0, 0, 13, 14, 15, 16, 17, 0, 18, 19, 20, 21, 0, 0, 0, 22, 23, 24, 25, 0, 0, 26, 27, 28, 29, 0, 0, 0, 30, 0] rfl (C := RX11) (Tt := TX11) (N := 51) rfl h gX11_time_X11_kind rfl (by decide +kernel) (by decide) rfl rfl (Nat.le_of_ble_eq_true rfl) dX11_time_6 (kc' := 0) (ks' := 0) rfl rfl (fun q1 a1 h => ?_)
  obtain ⟨hz, h⟩ := h
  refine zb_iald X 11 (by decide) 1 4 0 0 rfl (Or.inl rfl) q1.toNatClampNeg rfl hz dX11_time_9 (a1 11 q1.toNatClampNeg) rfl ?_
  exact hR 10 _ _ _ dX11_time_10 rfl h

abbrev rmX11_wait : Room := { frames := 1, cells := 0, slots := 0, locals := 21 }
theorem kX11_wait_0 : Cond.fieldLink RX11 119 RX11 "waits" "I" ∈ wsX11_wait := by decide +kernel
theorem kX11_wait_1 : zIn RX11 TX11 51 wsX11_wait := by decide +kernel
theorem kX11_wait_2 : Cond.fieldLink RX11 122 RX11 "waitX" "[I" ∈ wsX11_wait := by decide +kernel
theorem kX11_wait_3 : Cond.fieldLink RX11 125 RX11 "waitY" "[I" ∈ wsX11_wait := by decide +kernel
theorem kX11_wait_4 : Cond.fieldLink RX11 128 RX11 "waitD" "[I" ∈ wsX11_wait := by decide +kernel
theorem kX11_wait_5 : Cond.fieldLink RX11 131 RX11 "waitDelay" "[I" ∈ wsX11_wait := by decide +kernel
theorem kX11_wait_6 : Cond.methodLink RX11 134 Lib.Math.max.name ∈ wsX11_wait := by decide +kernel
theorem kX11_wait_7 : Cond.static Lib.Math.max.name ∈ wsX11_wait := by decide +kernel
theorem kX11_wait_8 : Cond.initialized "java/lang/Math" ∈ wsX11_wait := by decide +kernel
theorem kX11_wait_9 : Cond.code Lib.Math.max.name Lib.Math.max.code 2 (some .int) ∈ wsX11_wait := by decide +kernel
abbrev BX11_wait_8 (G : zG) (Z : zC)  (ad ln : Nat → Nat) (p1 : Int32) (p2 : Int32) (p3 : Int32) (p4 : Int32) (x5 : Int32) (al : Nat → Nat → Int32) : Prop := zB G Z rmX11_wait 6 zTR ad ln 0 0 8 [(0, .ref (ad 0)), (1, .int p1), (2, .int p2), (3, .int p3), (4, .int p4), (5, .int x5)] [] al
def vcX11_wait_0 (G : zG)  (ad ln : Nat → Nat) (p1 : Int32) (p2 : Int32) (p3 : Int32) (p4 : Int32) (K8 : Int32 → (Nat → Nat → Int32) → Prop) (post : (Nat → Nat → Int32) → Prop) (al : Nat → Nat → Int32) : Prop :=
  K8 ((al 0 28) - (1 : Int32)) al
def vcX11_wait_75 (G : zG)  (ad ln : Nat → Nat) (p1 : Int32) (p2 : Int32) (p3 : Int32) (p4 : Int32) (K8 : Int32 → (Nat → Nat → Int32) → Prop) (post : (Nat → Nat → Int32) → Prop) (al : Nat → Nat → Int32) : Prop :=
  (vp_in (al 0 28) 4608 ∧ vp_in (al 0 28) 4608 ∧ vp_in (al 0 28) 4608 ∧ vp_in (al 0 28) 4608 ∧ post (up2 (up2 (up2 (up2 (up2 al 12 ((al 0 28).toNatClampNeg) p1) 13 ((al 0 28).toNatClampNeg) p2) 14 ((al 0 28).toNatClampNeg) p3) 15 ((al 0 28).toNatClampNeg) p4) 0 28 ((al 0 28) + (1 : Int32))))
def vcX11_wait_8 (G : zG)  (ad ln : Nat → Nat) (p1 : Int32) (p2 : Int32) (p3 : Int32) (p4 : Int32) (K8 : Int32 → (Nat → Nat → Int32) → Prop) (post : (Nat → Nat → Int32) → Prop) (x5 : Int32) (al : Nat → Nat → Int32) : Prop :=
  (x5 < 0 → vcX11_wait_75 G  ad ln p1 p2 p3 p4 K8 post  al) ∧ (¬ x5 < 0 → (vp_in x5 4608 ∧ (¬ (al 12 x5.toNatClampNeg) = p1 → vcX11_wait_75 G  ad ln p1 p2 p3 p4 K8 post  al) ∧ ((al 12 x5.toNatClampNeg) = p1 → (vp_in x5 4608 ∧ (¬ (al 13 x5.toNatClampNeg) = p2 → vcX11_wait_75 G  ad ln p1 p2 p3 p4 K8 post  al) ∧ ((al 13 x5.toNatClampNeg) = p2 → (vp_in x5 4608 ∧ ((al 14 x5.toNatClampNeg) = p3 → (vp_in x5 4608 ∧ vp_in x5 4608 ∧ post (up2 al 15 x5.toNatClampNeg (if (al 15 x5.toNatClampNeg) < p4 then p4 else (al 15 x5.toNatClampNeg))))) ∧ (¬ (al 14 x5.toNatClampNeg) = p3 → K8 (x5 + (-1 : Int32)) al)))))))
set_option maxRecDepth 20000 in
theorem tX11_wait_0 {G : zG} {Z : zC}  {ad ln : Nat → Nat} (X : zX G Z cX11_wait 6 RX11 wsX11_wait) (p1 : Int32) (p2 : Int32) (p3 : Int32) (p4 : Int32) {K8 : Int32 → (Nat → Nat → Int32) → Prop} {post : (Nat → Nat → Int32) → Prop} (hR : zRv G Z rmX11_wait 6 zTR ad ln cX11_wait post) (hK8 : ∀ x5 : Int32, ∀ al, K8 x5 al → zB G Z rmX11_wait 6 zTR ad ln 0 0 8 [(0, .ref (ad 0)), (1, .int p1), (2, .int p2), (3, .int p3), (4, .int p4), (5, .int x5)] [] al) (al : Nat → Nat → Int32) (h : vcX11_wait_0 G  ad ln p1 p2 p3 p4 K8 post  al) : zB G Z rmX11_wait 6 zTR ad ln 0 0 0 [(0, .ref (ad 0)), (1, .int p1), (2, .int p2), (3, .int p3), (4, .int p4)] [] al := by
  unfold vcX11_wait_0 at h
  refine zb_aload_n X dX11_wait_0 rfl 0 rfl ?_
  refine zb_getI X 0 (by decide) 11 [3, 4, 5, 6, 7, 8, 9, 10, 11, 0, 12, 0, 0, 0, 0, 0, 0, 0, 0, 0, 0, 0, 0, 13, 14, 15, 16, 17, 0, 18, 19, 20, 21, 0, 0, 0, 22, 23, 24, 25, 0, 0, 26, 27, 28, 29, 0, 0, 0, 30, 0] rfl (C := RX11) (Tt := TX11) (N := 51) rfl kX11_wait_1 28 (by decide) rfl kX11_wait_0 rfl dX11_wait_1 (al 0 28) rfl ?_
  refine zb_iconst X (1 : Int32) dX11_wait_4 (by decide) ?_
  refine zb_isub X dX11_wait_5 ?_
  refine zb_istore X (lv' := [(5, .int ((al 0 28) - (1 : Int32))), (0, .ref (ad 0)), (1, .int p1), (2, .int p2), (3, .int p3), (4, .int p4)]) dX11_wait_6 (by decide) rfl ?_
  refine zb_sub [1, 2, 3, 4, 5, 0] rfl ?_
  exact hK8 ((al 0 28) - (1 : Int32)) al h
set_option maxRecDepth 20000 in
theorem tX11_wait_75 {G : zG} {Z : zC}  {ad ln : Nat → Nat} (X : zX G Z cX11_wait 6 RX11 wsX11_wait) (p1 : Int32) (p2 : Int32) (p3 : Int32) (p4 : Int32) {K8 : Int32 → (Nat → Nat → Int32) → Prop} {post : (Nat → Nat → Int32) → Prop} (hR : zRv G Z rmX11_wait 6 zTR ad ln cX11_wait post) (hK8 : ∀ x5 : Int32, ∀ al, K8 x5 al → zB G Z rmX11_wait 6 zTR ad ln 0 0 8 [(0, .ref (ad 0)), (1, .int p1), (2, .int p2), (3, .int p3), (4, .int p4), (5, .int x5)] [] al) (al : Nat → Nat → Int32) (h : vcX11_wait_75 G  ad ln p1 p2 p3 p4 K8 post  al) : zB G Z rmX11_wait 6 zTR ad ln 0 0 75 [(0, .ref (ad 0)), (1, .int p1), (2, .int p2), (3, .int p3), (4, .int p4)] [] al := by
  unfold vcX11_wait_75 at h
  refine zb_aload_n X dX11_wait_75 rfl 0 rfl ?_
  refine zb_getR X 0 (by decide) 11 [3, 4, 5, 6, 7, 8, 9, 10, 11, 0, 12, 0, 0, 0, 0, 0, 0, 0, 0, 0, 0, 0, 0, 13, 14, 15, 16, 17, 0, 18, 19, 20, 21, 0, 0, 0, 22, 23, 24, 25, 0, 0, 26, 27, 28, 29, 0, 0, 0, 30, 0] rfl (C := RX11) (Tt := TX11) (N := 51) rfl kX11_wait_1 24 (by decide) 12 rfl kX11_wait_2 rfl dX11_wait_76 ?_
  refine zb_aload_n X dX11_wait_79 rfl 0 rfl ?_
  refine zb_getI X 0 (by decide) 11 [3, 4, 5, 6, 7, 8, 9, 10, 11, 0, 12, 0, 0, 0, 0, 0, 0, 0, 0, 0, 0, 0, 0, 13, 14, 15, 16, 17, 0, 18, 19, 20, 21, 0, 0, 0, 22, 23, 24, 25, 0, 0, 26, 27, 28, 29, 0, 0, 0, 30, 0] rfl (C := RX11) (Tt := TX11) (N := 51) rfl kX11_wait_1 28 (by decide) rfl kX11_wait_0 rfl dX11_wait_80 (al 0 28) rfl ?_
  refine zb_iload_n X dX11_wait_83 rfl 1 rfl ?_
  obtain ⟨hz, h⟩ := h
  refine zb_iast X 12 (by decide) 1 4608 0 0 rfl (Or.inl rfl) ((al 0 28).toNatClampNeg) rfl hz dX11_wait_84 ?_
  refine zb_aload_n X dX11_wait_85 rfl 0 rfl ?_
  refine zb_getR X 0 (by decide) 11 [3, 4, 5, 6, 7, 8, 9, 10, 11, 0, 12, 0, 0, 0, 0, 0, 0, 0, 0, 0, 0, 0, 0, 13, 14, 15, 16, 17, 0, 18, 19, 20, 21, 0, 0, 0, 22, 23, 24, 25, 0, 0, 26, 27, 28, 29, 0, 0, 0, 30, 0] rfl (C := RX11) (Tt := TX11) (N := 51) rfl kX11_wait_1 25 (by decide) 13 rfl kX11_wait_3 rfl dX11_wait_86 ?_
  refine zb_aload_n X dX11_wait_89 rfl 0 rfl ?_
  refine zb_getI X 0 (by decide) 11 [3, 4, 5, 6, 7, 8, 9, 10, 11, 0, 12, 0, 0, 0, 0, 0, 0, 0, 0, 0, 0, 0, 0, 13, 14, 15, 16, 17, 0, 18, 19, 20, 21, 0, 0, 0, 22, 23, 24, 25, 0, 0, 26, 27, 28, 29, 0, 0, 0, 30, 0] rfl (C := RX11) (Tt := TX11) (N := 51) rfl kX11_wait_1 28 (by decide) rfl kX11_wait_0 rfl dX11_wait_90 (al 0 28) rfl ?_
  refine zb_iload_n X dX11_wait_93 rfl 2 rfl ?_
  obtain ⟨hz, h⟩ := h
  refine zb_iast X 13 (by decide) 1 4608 0 0 rfl (Or.inl rfl) ((al 0 28).toNatClampNeg) rfl hz dX11_wait_94 ?_
  refine zb_aload_n X dX11_wait_95 rfl 0 rfl ?_
  refine zb_getR X 0 (by decide) 11 [3, 4, 5, 6, 7, 8, 9, 10, 11, 0, 12, 0, 0, 0, 0, 0, 0, 0, 0, 0, 0, 0, 0, 13, 14, 15, 16, 17, 0, 18, 19, 20, 21, 0, 0, 0, 22, 23, 24, 25, 0, 0, 26, 27, 28, 29, 0, 0, 0, 30, 0] rfl (C := RX11) (Tt := TX11) (N := 51) rfl kX11_wait_1 26 (by decide) 14 rfl kX11_wait_4 rfl dX11_wait_96 ?_
  refine zb_aload_n X dX11_wait_99 rfl 0 rfl ?_
  refine zb_getI X 0 (by decide) 11 [3, 4, 5, 6, 7, 8, 9, 10, 11, 0, 12, 0, 0, 0, 0, 0, 0, 0, 0, 0, 0, 0, 0, 13, 14, 15, 16, 17, 0, 18, 19, 20, 21, 0, 0, 0, 22, 23, 24, 25, 0, 0, 26, 27, 28, 29, 0, 0, 0, 30, 0] rfl (C := RX11) (Tt := TX11) (N := 51) rfl kX11_wait_1 28 (by decide) rfl kX11_wait_0 rfl dX11_wait_100 (al 0 28) rfl ?_
  refine zb_iload_n X dX11_wait_103 rfl 3 rfl ?_
  obtain ⟨hz, h⟩ := h
  refine zb_iast X 14 (by decide) 1 4608 0 0 rfl (Or.inl rfl) ((al 0 28).toNatClampNeg) rfl hz dX11_wait_104 ?_
  refine zb_aload_n X dX11_wait_105 rfl 0 rfl ?_
  refine zb_getR X 0 (by decide) 11 [3, 4, 5, 6, 7, 8, 9, 10, 11, 0, 12, 0, 0, 0, 0, 0, 0, 0, 0, 0, 0, 0, 0, 13, 14, 15, 16, 17, 0, 18, 19, 20, 21, 0, 0, 0, 22, 23, 24, 25, 0, 0, 26, 27, 28, 29, 0, 0, 0, 30, 0] rfl (C := RX11) (Tt := TX11) (N := 51) rfl kX11_wait_1 27 (by decide) 15 rfl kX11_wait_5 rfl dX11_wait_106 ?_
  refine zb_aload_n X dX11_wait_109 rfl 0 rfl ?_
  refine zb_getI X 0 (by decide) 11 [3, 4, 5, 6, 7, 8, 9, 10, 11, 0, 12, 0, 0, 0, 0, 0, 0, 0, 0, 0, 0, 0, 0, 13, 14, 15, 16, 17, 0, 18, 19, 20, 21, 0, 0, 0, 22, 23, 24, 25, 0, 0, 26, 27, 28, 29, 0, 0, 0, 30, 0] rfl (C := RX11) (Tt := TX11) (N := 51) rfl kX11_wait_1 28 (by decide) rfl kX11_wait_0 rfl dX11_wait_110 (al 0 28) rfl ?_
  refine zb_iload X dX11_wait_113 4 rfl ?_
  obtain ⟨hz, h⟩ := h
  refine zb_iast X 15 (by decide) 1 4608 0 0 rfl (Or.inl rfl) ((al 0 28).toNatClampNeg) rfl hz dX11_wait_115 ?_
  refine zb_aload_n X dX11_wait_116 rfl 0 rfl ?_
  refine zb_dup X dX11_wait_117 rfl ?_
  refine zb_getI X 0 (by decide) 11 [3, 4, 5, 6, 7, 8, 9, 10, 11, 0, 12, 0, 0, 0, 0, 0, 0, 0, 0, 0, 0, 0, 0, 13, 14, 15, 16, 17, 0, 18, 19, 20, 21, 0, 0, 0, 22, 23, 24, 25, 0, 0, 26, 27, 28, 29, 0, 0, 0, 30, 0] rfl (C := RX11) (Tt := TX11) (N := 51) rfl kX11_wait_1 28 (by decide) rfl kX11_wait_0 rfl dX11_wait_118 (al 0 28) rfl ?_
  refine zb_iconst X (1 : Int32) dX11_wait_121 (by decide) ?_
  refine zb_iadd X dX11_wait_122 ?_
  refine zb_putI X 0 (by decide) 11 [3, 4, 5, 6, 7, 8, 9, 10, 11, 0, 12, 0, 0, 0, 0, 0, 0, 0, 0, 0, 0, 0, 0, 13, 14, 15, 16, 17, 0, 18, 19, 20, 21, 0, 0, 0, 22, 23, 24, 25, 0, 0, 26, 27, 28, 29, 0, 0, 0, 30, 0] rfl (C := RX11) (Tt := TX11) (N := 51) rfl kX11_wait_1 tyX11 tyX11_ok nmX11 28 (by decide) rfl kX11_wait_0 rfl rfl rfl rfl dX11_wait_123 ?_
  exact hR 126 _ _ dX11_wait_126 h
set_option maxRecDepth 20000 in
theorem tX11_wait_8 {G : zG} {Z : zC}  {ad ln : Nat → Nat} (X : zX G Z cX11_wait 6 RX11 wsX11_wait) (p1 : Int32) (p2 : Int32) (p3 : Int32) (p4 : Int32) {K8 : Int32 → (Nat → Nat → Int32) → Prop} {post : (Nat → Nat → Int32) → Prop} (hR : zRv G Z rmX11_wait 6 zTR ad ln cX11_wait post) (hK8 : ∀ x5 : Int32, ∀ al, K8 x5 al → zB G Z rmX11_wait 6 zTR ad ln 0 0 8 [(0, .ref (ad 0)), (1, .int p1), (2, .int p2), (3, .int p3), (4, .int p4), (5, .int x5)] [] al) (x5 : Int32) (al : Nat → Nat → Int32) (h : vcX11_wait_8 G  ad ln p1 p2 p3 p4 K8 post x5 al) : zB G Z rmX11_wait 6 zTR ad ln 0 0 8 [(0, .ref (ad 0)), (1, .int p1), (2, .int p2), (3, .int p3), (4, .int p4), (5, .int x5)] [] al := by
  unfold vcX11_wait_8 at h
  refine zb_iload X dX11_wait_8 5 rfl ?_
  refine zb_if_lt X 75 dX11_wait_10 (by decide) (fun c1 => ?_) (fun c1 => ?_)
  · have h := h.1 c1
    refine zb_sub [0, 1, 2, 3, 4] rfl ?_
    exact tX11_wait_75 X p1 p2 p3 p4 hR hK8  al h
  · have h := h.2 c1
    refine zb_aload_n X dX11_wait_13 rfl 0 rfl ?_
    refine zb_getR X 0 (by decide) 11 [3, 4, 5, 6, 7, 8, 9, 10, 11, 0, 12, 0, 0, 0, 0, 0, 0, 0, 0, 0, 0, 0, 0, 13, 14, 15, 16, 17, 0, 18, 19, 20, 21, 0, 0, 0, 22, 23, 24, 25, 0, 0, 26, 27, 28, 29, 0, 0, 0, 30, 0] rfl (C := RX11) (Tt := TX11) (N := 51) rfl kX11_wait_1 24 (by decide) 12 rfl kX11_wait_2 rfl dX11_wait_14 ?_
    refine zb_iload X dX11_wait_17 5 rfl ?_
    obtain ⟨hz, h⟩ := h
    refine zb_iald X 12 (by decide) 1 4608 0 0 rfl (Or.inl rfl) x5.toNatClampNeg rfl hz dX11_wait_19 (al 12 x5.toNatClampNeg) rfl ?_
    refine zb_iload_n X dX11_wait_20 rfl 1 rfl ?_
    refine zb_icmp_ne X 75 dX11_wait_21 (by decide) (fun c2 => ?_) (fun c2 => ?_)
    · have h := h.1 c2
      refine zb_sub [0, 1, 2, 3, 4] rfl ?_
      exact tX11_wait_75 X p1 p2 p3 p4 hR hK8  al h
    · have h := h.2 c2
      refine zb_aload_n X dX11_wait_24 rfl 0 rfl ?_
      refine zb_getR X 0 (by decide) 11 [3, 4, 5, 6, 7, 8, 9, 10, 11, 0, 12, 0, 0, 0, 0, 0, 0, 0, 0, 0, 0, 0, 0, 13, 14, 15, 16, 17, 0, 18, 19, 20, 21, 0, 0, 0, 22, 23, 24, 25, 0, 0, 26, 27, 28, 29, 0, 0, 0, 30, 0] rfl (C := RX11) (Tt := TX11) (N := 51) rfl kX11_wait_1 25 (by decide) 13 rfl kX11_wait_3 rfl dX11_wait_25 ?_
      refine zb_iload X dX11_wait_28 5 rfl ?_
      obtain ⟨hz, h⟩ := h
      refine zb_iald X 13 (by decide) 1 4608 0 0 rfl (Or.inl rfl) x5.toNatClampNeg rfl hz dX11_wait_30 (al 13 x5.toNatClampNeg) rfl ?_
      refine zb_iload_n X dX11_wait_31 rfl 2 rfl ?_
      refine zb_icmp_ne X 75 dX11_wait_32 (by decide) (fun c3 => ?_) (fun c3 => ?_)
      · have h := h.1 c3
        refine zb_sub [0, 1, 2, 3, 4] rfl ?_
        exact tX11_wait_75 X p1 p2 p3 p4 hR hK8  al h
      · have h := h.2 c3
        refine zb_aload_n X dX11_wait_35 rfl 0 rfl ?_
        refine zb_getR X 0 (by decide) 11 [3, 4, 5, 6, 7, 8, 9, 10, 11, 0, 12, 0, 0, 0, 0, 0, 0, 0, 0, 0, 0, 0, 0, 13, 14, 15, 16, 17, 0, 18, 19, 20, 21, 0, 0, 0, 22, 23, 24, 25, 0, 0, 26, 27, 28, 29, 0, 0, 0, 30, 0] rfl (C := RX11) (Tt := TX11) (N := 51) rfl kX11_wait_1 26 (by decide) 14 rfl kX11_wait_4 rfl dX11_wait_36 ?_
        refine zb_iload X dX11_wait_39 5 rfl ?_
        obtain ⟨hz, h⟩ := h
        refine zb_iald X 14 (by decide) 1 4608 0 0 rfl (Or.inl rfl) x5.toNatClampNeg rfl hz dX11_wait_41 (al 14 x5.toNatClampNeg) rfl ?_
        refine zb_iload_n X dX11_wait_42 rfl 3 rfl ?_
        refine zb_icmp_eq X 49 dX11_wait_43 (by decide) (fun c4 => ?_) (fun c4 => ?_)
        · have h := h.1 c4
          refine zb_aload_n X dX11_wait_49 rfl 0 rfl ?_
          refine zb_getR X 0 (by decide) 11 [3, 4, 5, 6, 7, 8, 9, 10, 11, 0, 12, 0, 0, 0, 0, 0, 0, 0, 0, 0, 0, 0, 0, 13, 14, 15, 16, 17, 0, 18, 19, 20, 21, 0, 0, 0, 22, 23, 24, 25, 0, 0, 26, 27, 28, 29, 0, 0, 0, 30, 0] rfl (C := RX11) (Tt := TX11) (N := 51) rfl kX11_wait_1 27 (by decide) 15 rfl kX11_wait_5 rfl dX11_wait_50 ?_
          refine zb_iload X dX11_wait_53 5 rfl ?_
          refine zb_aload_n X dX11_wait_55 rfl 0 rfl ?_
          refine zb_getR X 0 (by decide) 11 [3, 4, 5, 6, 7, 8, 9, 10, 11, 0, 12, 0, 0, 0, 0, 0, 0, 0, 0, 0, 0, 0, 0, 13, 14, 15, 16, 17, 0, 18, 19, 20, 21, 0, 0, 0, 22, 23, 24, 25, 0, 0, 26, 27, 28, 29, 0, 0, 0, 30, 0] rfl (C := RX11) (Tt := TX11) (N := 51) rfl kX11_wait_1 27 (by decide) 15 rfl kX11_wait_5 rfl dX11_wait_56 ?_
          refine zb_iload X dX11_wait_59 5 rfl ?_
          obtain ⟨hz, h⟩ := h
          refine zb_iald X 15 (by decide) 1 4608 0 0 rfl (Or.inl rfl) x5.toNatClampNeg rfl hz dX11_wait_61 (al 15 x5.toNatClampNeg) rfl ?_
          refine zb_iload X dX11_wait_62 4 rfl ?_
          refine zb_mmax X kX11_wait_6 kX11_wait_7 kX11_wait_8 kX11_wait_9 ⟨⟨Nat.le_of_ble_eq_true rfl, Nat.le_of_ble_eq_true rfl⟩, Nat.le_of_ble_eq_true rfl, Nat.le_of_ble_eq_true rfl⟩ dX11_wait_64 ?_
          obtain ⟨hz, h⟩ := h
          refine zb_iast X 15 (by decide) 1 4608 0 0 rfl (Or.inl rfl) x5.toNatClampNeg rfl hz dX11_wait_67 ?_
          exact hR 68 _ _ dX11_wait_68 h
        · have h := h.2 c4
          refine zb_goto X 69 dX11_wait_46 (by decide) ?_
          refine zb_iinc X (lv' := [(5, .int (x5 + (-1 : Int32))), (0, .ref (ad 0)), (1, .int p1), (2, .int p2), (3, .int p3), (4, .int p4)]) (x5 + (-1 : Int32)) dX11_wait_69 5 rfl rfl (by decide) rfl ?_
          refine zb_goto X 8 dX11_wait_72 (by decide) ?_
          refine zb_sub [1, 2, 3, 4, 5, 0] rfl ?_
          exact hK8 (x5 + (-1 : Int32)) al h
theorem uX11_wait_0 {G : zG} {Z : zC}  {ad ln : Nat → Nat} (X : zX G Z cX11_wait 6 RX11 wsX11_wait) (p1 : Int32) (p2 : Int32) (p3 : Int32) (p4 : Int32) {post : (Nat → Nat → Int32) → Prop} (hR : zRv G Z rmX11_wait 6 zTR ad ln cX11_wait post) (al : Nat → Nat → Int32) (h : vcX11_wait_0 G  ad ln p1 p2 p3 p4 (BX11_wait_8 G Z  ad ln p1 p2 p3 p4) post  al) : zB G Z rmX11_wait 6 zTR ad ln 0 0 0 [(0, .ref (ad 0)), (1, .int p1), (2, .int p2), (3, .int p3), (4, .int p4)] [] al := tX11_wait_0 X p1 p2 p3 p4 hR (fun _ _ h => h)  al h
theorem uX11_wait_75 {G : zG} {Z : zC}  {ad ln : Nat → Nat} (X : zX G Z cX11_wait 6 RX11 wsX11_wait) (p1 : Int32) (p2 : Int32) (p3 : Int32) (p4 : Int32) {post : (Nat → Nat → Int32) → Prop} (hR : zRv G Z rmX11_wait 6 zTR ad ln cX11_wait post) (al : Nat → Nat → Int32) (h : vcX11_wait_75 G  ad ln p1 p2 p3 p4 (BX11_wait_8 G Z  ad ln p1 p2 p3 p4) post  al) : zB G Z rmX11_wait 6 zTR ad ln 0 0 75 [(0, .ref (ad 0)), (1, .int p1), (2, .int p2), (3, .int p3), (4, .int p4)] [] al := tX11_wait_75 X p1 p2 p3 p4 hR (fun _ _ h => h)  al h
theorem uX11_wait_8 {G : zG} {Z : zC}  {ad ln : Nat → Nat} (X : zX G Z cX11_wait 6 RX11 wsX11_wait) (p1 : Int32) (p2 : Int32) (p3 : Int32) (p4 : Int32) {post : (Nat → Nat → Int32) → Prop} (hR : zRv G Z rmX11_wait 6 zTR ad ln cX11_wait post) (x5 : Int32) (al : Nat → Nat → Int32) (h : vcX11_wait_8 G  ad ln p1 p2 p3 p4 (BX11_wait_8 G Z  ad ln p1 p2 p3 p4) post x5 al) : zB G Z rmX11_wait 6 zTR ad ln 0 0 8 [(0, .ref (ad 0)), (1, .int p1), (2, .int p2), (3, .int p3), (4, .int p4), (5, .int x5)] [] al := tX11_wait_8 X p1 p2 p3 p4 hR (fun _ _ h => h) x5 al h

abbrev rmX11_useOver : Room := { frames := 0, cells := 0, slots := 0, locals := 0 }
def vcX11_useOver_10 (G : zG)  (ad ln : Nat → Nat) (p1 : Int32) (p2 : Int32)  (post : Int32 → (Nat → Nat → Int32) → Prop) (s0 : Int32) (al : Nat → Nat → Int32) : Prop :=
  post s0 al
def vcX11_useOver_0 (G : zG)  (ad ln : Nat → Nat) (p1 : Int32) (p2 : Int32)  (post : Int32 → (Nat → Nat → Int32) → Prop) (al : Nat → Nat → Int32) : Prop :=
  (p2 ≤ p1 → vcX11_useOver_10 G  ad ln p1 p2  post (1 : Int32) al) ∧ (¬ p2 ≤ p1 → vcX11_useOver_10 G  ad ln p1 p2  post (0 : Int32) al)
set_option maxRecDepth 20000 in
theorem tX11_useOver_10 {G : zG} {Z : zC}  {ad ln : Nat → Nat} (X : zX G Z cX11_useOver 3 RX11 wsX11_useOver) (p1 : Int32) (p2 : Int32)  {post : Int32 → (Nat → Nat → Int32) → Prop} (hR : zRi G Z rmX11_useOver 3 zTR ad ln cX11_useOver .int post)  (s0 : Int32) (al : Nat → Nat → Int32) (h : vcX11_useOver_10 G  ad ln p1 p2  post s0 al) : zB G Z rmX11_useOver 3 zTR ad ln 0 0 10 [] [.int s0] al := by
  unfold vcX11_useOver_10 at h
  exact hR 10 _ _ _ dX11_useOver_10 rfl h
set_option maxRecDepth 20000 in
theorem tX11_useOver_0 {G : zG} {Z : zC}  {ad ln : Nat → Nat} (X : zX G Z cX11_useOver 3 RX11 wsX11_useOver) (p1 : Int32) (p2 : Int32)  {post : Int32 → (Nat → Nat → Int32) → Prop} (hR : zRi G Z rmX11_useOver 3 zTR ad ln cX11_useOver .int post)  (al : Nat → Nat → Int32) (h : vcX11_useOver_0 G  ad ln p1 p2  post  al) : zB G Z rmX11_useOver 3 zTR ad ln 0 0 0 [(0, .ref (ad 0)), (1, .int p1), (2, .int p2)] [] al := by
  unfold vcX11_useOver_0 at h
  refine zb_iload_n X dX11_useOver_0 rfl 2 rfl ?_
  refine zb_iload_n X dX11_useOver_1 rfl 1 rfl ?_
  refine zb_icmp_le X 9 dX11_useOver_2 (by decide) (fun c1 => ?_) (fun c1 => ?_)
  · have h := h.1 c1
    refine zb_iconst X (1 : Int32) dX11_useOver_9 (by decide) ?_
    refine zb_sub [] rfl ?_
    exact tX11_useOver_10 X p1 p2 hR  (1 : Int32) al h
  · have h := h.2 c1
    refine zb_iconst X (0 : Int32) dX11_useOver_5 (by decide) ?_
    refine zb_goto X 10 dX11_useOver_6 (by decide) ?_
    refine zb_sub [] rfl ?_
    exact tX11_useOver_10 X p1 p2 hR  (0 : Int32) al h

abbrev rmX11_sameOver : Room := { frames := 1, cells := 0, slots := 0, locals := 22 }
theorem kX11_sameOver_0 : Cond.fieldLink RX11 157 RX11 "rounds" "I" ∈ wsX11_sameOver := by decide +kernel
theorem kX11_sameOver_1 : zIn RX11 TX11 51 wsX11_sameOver := by decide +kernel
theorem kX11_sameOver_2 : Cond.fieldLink RX11 85 RX11 "factor" "[I" ∈ wsX11_sameOver := by decide +kernel
theorem kX11_sameOver_3 : Cond.fieldLink RX11 88 RX11 "plus" "[I" ∈ wsX11_sameOver := by decide +kernel
abbrev BX11_sameOver_18 (G : zG) (Z : zC)  (ad ln : Nat → Nat) (p1 : Int32) (p2 : Int32) (x3 x4 : Int32) (al : Nat → Nat → Int32) : Prop := zB G Z rmX11_sameOver 5 zTR ad ln 0 0 18 [(0, .ref (ad 0)), (1, .int p1), (2, .int p2), (3, .int x3), (4, .int x4)] [] al
abbrev BX11_sameOver_7 (G : zG) (Z : zC)  (ad ln : Nat → Nat) (p1 : Int32) (p2 : Int32) (x3 : Int32) (al : Nat → Nat → Int32) : Prop := zB G Z rmX11_sameOver 5 zTR ad ln 0 0 7 [(0, .ref (ad 0)), (1, .int p1), (2, .int p2), (3, .int x3)] [] al
def vcX11_sameOver_0 (G : zG)  (ad ln : Nat → Nat) (p1 : Int32) (p2 : Int32) (K7 : Int32 → (Nat → Nat → Int32) → Prop) (K18 : Int32 → Int32 → (Nat → Nat → Int32) → Prop) (post : Int32 → (Nat → Nat → Int32) → Prop) (al : Nat → Nat → Int32) : Prop :=
  zMi G yX11_useOver wsX11_useOver rmX11_useOver zTR ad ln [.ref (ad 0), .int p1, .int p2] al (fun q1 a1 => K7 q1 a1)
def vcX11_sameOver_7 (G : zG)  (ad ln : Nat → Nat) (p1 : Int32) (p2 : Int32) (K7 : Int32 → (Nat → Nat → Int32) → Prop) (K18 : Int32 → Int32 → (Nat → Nat → Int32) → Prop) (post : Int32 → (Nat → Nat → Int32) → Prop) (x3 : Int32) (al : Nat → Nat → Int32) : Prop :=
  ((al 0 18) ≤ x3 → post (-1 : Int32) al) ∧ (¬ (al 0 18) ≤ x3 → K18 x3 (0 : Int32) al)
def vcX11_sameOver_18 (G : zG)  (ad ln : Nat → Nat) (p1 : Int32) (p2 : Int32) (K7 : Int32 → (Nat → Nat → Int32) → Prop) (K18 : Int32 → Int32 → (Nat → Nat → Int32) → Prop) (post : Int32 → (Nat → Nat → Int32) → Prop) (x3 x4 : Int32) (al : Nat → Nat → Int32) : Prop :=
  ((al 0 18) ≤ (x4 + x3) → K7 (x3 + (1 : Int32)) al) ∧ (¬ (al 0 18) ≤ (x4 + x3) → (vp_in p1 49 ∧ vp_in p1 49 ∧ vp_in p2 49 ∧ vp_in p2 49 ∧ (¬ (((al 4 p1.toNatClampNeg) * x4) + (al 5 p1.toNatClampNeg)) = (((al 4 p2.toNatClampNeg) * (x4 + x3)) + (al 5 p2.toNatClampNeg)) → K18 x3 (x4 + (1 : Int32)) al) ∧ ((((al 4 p1.toNatClampNeg) * x4) + (al 5 p1.toNatClampNeg)) = (((al 4 p2.toNatClampNeg) * (x4 + x3)) + (al 5 p2.toNatClampNeg)) → post x3 al)))
set_option maxRecDepth 20000 in
theorem tX11_sameOver_0 {G : zG} {Z : zC}  {ad ln : Nat → Nat} (X : zX G Z cX11_sameOver 5 RX11 wsX11_sameOver) (p1 : Int32) (p2 : Int32) {K7 : Int32 → (Nat → Nat → Int32) → Prop} {K18 : Int32 → Int32 → (Nat → Nat → Int32) → Prop} {post : Int32 → (Nat → Nat → Int32) → Prop} (hR : zRi G Z rmX11_sameOver 5 zTR ad ln cX11_sameOver .int post) (hK7 : ∀ x3 : Int32, ∀ al, K7 x3 al → zB G Z rmX11_sameOver 5 zTR ad ln 0 0 7 [(0, .ref (ad 0)), (1, .int p1), (2, .int p2), (3, .int x3)] [] al) (hK18 : ∀ x3 x4 : Int32, ∀ al, K18 x3 x4 al → zB G Z rmX11_sameOver 5 zTR ad ln 0 0 18 [(0, .ref (ad 0)), (1, .int p1), (2, .int p2), (3, .int x3), (4, .int x4)] [] al) (al : Nat → Nat → Int32) (h : vcX11_sameOver_0 G  ad ln p1 p2 K7 K18 post  al) : zB G Z rmX11_sameOver 5 zTR ad ln 0 0 0 [(0, .ref (ad 0)), (1, .int p1), (2, .int p2)] [] al := by
  unfold vcX11_sameOver_0 at h
  refine zb_aload_n X dX11_sameOver_0 rfl 0 rfl ?_
  refine zb_iload_n X dX11_sameOver_1 rfl 1 rfl ?_
  refine zb_iload_n X dX11_sameOver_2 rfl 2 rfl ?_
  refine zb_callVi (n := 2) X 0 (by decide) 11 [3, 4, 5, 6, 7, 8, 9, 10, 11, 0, 12, 0, 0, 0, 0, 0, 0, 0, 0, 0, 0, 0, 0, 13, 14, 15, 16, 17, 0, 18, 19, 20, 21, 0, 0, 0, 22, 23, 24, 25, 0, 0, 26, 27, 28, 29, 0, 0, 0, 30, 0] rfl (C := RX11) (Tt := TX11) (N := 51) rfl h gX11_sameOver_X11_useOver rfl (by decide +kernel) (by decide) rfl rfl (Nat.le_of_ble_eq_true rfl) dX11_sameOver_3 (kc' := 0) (ks' := 0) rfl rfl (fun q1 a1 h => ?_)
  refine zb_istore_n X (lv' := [(3, .int q1), (0, .ref (ad 0)), (1, .int p1), (2, .int p2)]) dX11_sameOver_6 rfl (by decide) rfl ?_
  refine zb_sub [1, 2, 3, 0] rfl ?_
  exact hK7 q1 a1 h
set_option maxRecDepth 20000 in
theorem tX11_sameOver_7 {G : zG} {Z : zC}  {ad ln : Nat → Nat} (X : zX G Z cX11_sameOver 5 RX11 wsX11_sameOver) (p1 : Int32) (p2 : Int32) {K7 : Int32 → (Nat → Nat → Int32) → Prop} {K18 : Int32 → Int32 → (Nat → Nat → Int32) → Prop} {post : Int32 → (Nat → Nat → Int32) → Prop} (hR : zRi G Z rmX11_sameOver 5 zTR ad ln cX11_sameOver .int post) (hK7 : ∀ x3 : Int32, ∀ al, K7 x3 al → zB G Z rmX11_sameOver 5 zTR ad ln 0 0 7 [(0, .ref (ad 0)), (1, .int p1), (2, .int p2), (3, .int x3)] [] al) (hK18 : ∀ x3 x4 : Int32, ∀ al, K18 x3 x4 al → zB G Z rmX11_sameOver 5 zTR ad ln 0 0 18 [(0, .ref (ad 0)), (1, .int p1), (2, .int p2), (3, .int x3), (4, .int x4)] [] al) (x3 : Int32) (al : Nat → Nat → Int32) (h : vcX11_sameOver_7 G  ad ln p1 p2 K7 K18 post x3 al) : zB G Z rmX11_sameOver 5 zTR ad ln 0 0 7 [(0, .ref (ad 0)), (1, .int p1), (2, .int p2), (3, .int x3)] [] al := by
  unfold vcX11_sameOver_7 at h
  refine zb_iload_n X dX11_sameOver_7 rfl 3 rfl ?_
  refine zb_aload_n X dX11_sameOver_8 rfl 0 rfl ?_
  refine zb_getI X 0 (by decide) 11 [3, 4, 5, 6, 7, 8, 9, 10, 11, 0, 12, 0, 0, 0, 0, 0, 0, 0, 0, 0, 0, 0, 0, 13, 14, 15, 16, 17, 0, 18, 19, 20, 21, 0, 0, 0, 22, 23, 24, 25, 0, 0, 26, 27, 28, 29, 0, 0, 0, 30, 0] rfl (C := RX11) (Tt := TX11) (N := 51) rfl kX11_sameOver_1 18 (by decide) rfl kX11_sameOver_0 rfl dX11_sameOver_9 (al 0 18) rfl ?_
  refine zb_icmp_ge X 80 dX11_sameOver_12 (by decide) (fun c1 => ?_) (fun c1 => ?_)
  · have h := h.1 c1
    refine zb_iconst X (-1 : Int32) dX11_sameOver_80 (by decide) ?_
    exact hR 81 _ _ _ dX11_sameOver_81 rfl h
  · have h := h.2 c1
    refine zb_iconst X (0 : Int32) dX11_sameOver_15 (by decide) ?_
    refine zb_istore X (lv' := [(4, .int (0 : Int32)), (0, .ref (ad 0)), (1, .int p1), (2, .int p2), (3, .int x3)]) dX11_sameOver_16 (by decide) rfl ?_
    refine zb_sub [1, 2, 3, 4, 0] rfl ?_
    exact hK18 x3 (0 : Int32) al h
set_option maxRecDepth 20000 in
theorem tX11_sameOver_18 {G : zG} {Z : zC}  {ad ln : Nat → Nat} (X : zX G Z cX11_sameOver 5 RX11 wsX11_sameOver) (p1 : Int32) (p2 : Int32) {K7 : Int32 → (Nat → Nat → Int32) → Prop} {K18 : Int32 → Int32 → (Nat → Nat → Int32) → Prop} {post : Int32 → (Nat → Nat → Int32) → Prop} (hR : zRi G Z rmX11_sameOver 5 zTR ad ln cX11_sameOver .int post) (hK7 : ∀ x3 : Int32, ∀ al, K7 x3 al → zB G Z rmX11_sameOver 5 zTR ad ln 0 0 7 [(0, .ref (ad 0)), (1, .int p1), (2, .int p2), (3, .int x3)] [] al) (hK18 : ∀ x3 x4 : Int32, ∀ al, K18 x3 x4 al → zB G Z rmX11_sameOver 5 zTR ad ln 0 0 18 [(0, .ref (ad 0)), (1, .int p1), (2, .int p2), (3, .int x3), (4, .int x4)] [] al) (x3 x4 : Int32) (al : Nat → Nat → Int32) (h : vcX11_sameOver_18 G  ad ln p1 p2 K7 K18 post x3 x4 al) : zB G Z rmX11_sameOver 5 zTR ad ln 0 0 18 [(0, .ref (ad 0)), (1, .int p1), (2, .int p2), (3, .int x3), (4, .int x4)] [] al := by
  unfold vcX11_sameOver_18 at h
  refine zb_iload X dX11_sameOver_18 4 rfl ?_
  refine zb_iload_n X dX11_sameOver_20 rfl 3 rfl ?_
  refine zb_iadd X dX11_sameOver_21 ?_
  refine zb_aload_n X dX11_sameOver_22 rfl 0 rfl ?_
  refine zb_getI X 0 (by decide) 11 [3, 4, 5, 6, 7, 8, 9, 10, 11, 0, 12, 0, 0, 0, 0, 0, 0, 0, 0, 0, 0, 0, 0, 13, 14, 15, 16, 17, 0, 18, 19, 20, 21, 0, 0, 0, 22, 23, 24, 25, 0, 0, 26, 27, 28, 29, 0, 0, 0, 30, 0] rfl (C := RX11) (Tt := TX11) (N := 51) rfl kX11_sameOver_1 18 (by decide) rfl kX11_sameOver_0 rfl dX11_sameOver_23 (al 0 18) rfl ?_
  refine zb_icmp_ge X 74 dX11_sameOver_26 (by decide) (fun c1 => ?_) (fun c1 => ?_)
  · have h := h.1 c1
    refine zb_iinc X (lv' := [(3, .int (x3 + (1 : Int32))), (0, .ref (ad 0)), (1, .int p1), (2, .int p2), (4, .int x4)]) (x3 + (1 : Int32)) dX11_sameOver_74 3 rfl rfl (by decide) rfl ?_
    refine zb_goto X 7 dX11_sameOver_77 (by decide) ?_
    refine zb_sub [1, 2, 3, 0] rfl ?_
    exact hK7 (x3 + (1 : Int32)) al h
  · have h := h.2 c1
    refine zb_aload_n X dX11_sameOver_29 rfl 0 rfl ?_
    refine zb_getR X 0 (by decide) 11 [3, 4, 5, 6, 7, 8, 9, 10, 11, 0, 12, 0, 0, 0, 0, 0, 0, 0, 0, 0, 0, 0, 0, 13, 14, 15, 16, 17, 0, 18, 19, 20, 21, 0, 0, 0, 22, 23, 24, 25, 0, 0, 26, 27, 28, 29, 0, 0, 0, 30, 0] rfl (C := RX11) (Tt := TX11) (N := 51) rfl kX11_sameOver_1 3 (by decide) 4 rfl kX11_sameOver_2 rfl dX11_sameOver_30 ?_
    refine zb_iload_n X dX11_sameOver_33 rfl 1 rfl ?_
    obtain ⟨hz, h⟩ := h
    refine zb_iald X 4 (by decide) 1 49 0 0 rfl (Or.inl rfl) p1.toNatClampNeg rfl hz dX11_sameOver_34 (al 4 p1.toNatClampNeg) rfl ?_
    refine zb_iload X dX11_sameOver_35 4 rfl ?_
    refine zb_imul X dX11_sameOver_37 ?_
    refine zb_aload_n X dX11_sameOver_38 rfl 0 rfl ?_
    refine zb_getR X 0 (by decide) 11 [3, 4, 5, 6, 7, 8, 9, 10, 11, 0, 12, 0, 0, 0, 0, 0, 0, 0, 0, 0, 0, 0, 0, 13, 14, 15, 16, 17, 0, 18, 19, 20, 21, 0, 0, 0, 22, 23, 24, 25, 0, 0, 26, 27, 28, 29, 0, 0, 0, 30, 0] rfl (C := RX11) (Tt := TX11) (N := 51) rfl kX11_sameOver_1 4 (by decide) 5 rfl kX11_sameOver_3 rfl dX11_sameOver_39 ?_
    refine zb_iload_n X dX11_sameOver_42 rfl 1 rfl ?_
    obtain ⟨hz, h⟩ := h
    refine zb_iald X 5 (by decide) 1 49 0 0 rfl (Or.inl rfl) p1.toNatClampNeg rfl hz dX11_sameOver_43 (al 5 p1.toNatClampNeg) rfl ?_
    refine zb_iadd X dX11_sameOver_44 ?_
    refine zb_aload_n X dX11_sameOver_45 rfl 0 rfl ?_
    refine zb_getR X 0 (by decide) 11 [3, 4, 5, 6, 7, 8, 9, 10, 11, 0, 12, 0, 0, 0, 0, 0, 0, 0, 0, 0, 0, 0, 0, 13, 14, 15, 16, 17, 0, 18, 19, 20, 21, 0, 0, 0, 22, 23, 24, 25, 0, 0, 26, 27, 28, 29, 0, 0, 0, 30, 0] rfl (C := RX11) (Tt := TX11) (N := 51) rfl kX11_sameOver_1 3 (by decide) 4 rfl kX11_sameOver_2 rfl dX11_sameOver_46 ?_
    refine zb_iload_n X dX11_sameOver_49 rfl 2 rfl ?_
    obtain ⟨hz, h⟩ := h
    refine zb_iald X 4 (by decide) 1 49 0 0 rfl (Or.inl rfl) p2.toNatClampNeg rfl hz dX11_sameOver_50 (al 4 p2.toNatClampNeg) rfl ?_
    refine zb_iload X dX11_sameOver_51 4 rfl ?_
    refine zb_iload_n X dX11_sameOver_53 rfl 3 rfl ?_
    refine zb_iadd X dX11_sameOver_54 ?_
    refine zb_imul X dX11_sameOver_55 ?_
    refine zb_aload_n X dX11_sameOver_56 rfl 0 rfl ?_
    refine zb_getR X 0 (by decide) 11 [3, 4, 5, 6, 7, 8, 9, 10, 11, 0, 12, 0, 0, 0, 0, 0, 0, 0, 0, 0, 0, 0, 0, 13, 14, 15, 16, 17, 0, 18, 19, 20, 21, 0, 0, 0, 22, 23, 24, 25, 0, 0, 26, 27, 28, 29, 0, 0, 0, 30, 0] rfl (C := RX11) (Tt := TX11) (N := 51) rfl kX11_sameOver_1 4 (by decide) 5 rfl kX11_sameOver_3 rfl dX11_sameOver_57 ?_
    refine zb_iload_n X dX11_sameOver_60 rfl 2 rfl ?_
    obtain ⟨hz, h⟩ := h
    refine zb_iald X 5 (by decide) 1 49 0 0 rfl (Or.inl rfl) p2.toNatClampNeg rfl hz dX11_sameOver_61 (al 5 p2.toNatClampNeg) rfl ?_
    refine zb_iadd X dX11_sameOver_62 ?_
    refine zb_icmp_ne X 68 dX11_sameOver_63 (by decide) (fun c2 => ?_) (fun c2 => ?_)
    · have h := h.1 c2
      refine zb_iinc X (lv' := [(4, .int (x4 + (1 : Int32))), (0, .ref (ad 0)), (1, .int p1), (2, .int p2), (3, .int x3)]) (x4 + (1 : Int32)) dX11_sameOver_68 4 rfl rfl (by decide) rfl ?_
      refine zb_goto X 18 dX11_sameOver_71 (by decide) ?_
      refine zb_sub [1, 2, 3, 4, 0] rfl ?_
      exact hK18 x3 (x4 + (1 : Int32)) al h
    · have h := h.2 c2
      refine zb_iload_n X dX11_sameOver_66 rfl 3 rfl ?_
      exact hR 67 _ _ _ dX11_sameOver_67 rfl h
theorem uX11_sameOver_0 {G : zG} {Z : zC}  {ad ln : Nat → Nat} (X : zX G Z cX11_sameOver 5 RX11 wsX11_sameOver) (p1 : Int32) (p2 : Int32) {post : Int32 → (Nat → Nat → Int32) → Prop} (hR : zRi G Z rmX11_sameOver 5 zTR ad ln cX11_sameOver .int post) (al : Nat → Nat → Int32) (h : vcX11_sameOver_0 G  ad ln p1 p2 (BX11_sameOver_7 G Z  ad ln p1 p2) (BX11_sameOver_18 G Z  ad ln p1 p2) post  al) : zB G Z rmX11_sameOver 5 zTR ad ln 0 0 0 [(0, .ref (ad 0)), (1, .int p1), (2, .int p2)] [] al := tX11_sameOver_0 X p1 p2 hR (fun _ _ h => h) (fun _ _ _ h => h)  al h
theorem uX11_sameOver_7 {G : zG} {Z : zC}  {ad ln : Nat → Nat} (X : zX G Z cX11_sameOver 5 RX11 wsX11_sameOver) (p1 : Int32) (p2 : Int32) {post : Int32 → (Nat → Nat → Int32) → Prop} (hR : zRi G Z rmX11_sameOver 5 zTR ad ln cX11_sameOver .int post) (x3 : Int32) (al : Nat → Nat → Int32) (h : vcX11_sameOver_7 G  ad ln p1 p2 (BX11_sameOver_7 G Z  ad ln p1 p2) (BX11_sameOver_18 G Z  ad ln p1 p2) post x3 al) : zB G Z rmX11_sameOver 5 zTR ad ln 0 0 7 [(0, .ref (ad 0)), (1, .int p1), (2, .int p2), (3, .int x3)] [] al := tX11_sameOver_7 X p1 p2 hR (fun _ _ h => h) (fun _ _ _ h => h) x3 al h
theorem uX11_sameOver_18 {G : zG} {Z : zC}  {ad ln : Nat → Nat} (X : zX G Z cX11_sameOver 5 RX11 wsX11_sameOver) (p1 : Int32) (p2 : Int32) {post : Int32 → (Nat → Nat → Int32) → Prop} (hR : zRi G Z rmX11_sameOver 5 zTR ad ln cX11_sameOver .int post) (x3 x4 : Int32) (al : Nat → Nat → Int32) (h : vcX11_sameOver_18 G  ad ln p1 p2 (BX11_sameOver_7 G Z  ad ln p1 p2) (BX11_sameOver_18 G Z  ad ln p1 p2) post x3 x4 al) : zB G Z rmX11_sameOver 5 zTR ad ln 0 0 18 [(0, .ref (ad 0)), (1, .int p1), (2, .int p2), (3, .int x3), (4, .int x4)] [] al := tX11_sameOver_18 X p1 p2 hR (fun _ _ h => h) (fun _ _ _ h => h) x3 x4 al h

abbrev rmX11_findWaits : Room := { frames := 2, cells := 0, slots := 0, locals := 46 }
theorem kX11_findWaits_0 : Cond.fieldLink RX11 119 RX11 "waits" "I" ∈ wsX11_findWaits := by decide +kernel
theorem kX11_findWaits_1 : zIn RX11 TX11 51 wsX11_findWaits := by decide +kernel
theorem kX11_findWaits_2 : Cond.fieldLink RX11 137 RX11 "rows" "I" ∈ wsX11_findWaits := by decide +kernel
theorem kX11_findWaits_3 : Cond.fieldLink RX11 91 RX11 "sets" "[I" ∈ wsX11_findWaits := by decide +kernel
theorem kX11_findWaits_4 : Cond.fieldLink RX11 79 RX11 "array" "[I" ∈ wsX11_findWaits := by decide +kernel
theorem kX11_findWaits_5 : Cond.fieldLink RX11 1 RX11 "op" "[I" ∈ wsX11_findWaits := by decide +kernel
abbrev BX11_findWaits_17 (G : zG) (Z : zC)  (ad ln : Nat → Nat) (x1 x2 : Int32) (al : Nat → Nat → Int32) : Prop := zB G Z rmX11_findWaits 4 zTR ad ln 0 0 17 [(0, .ref (ad 0)), (1, .int x1), (2, .int x2)] [] al
abbrev BX11_findWaits_7 (G : zG) (Z : zC)  (ad ln : Nat → Nat) (x1 : Int32) (al : Nat → Nat → Int32) : Prop := zB G Z rmX11_findWaits 4 zTR ad ln 0 0 7 [(0, .ref (ad 0)), (1, .int x1)] [] al
def vcX11_findWaits_0 (G : zG)  (ad ln : Nat → Nat) (K7 : Int32 → (Nat → Nat → Int32) → Prop) (K17 : Int32 → Int32 → (Nat → Nat → Int32) → Prop) (post : (Nat → Nat → Int32) → Prop) (al : Nat → Nat → Int32) : Prop :=
  K7 (0 : Int32) (up2 al 0 28 (0 : Int32))
def vcX11_findWaits_7 (G : zG)  (ad ln : Nat → Nat) (K7 : Int32 → (Nat → Nat → Int32) → Prop) (K17 : Int32 → Int32 → (Nat → Nat → Int32) → Prop) (post : (Nat → Nat → Int32) → Prop) (x1 : Int32) (al : Nat → Nat → Int32) : Prop :=
  ((al 0 9) ≤ x1 → post al) ∧ (¬ (al 0 9) ≤ x1 → K17 x1 (0 : Int32) al)
def vcX11_findWaits_167 (G : zG)  (ad ln : Nat → Nat) (K7 : Int32 → (Nat → Nat → Int32) → Prop) (K17 : Int32 → Int32 → (Nat → Nat → Int32) → Prop) (post : (Nat → Nat → Int32) → Prop) (x1 x2 : Int32) (al : Nat → Nat → Int32) : Prop :=
  K17 x1 (x2 + (1 : Int32)) al
def vcX11_findWaits_164 (G : zG)  (ad ln : Nat → Nat) (K7 : Int32 → (Nat → Nat → Int32) → Prop) (K17 : Int32 → Int32 → (Nat → Nat → Int32) → Prop) (post : (Nat → Nat → Int32) → Prop) (x1 x2 s0 s1 s2 s3 : Int32) (al : Nat → Nat → Int32) : Prop :=
  zMv G yX11_wait wsX11_wait rmX11_wait zTR ad ln [.ref (ad 0), .int s3, .int s2, .int s1, .int s0] al (fun a1 => vcX11_findWaits_167 G  ad ln K7 K17 post x1 x2 a1)
def vcX11_findWaits_114 (G : zG)  (ad ln : Nat → Nat) (K7 : Int32 → (Nat → Nat → Int32) → Prop) (K17 : Int32 → Int32 → (Nat → Nat → Int32) → Prop) (post : (Nat → Nat → Int32) → Prop) (x1 x2 : Int32) (al : Nat → Nat → Int32) : Prop :=
  zMi G yX11_sameOver wsX11_sameOver rmX11_sameOver zTR ad ln [.ref (ad 0), .int x1, .int x2] al (fun q1 a1 => (q1 < 0 → vcX11_findWaits_167 G  ad ln K7 K17 post x1 x2 a1) ∧ (¬ q1 < 0 → (vp_in x1 49 ∧ (¬ (a1 1 x1.toNatClampNeg) = (12 : Int32) → vcX11_findWaits_164 G  ad ln K7 K17 post x1 x2 (0 : Int32) q1 x2 x1 a1) ∧ ((a1 1 x1.toNatClampNeg) = (12 : Int32) → (vp_in x2 49 ∧ (¬ (a1 1 x2.toNatClampNeg) = (12 : Int32) → zMi G yX11_time wsX11_time rmX11_time zTR ad ln [.ref (ad 0), .int x1] a1 (fun q5 a5 => vcX11_findWaits_164 G  ad ln K7 K17 post x1 x2 q5 q1 x2 x1 a5)) ∧ ((a1 1 x2.toNatClampNeg) = (12 : Int32) → vcX11_findWaits_164 G  ad ln K7 K17 post x1 x2 (1 : Int32) q1 x2 x1 a1))))))
def vcX11_findWaits_65 (G : zG)  (ad ln : Nat → Nat) (K7 : Int32 → (Nat → Nat → Int32) → Prop) (K17 : Int32 → Int32 → (Nat → Nat → Int32) → Prop) (post : (Nat → Nat → Int32) → Prop) (x1 x2 : Int32) (al : Nat → Nat → Int32) : Prop :=
  (vp_in x1 49 ∧ ((al 3 x1.toNatClampNeg) < 0 → vcX11_findWaits_167 G  ad ln K7 K17 post x1 x2 al) ∧ (¬ (al 3 x1.toNatClampNeg) < 0 → (vp_in x1 49 ∧ vp_in x2 49 ∧ (¬ (al 3 x1.toNatClampNeg) = (al 3 x2.toNatClampNeg) → vcX11_findWaits_167 G  ad ln K7 K17 post x1 x2 al) ∧ ((al 3 x1.toNatClampNeg) = (al 3 x2.toNatClampNeg) → (vp_in x1 49 ∧ (¬ (al 1 x1.toNatClampNeg) = (11 : Int32) → vcX11_findWaits_114 G  ad ln K7 K17 post x1 x2 al) ∧ ((al 1 x1.toNatClampNeg) = (11 : Int32) → (vp_in x2 49 ∧ (¬ (al 1 x2.toNatClampNeg) = (11 : Int32) → vcX11_findWaits_114 G  ad ln K7 K17 post x1 x2 al) ∧ ((al 1 x2.toNatClampNeg) = (11 : Int32) → vcX11_findWaits_167 G  ad ln K7 K17 post x1 x2 al))))))))
def vcX11_findWaits_17 (G : zG)  (ad ln : Nat → Nat) (K7 : Int32 → (Nat → Nat → Int32) → Prop) (K17 : Int32 → Int32 → (Nat → Nat → Int32) → Prop) (post : (Nat → Nat → Int32) → Prop) (x1 x2 : Int32) (al : Nat → Nat → Int32) : Prop :=
  ((al 0 9) ≤ x2 → K7 (x1 + (1 : Int32)) al) ∧ (¬ (al 0 9) ≤ x2 → (vp_in x1 49 ∧ ((al 2 x1.toNatClampNeg) < 0 → vcX11_findWaits_65 G  ad ln K7 K17 post x1 x2 al) ∧ (¬ (al 2 x1.toNatClampNeg) < 0 → (vp_in x1 49 ∧ zMi G yX11_uses wsX11_uses rmX11_uses zTR ad ln [.ref (ad 0), .int x2, .int (al 2 x1.toNatClampNeg)] al (fun q3 a3 => (q3 = 0 → vcX11_findWaits_65 G  ad ln K7 K17 post x1 x2 a3) ∧ (¬ q3 = 0 → zMi G yX11_useOver wsX11_useOver rmX11_useOver zTR ad ln [.ref (ad 0), .int x1, .int x2] a3 (fun q5 a5 => zMi G yX11_time wsX11_time rmX11_time zTR ad ln [.ref (ad 0), .int x1] a5 (fun q6 a6 => zMv G yX11_wait wsX11_wait rmX11_wait zTR ad ln [.ref (ad 0), .int x1, .int x2, .int q5, .int q6] a6 (fun a7 => vcX11_findWaits_65 G  ad ln K7 K17 post x1 x2 a7)))))))))
set_option maxRecDepth 20000 in
theorem tX11_findWaits_0 {G : zG} {Z : zC}  {ad ln : Nat → Nat} (X : zX G Z cX11_findWaits 4 RX11 wsX11_findWaits) {K7 : Int32 → (Nat → Nat → Int32) → Prop} {K17 : Int32 → Int32 → (Nat → Nat → Int32) → Prop} {post : (Nat → Nat → Int32) → Prop} (hR : zRv G Z rmX11_findWaits 4 zTR ad ln cX11_findWaits post) (hK7 : ∀ x1 : Int32, ∀ al, K7 x1 al → zB G Z rmX11_findWaits 4 zTR ad ln 0 0 7 [(0, .ref (ad 0)), (1, .int x1)] [] al) (hK17 : ∀ x1 x2 : Int32, ∀ al, K17 x1 x2 al → zB G Z rmX11_findWaits 4 zTR ad ln 0 0 17 [(0, .ref (ad 0)), (1, .int x1), (2, .int x2)] [] al) (al : Nat → Nat → Int32) (h : vcX11_findWaits_0 G  ad ln K7 K17 post  al) : zB G Z rmX11_findWaits 4 zTR ad ln 0 0 0 [(0, .ref (ad 0))] [] al := by
  unfold vcX11_findWaits_0 at h
  refine zb_aload_n X dX11_findWaits_0 rfl 0 rfl ?_
  refine zb_iconst X (0 : Int32) dX11_findWaits_1 (by decide) ?_
  refine zb_putI X 0 (by decide) 11 [3, 4, 5, 6, 7, 8, 9, 10, 11, 0, 12, 0, 0, 0, 0, 0, 0, 0, 0, 0, 0, 0, 0, 13, 14, 15, 16, 17, 0, 18, 19, 20, 21, 0, 0, 0, 22, 23, 24, 25, 0, 0, 26, 27, 28, 29, 0, 0, 0, 30, 0] rfl (C := RX11) (Tt := TX11) (N := 51) rfl kX11_findWaits_1 tyX11 tyX11_ok nmX11 28 (by decide) rfl kX11_findWaits_0 rfl rfl rfl rfl dX11_findWaits_2 ?_
  refine zb_iconst X (0 : Int32) dX11_findWaits_5 (by decide) ?_
  refine zb_istore_n X (lv' := [(1, .int (0 : Int32)), (0, .ref (ad 0))]) dX11_findWaits_6 rfl (by decide) rfl ?_
  refine zb_sub [1, 0] rfl ?_
  exact hK7 (0 : Int32) (up2 al 0 28 (0 : Int32)) h
set_option maxRecDepth 20000 in
theorem tX11_findWaits_7 {G : zG} {Z : zC}  {ad ln : Nat → Nat} (X : zX G Z cX11_findWaits 4 RX11 wsX11_findWaits) {K7 : Int32 → (Nat → Nat → Int32) → Prop} {K17 : Int32 → Int32 → (Nat → Nat → Int32) → Prop} {post : (Nat → Nat → Int32) → Prop} (hR : zRv G Z rmX11_findWaits 4 zTR ad ln cX11_findWaits post) (hK7 : ∀ x1 : Int32, ∀ al, K7 x1 al → zB G Z rmX11_findWaits 4 zTR ad ln 0 0 7 [(0, .ref (ad 0)), (1, .int x1)] [] al) (hK17 : ∀ x1 x2 : Int32, ∀ al, K17 x1 x2 al → zB G Z rmX11_findWaits 4 zTR ad ln 0 0 17 [(0, .ref (ad 0)), (1, .int x1), (2, .int x2)] [] al) (x1 : Int32) (al : Nat → Nat → Int32) (h : vcX11_findWaits_7 G  ad ln K7 K17 post x1 al) : zB G Z rmX11_findWaits 4 zTR ad ln 0 0 7 [(0, .ref (ad 0)), (1, .int x1)] [] al := by
  unfold vcX11_findWaits_7 at h
  refine zb_iload_n X dX11_findWaits_7 rfl 1 rfl ?_
  refine zb_aload_n X dX11_findWaits_8 rfl 0 rfl ?_
  refine zb_getI X 0 (by decide) 11 [3, 4, 5, 6, 7, 8, 9, 10, 11, 0, 12, 0, 0, 0, 0, 0, 0, 0, 0, 0, 0, 0, 0, 13, 14, 15, 16, 17, 0, 18, 19, 20, 21, 0, 0, 0, 22, 23, 24, 25, 0, 0, 26, 27, 28, 29, 0, 0, 0, 30, 0] rfl (C := RX11) (Tt := TX11) (N := 51) rfl kX11_findWaits_1 9 (by decide) rfl kX11_findWaits_2 rfl dX11_findWaits_9 (al 0 9) rfl ?_
  refine zb_icmp_ge X 179 dX11_findWaits_12 (by decide) (fun c1 => ?_) (fun c1 => ?_)
  · have h := h.1 c1
    exact hR 179 _ _ dX11_findWaits_179 h
  · have h := h.2 c1
    refine zb_iconst X (0 : Int32) dX11_findWaits_15 (by decide) ?_
    refine zb_istore_n X (lv' := [(2, .int (0 : Int32)), (0, .ref (ad 0)), (1, .int x1)]) dX11_findWaits_16 rfl (by decide) rfl ?_
    refine zb_sub [1, 2, 0] rfl ?_
    exact hK17 x1 (0 : Int32) al h
set_option maxRecDepth 20000 in
theorem tX11_findWaits_167 {G : zG} {Z : zC}  {ad ln : Nat → Nat} (X : zX G Z cX11_findWaits 4 RX11 wsX11_findWaits) {K7 : Int32 → (Nat → Nat → Int32) → Prop} {K17 : Int32 → Int32 → (Nat → Nat → Int32) → Prop} {post : (Nat → Nat → Int32) → Prop} (hR : zRv G Z rmX11_findWaits 4 zTR ad ln cX11_findWaits post) (hK7 : ∀ x1 : Int32, ∀ al, K7 x1 al → zB G Z rmX11_findWaits 4 zTR ad ln 0 0 7 [(0, .ref (ad 0)), (1, .int x1)] [] al) (hK17 : ∀ x1 x2 : Int32, ∀ al, K17 x1 x2 al → zB G Z rmX11_findWaits 4 zTR ad ln 0 0 17 [(0, .ref (ad 0)), (1, .int x1), (2, .int x2)] [] al) (x1 x2 : Int32) (al : Nat → Nat → Int32) (h : vcX11_findWaits_167 G  ad ln K7 K17 post x1 x2 al) : zB G Z rmX11_findWaits 4 zTR ad ln 0 0 167 [(0, .ref (ad 0)), (1, .int x1), (2, .int x2)] [] al := by
  unfold vcX11_findWaits_167 at h
  refine zb_iinc X (lv' := [(2, .int (x2 + (1 : Int32))), (0, .ref (ad 0)), (1, .int x1)]) (x2 + (1 : Int32)) dX11_findWaits_167 2 rfl rfl (by decide) rfl ?_
  refine zb_goto X 17 dX11_findWaits_170 (by decide) ?_
  refine zb_sub [1, 2, 0] rfl ?_
  exact hK17 x1 (x2 + (1 : Int32)) al h
set_option maxRecDepth 20000 in
theorem tX11_findWaits_164 {G : zG} {Z : zC}  {ad ln : Nat → Nat} (X : zX G Z cX11_findWaits 4 RX11 wsX11_findWaits) {K7 : Int32 → (Nat → Nat → Int32) → Prop} {K17 : Int32 → Int32 → (Nat → Nat → Int32) → Prop} {post : (Nat → Nat → Int32) → Prop} (hR : zRv G Z rmX11_findWaits 4 zTR ad ln cX11_findWaits post) (hK7 : ∀ x1 : Int32, ∀ al, K7 x1 al → zB G Z rmX11_findWaits 4 zTR ad ln 0 0 7 [(0, .ref (ad 0)), (1, .int x1)] [] al) (hK17 : ∀ x1 x2 : Int32, ∀ al, K17 x1 x2 al → zB G Z rmX11_findWaits 4 zTR ad ln 0 0 17 [(0, .ref (ad 0)), (1, .int x1), (2, .int x2)] [] al) (x1 x2 s0 s1 s2 s3 : Int32) (al : Nat → Nat → Int32) (h : vcX11_findWaits_164 G  ad ln K7 K17 post x1 x2 s0 s1 s2 s3 al) : zB G Z rmX11_findWaits 4 zTR ad ln 0 0 164 [(0, .ref (ad 0)), (1, .int x1), (2, .int x2)] [.int s0, .int s1, .int s2, .int s3, .ref (ad 0)] al := by
  unfold vcX11_findWaits_164 at h
  refine zb_callVv (n := 4) X 0 (by decide) 11 [3, 4, 5, 6, 7, 8, 9, 10, 11, 0, 12, 0, 0, 0, 0, 0, 0, 0, 0, 0, 0, 0, 0, 13, 14, 15, 16, 17, 0, 18, 19, 20, 21, 0, 0, 0, 22, 23, 24, 25, 0, 0, 26, 27, 28, 29, 0, 0, 0, 30, 0] rfl (C := RX11) (Tt := TX11) (N := 51) rfl h gX11_findWaits_X11_wait rfl (by decide +kernel) (by decide) rfl rfl (Nat.le_of_ble_eq_true rfl) dX11_findWaits_164 (kc' := 0) (ks' := 0) rfl rfl (fun a1 h => ?_)
  refine zb_sub [0, 1, 2] rfl ?_
  exact tX11_findWaits_167 X hR hK7 hK17 x1 x2 a1 h
set_option maxRecDepth 20000 in
theorem tX11_findWaits_114 {G : zG} {Z : zC}  {ad ln : Nat → Nat} (X : zX G Z cX11_findWaits 4 RX11 wsX11_findWaits) {K7 : Int32 → (Nat → Nat → Int32) → Prop} {K17 : Int32 → Int32 → (Nat → Nat → Int32) → Prop} {post : (Nat → Nat → Int32) → Prop} (hR : zRv G Z rmX11_findWaits 4 zTR ad ln cX11_findWaits post) (hK7 : ∀ x1 : Int32, ∀ al, K7 x1 al → zB G Z rmX11_findWaits 4 zTR ad ln 0 0 7 [(0, .ref (ad 0)), (1, .int x1)] [] al) (hK17 : ∀ x1 x2 : Int32, ∀ al, K17 x1 x2 al → zB G Z rmX11_findWaits 4 zTR ad ln 0 0 17 [(0, .ref (ad 0)), (1, .int x1), (2, .int x2)] [] al) (x1 x2 : Int32) (al : Nat → Nat → Int32) (h : vcX11_findWaits_114 G  ad ln K7 K17 post x1 x2 al) : zB G Z rmX11_findWaits 4 zTR ad ln 0 0 114 [(0, .ref (ad 0)), (1, .int x1), (2, .int x2)] [] al := by
  unfold vcX11_findWaits_114 at h
  refine zb_aload_n X dX11_findWaits_114 rfl 0 rfl ?_
  refine zb_iload_n X dX11_findWaits_115 rfl 1 rfl ?_
  refine zb_iload_n X dX11_findWaits_116 rfl 2 rfl ?_
  refine zb_callVi (n := 2) X 0 (by decide) 11 [3, 4, 5, 6, 7, 8, 9, 10, 11, 0, 12, 0, 0, 0, 0, 0, 0, 0, 0, 0, 0, 0, 0, 13, 14, 15, 16, 17, 0, 18, 19, 20, 21, 0, 0, 0, 22, 23, 24, 25, 0, 0, 26, 27, 28, 29, 0, 0, 0, 30, 0] rfl (C := RX11) (Tt := TX11) (N := 51) rfl h gX11_findWaits_X11_sameOver rfl (by decide +kernel) (by decide) rfl rfl (Nat.le_of_ble_eq_true rfl) dX11_findWaits_117 (kc' := 0) (ks' := 0) rfl rfl (fun q1 a1 h => ?_)
  refine zb_istore_n X (lv' := [(3, .int q1), (0, .ref (ad 0)), (1, .int x1), (2, .int x2)]) dX11_findWaits_120 rfl (by decide) rfl ?_
  refine zb_iload_n X dX11_findWaits_121 rfl 0 rfl ?_
  refine zb_if_lt X 167 dX11_findWaits_122 (by decide) (fun c2 => ?_) (fun c2 => ?_)
  · have h := h.1 c2
    refine zb_sub [1, 2, 3] rfl ?_
    exact tX11_findWaits_167 X hR hK7 hK17 x1 x2 a1 h
  · have h := h.2 c2
    refine zb_aload_n X dX11_findWaits_125 rfl 1 rfl ?_
    refine zb_iload_n X dX11_findWaits_126 rfl 2 rfl ?_
    refine zb_iload_n X dX11_findWaits_127 rfl 3 rfl ?_
    refine zb_iload_n X dX11_findWaits_128 rfl 0 rfl ?_
    refine zb_aload_n X dX11_findWaits_129 rfl 1 rfl ?_
    refine zb_getR X 0 (by decide) 11 [3, 4, 5, 6, 7, 8, 9, 10, 11, 0, 12, 0, 0, 0, 0, 0, 0, 0, 0, 0, 0, 0, 0, 13, 14, 15, 16, 17, 0, 18, 19, 20, 21, 0, 0, 0, 22, 23, 24, 25, 0, 0, 26, 27, 28, 29, 0, 0, 0, 30, 0] rfl (C := RX11) (Tt := TX11) (N := 51) rfl kX11_findWaits_1 0 (by decide) 1 rfl kX11_findWaits_5 rfl dX11_findWaits_130 ?_
    refine zb_iload_n X dX11_findWaits_133 rfl 2 rfl ?_
    obtain ⟨hz, h⟩ := h
    refine zb_iald X 1 (by decide) 1 49 0 0 rfl (Or.inl rfl) x1.toNatClampNeg rfl hz dX11_findWaits_134 (a1 1 x1.toNatClampNeg) rfl ?_
    refine zb_bipush X (12 : Int32) dX11_findWaits_135 (by decide) ?_
    refine zb_icmp_ne X 163 dX11_findWaits_137 (by decide) (fun c3 => ?_) (fun c3 => ?_)
    · have h := h.1 c3
      refine zb_iconst X (0 : Int32) dX11_findWaits_163 (by decide) ?_
      refine zb_sub [1, 2, 3] rfl ?_
      exact tX11_findWaits_164 X hR hK7 hK17 x1 x2 (0 : Int32) q1 x2 x1 a1 h
    · have h := h.2 c3
      refine zb_aload_n X dX11_findWaits_140 rfl 1 rfl ?_
      refine zb_getR X 0 (by decide) 11 [3, 4, 5, 6, 7, 8, 9, 10, 11, 0, 12, 0, 0, 0, 0, 0, 0, 0, 0, 0, 0, 0, 0, 13, 14, 15, 16, 17, 0, 18, 19, 20, 21, 0, 0, 0, 22, 23, 24, 25, 0, 0, 26, 27, 28, 29, 0, 0, 0, 30, 0] rfl (C := RX11) (Tt := TX11) (N := 51) rfl kX11_findWaits_1 0 (by decide) 1 rfl kX11_findWaits_5 rfl dX11_findWaits_141 ?_
      refine zb_iload_n X dX11_findWaits_144 rfl 3 rfl ?_
      obtain ⟨hz, h⟩ := h
      refine zb_iald X 1 (by decide) 1 49 0 0 rfl (Or.inl rfl) x2.toNatClampNeg rfl hz dX11_findWaits_145 (a1 1 x2.toNatClampNeg) rfl ?_
      refine zb_bipush X (12 : Int32) dX11_findWaits_146 (by decide) ?_
      refine zb_icmp_ne X 155 dX11_findWaits_148 (by decide) (fun c4 => ?_) (fun c4 => ?_)
      · have h := h.1 c4
        refine zb_aload_n X dX11_findWaits_155 rfl 1 rfl ?_
        refine zb_iload_n X dX11_findWaits_156 rfl 2 rfl ?_
        refine zb_callVi (n := 1) X 0 (by decide) 11 [3, 4, 5, 6, 7, 8, 9, 10, 11, 0, 12, 0, 0, 0, 0, 0, 0, 0, 0, 0, 0, 0, 0, 13, 14, 15, 16, 17, 0, 18, 19, 20, 21, 0, 0, 0, 22, 23, 24, 25, 0, 0, 26, 27, 28, 29, 0, 0, 0, 30, 0] rfl (C := RX11) (Tt := TX11) (N := 51) rfl h gX11_findWaits_X11_time rfl (by decide +kernel) (by decide) rfl rfl (Nat.le_of_ble_eq_true rfl) dX11_findWaits_157 (kc' := 0) (ks' := 0) rfl rfl (fun q5 a5 h => ?_)
        refine zb_goto X 164 dX11_findWaits_160 (by decide) ?_
        refine zb_sub [1, 2, 3] rfl ?_
        exact tX11_findWaits_164 X hR hK7 hK17 x1 x2 q5 q1 x2 x1 a5 h
      · have h := h.2 c4
        refine zb_iconst X (1 : Int32) dX11_findWaits_151 (by decide) ?_
        refine zb_goto X 164 dX11_findWaits_152 (by decide) ?_
        refine zb_sub [1, 2, 3] rfl ?_
        exact tX11_findWaits_164 X hR hK7 hK17 x1 x2 (1 : Int32) q1 x2 x1 a1 h
set_option maxRecDepth 20000 in
theorem tX11_findWaits_65 {G : zG} {Z : zC}  {ad ln : Nat → Nat} (X : zX G Z cX11_findWaits 4 RX11 wsX11_findWaits) {K7 : Int32 → (Nat → Nat → Int32) → Prop} {K17 : Int32 → Int32 → (Nat → Nat → Int32) → Prop} {post : (Nat → Nat → Int32) → Prop} (hR : zRv G Z rmX11_findWaits 4 zTR ad ln cX11_findWaits post) (hK7 : ∀ x1 : Int32, ∀ al, K7 x1 al → zB G Z rmX11_findWaits 4 zTR ad ln 0 0 7 [(0, .ref (ad 0)), (1, .int x1)] [] al) (hK17 : ∀ x1 x2 : Int32, ∀ al, K17 x1 x2 al → zB G Z rmX11_findWaits 4 zTR ad ln 0 0 17 [(0, .ref (ad 0)), (1, .int x1), (2, .int x2)] [] al) (x1 x2 : Int32) (al : Nat → Nat → Int32) (h : vcX11_findWaits_65 G  ad ln K7 K17 post x1 x2 al) : zB G Z rmX11_findWaits 4 zTR ad ln 0 0 65 [(0, .ref (ad 0)), (1, .int x1), (2, .int x2)] [] al := by
  unfold vcX11_findWaits_65 at h
  refine zb_aload_n X dX11_findWaits_65 rfl 0 rfl ?_
  refine zb_getR X 0 (by decide) 11 [3, 4, 5, 6, 7, 8, 9, 10, 11, 0, 12, 0, 0, 0, 0, 0, 0, 0, 0, 0, 0, 0, 0, 13, 14, 15, 16, 17, 0, 18, 19, 20, 21, 0, 0, 0, 22, 23, 24, 25, 0, 0, 26, 27, 28, 29, 0, 0, 0, 30, 0] rfl (C := RX11) (Tt := TX11) (N := 51) rfl kX11_findWaits_1 2 (by decide) 3 rfl kX11_findWaits_4 rfl dX11_findWaits_66 ?_
  refine zb_iload_n X dX11_findWaits_69 rfl 1 rfl ?_
  obtain ⟨hz, h⟩ := h
  refine zb_iald X 3 (by decide) 1 49 0 0 rfl (Or.inl rfl) x1.toNatClampNeg rfl hz dX11_findWaits_70 (al 3 x1.toNatClampNeg) rfl ?_
  refine zb_if_lt X 167 dX11_findWaits_71 (by decide) (fun c1 => ?_) (fun c1 => ?_)
  · have h := h.1 c1
    refine zb_sub [0, 1, 2] rfl ?_
    exact tX11_findWaits_167 X hR hK7 hK17 x1 x2 al h
  · have h := h.2 c1
    refine zb_aload_n X dX11_findWaits_74 rfl 0 rfl ?_
    refine zb_getR X 0 (by decide) 11 [3, 4, 5, 6, 7, 8, 9, 10, 11, 0, 12, 0, 0, 0, 0, 0, 0, 0, 0, 0, 0, 0, 0, 13, 14, 15, 16, 17, 0, 18, 19, 20, 21, 0, 0, 0, 22, 23, 24, 25, 0, 0, 26, 27, 28, 29, 0, 0, 0, 30, 0] rfl (C := RX11) (Tt := TX11) (N := 51) rfl kX11_findWaits_1 2 (by decide) 3 rfl kX11_findWaits_4 rfl dX11_findWaits_75 ?_
    refine zb_iload_n X dX11_findWaits_78 rfl 1 rfl ?_
    obtain ⟨hz, h⟩ := h
    refine zb_iald X 3 (by decide) 1 49 0 0 rfl (Or.inl rfl) x1.toNatClampNeg rfl hz dX11_findWaits_79 (al 3 x1.toNatClampNeg) rfl ?_
    refine zb_aload_n X dX11_findWaits_80 rfl 0 rfl ?_
    refine zb_getR X 0 (by decide) 11 [3, 4, 5, 6, 7, 8, 9, 10, 11, 0, 12, 0, 0, 0, 0, 0, 0, 0, 0, 0, 0, 0, 0, 13, 14, 15, 16, 17, 0, 18, 19, 20, 21, 0, 0, 0, 22, 23, 24, 25, 0, 0, 26, 27, 28, 29, 0, 0, 0, 30, 0] rfl (C := RX11) (Tt := TX11) (N := 51) rfl kX11_findWaits_1 2 (by decide) 3 rfl kX11_findWaits_4 rfl dX11_findWaits_81 ?_
    refine zb_iload_n X dX11_findWaits_84 rfl 2 rfl ?_
    obtain ⟨hz, h⟩ := h
    refine zb_iald X 3 (by decide) 1 49 0 0 rfl (Or.inl rfl) x2.toNatClampNeg rfl hz dX11_findWaits_85 (al 3 x2.toNatClampNeg) rfl ?_
    refine zb_icmp_ne X 167 dX11_findWaits_86 (by decide) (fun c2 => ?_) (fun c2 => ?_)
    · have h := h.1 c2
      refine zb_sub [0, 1, 2] rfl ?_
      exact tX11_findWaits_167 X hR hK7 hK17 x1 x2 al h
    · have h := h.2 c2
      refine zb_aload_n X dX11_findWaits_89 rfl 0 rfl ?_
      refine zb_getR X 0 (by decide) 11 [3, 4, 5, 6, 7, 8, 9, 10, 11, 0, 12, 0, 0, 0, 0, 0, 0, 0, 0, 0, 0, 0, 0, 13, 14, 15, 16, 17, 0, 18, 19, 20, 21, 0, 0, 0, 22, 23, 24, 25, 0, 0, 26, 27, 28, 29, 0, 0, 0, 30, 0] rfl (C := RX11) (Tt := TX11) (N := 51) rfl kX11_findWaits_1 0 (by decide) 1 rfl kX11_findWaits_5 rfl dX11_findWaits_90 ?_
      refine zb_iload_n X dX11_findWaits_93 rfl 1 rfl ?_
      obtain ⟨hz, h⟩ := h
      refine zb_iald X 1 (by decide) 1 49 0 0 rfl (Or.inl rfl) x1.toNatClampNeg rfl hz dX11_findWaits_94 (al 1 x1.toNatClampNeg) rfl ?_
      refine zb_bipush X (11 : Int32) dX11_findWaits_95 (by decide) ?_
      refine zb_icmp_ne X 114 dX11_findWaits_97 (by decide) (fun c3 => ?_) (fun c3 => ?_)
      · have h := h.1 c3
        refine zb_sub [0, 1, 2] rfl ?_
        exact tX11_findWaits_114 X hR hK7 hK17 x1 x2 al h
      · have h := h.2 c3
        refine zb_aload_n X dX11_findWaits_100 rfl 0 rfl ?_
        refine zb_getR X 0 (by decide) 11 [3, 4, 5, 6, 7, 8, 9, 10, 11, 0, 12, 0, 0, 0, 0, 0, 0, 0, 0, 0, 0, 0, 0, 13, 14, 15, 16, 17, 0, 18, 19, 20, 21, 0, 0, 0, 22, 23, 24, 25, 0, 0, 26, 27, 28, 29, 0, 0, 0, 30, 0] rfl (C := RX11) (Tt := TX11) (N := 51) rfl kX11_findWaits_1 0 (by decide) 1 rfl kX11_findWaits_5 rfl dX11_findWaits_101 ?_
        refine zb_iload_n X dX11_findWaits_104 rfl 2 rfl ?_
        obtain ⟨hz, h⟩ := h
        refine zb_iald X 1 (by decide) 1 49 0 0 rfl (Or.inl rfl) x2.toNatClampNeg rfl hz dX11_findWaits_105 (al 1 x2.toNatClampNeg) rfl ?_
        refine zb_bipush X (11 : Int32) dX11_findWaits_106 (by decide) ?_
        refine zb_icmp_ne X 114 dX11_findWaits_108 (by decide) (fun c4 => ?_) (fun c4 => ?_)
        · have h := h.1 c4
          refine zb_sub [0, 1, 2] rfl ?_
          exact tX11_findWaits_114 X hR hK7 hK17 x1 x2 al h
        · have h := h.2 c4
          refine zb_goto X 167 dX11_findWaits_111 (by decide) ?_
          refine zb_sub [0, 1, 2] rfl ?_
          exact tX11_findWaits_167 X hR hK7 hK17 x1 x2 al h
set_option maxRecDepth 20000 in
theorem tX11_findWaits_17 {G : zG} {Z : zC}  {ad ln : Nat → Nat} (X : zX G Z cX11_findWaits 4 RX11 wsX11_findWaits) {K7 : Int32 → (Nat → Nat → Int32) → Prop} {K17 : Int32 → Int32 → (Nat → Nat → Int32) → Prop} {post : (Nat → Nat → Int32) → Prop} (hR : zRv G Z rmX11_findWaits 4 zTR ad ln cX11_findWaits post) (hK7 : ∀ x1 : Int32, ∀ al, K7 x1 al → zB G Z rmX11_findWaits 4 zTR ad ln 0 0 7 [(0, .ref (ad 0)), (1, .int x1)] [] al) (hK17 : ∀ x1 x2 : Int32, ∀ al, K17 x1 x2 al → zB G Z rmX11_findWaits 4 zTR ad ln 0 0 17 [(0, .ref (ad 0)), (1, .int x1), (2, .int x2)] [] al) (x1 x2 : Int32) (al : Nat → Nat → Int32) (h : vcX11_findWaits_17 G  ad ln K7 K17 post x1 x2 al) : zB G Z rmX11_findWaits 4 zTR ad ln 0 0 17 [(0, .ref (ad 0)), (1, .int x1), (2, .int x2)] [] al := by
  unfold vcX11_findWaits_17 at h
  refine zb_iload_n X dX11_findWaits_17 rfl 2 rfl ?_
  refine zb_aload_n X dX11_findWaits_18 rfl 0 rfl ?_
  refine zb_getI X 0 (by decide) 11 [3, 4, 5, 6, 7, 8, 9, 10, 11, 0, 12, 0, 0, 0, 0, 0, 0, 0, 0, 0, 0, 0, 0, 13, 14, 15, 16, 17, 0, 18, 19, 20, 21, 0, 0, 0, 22, 23, 24, 25, 0, 0, 26, 27, 28, 29, 0, 0, 0, 30, 0] rfl (C := RX11) (Tt := TX11) (N := 51) rfl kX11_findWaits_1 9 (by decide) rfl kX11_findWaits_2 rfl dX11_findWaits_19 (al 0 9) rfl ?_
  refine zb_icmp_ge X 173 dX11_findWaits_22 (by decide) (fun c1 => ?_) (fun c1 => ?_)
  · have h := h.1 c1
    refine zb_iinc X (lv' := [(1, .int (x1 + (1 : Int32))), (0, .ref (ad 0)), (2, .int x2)]) (x1 + (1 : Int32)) dX11_findWaits_173 1 rfl rfl (by decide) rfl ?_
    refine zb_goto X 7 dX11_findWaits_176 (by decide) ?_
    refine zb_sub [1, 0] rfl ?_
    exact hK7 (x1 + (1 : Int32)) al h
  · have h := h.2 c1
    refine zb_aload_n X dX11_findWaits_25 rfl 0 rfl ?_
    refine zb_getR X 0 (by decide) 11 [3, 4, 5, 6, 7, 8, 9, 10, 11, 0, 12, 0, 0, 0, 0, 0, 0, 0, 0, 0, 0, 0, 0, 13, 14, 15, 16, 17, 0, 18, 19, 20, 21, 0, 0, 0, 22, 23, 24, 25, 0, 0, 26, 27, 28, 29, 0, 0, 0, 30, 0] rfl (C := RX11) (Tt := TX11) (N := 51) rfl kX11_findWaits_1 1 (by decide) 2 rfl kX11_findWaits_3 rfl dX11_findWaits_26 ?_
    refine zb_iload_n X dX11_findWaits_29 rfl 1 rfl ?_
    obtain ⟨hz, h⟩ := h
    refine zb_iald X 2 (by decide) 1 49 0 0 rfl (Or.inl rfl) x1.toNatClampNeg rfl hz dX11_findWaits_30 (al 2 x1.toNatClampNeg) rfl ?_
    refine zb_if_lt X 65 dX11_findWaits_31 (by decide) (fun c2 => ?_) (fun c2 => ?_)
    · have h := h.1 c2
      refine zb_sub [0, 1, 2] rfl ?_
      exact tX11_findWaits_65 X hR hK7 hK17 x1 x2 al h
    · have h := h.2 c2
      refine zb_aload_n X dX11_findWaits_34 rfl 0 rfl ?_
      refine zb_iload_n X dX11_findWaits_35 rfl 2 rfl ?_
      refine zb_aload_n X dX11_findWaits_36 rfl 0 rfl ?_
      refine zb_getR X 0 (by decide) 11 [3, 4, 5, 6, 7, 8, 9, 10, 11, 0, 12, 0, 0, 0, 0, 0, 0, 0, 0, 0, 0, 0, 0, 13, 14, 15, 16, 17, 0, 18, 19, 20, 21, 0, 0, 0, 22, 23, 24, 25, 0, 0, 26, 27, 28, 29, 0, 0, 0, 30, 0] rfl (C := RX11) (Tt := TX11) (N := 51) rfl kX11_findWaits_1 1 (by decide) 2 rfl kX11_findWaits_3 rfl dX11_findWaits_37 ?_
      refine zb_iload_n X dX11_findWaits_40 rfl 1 rfl ?_
      obtain ⟨hz, h⟩ := h
      refine zb_iald X 2 (by decide) 1 49 0 0 rfl (Or.inl rfl) x1.toNatClampNeg rfl hz dX11_findWaits_41 (al 2 x1.toNatClampNeg) rfl ?_
      refine zb_callVi (n := 2) X 0 (by decide) 11 [3, 4, 5, 6, 7, 8, 9, 10, 11, 0, 12, 0, 0, 0, 0, 0, 0, 0, 0, 0, 0, 0, 0, 13, 14, 15, 16, 17, 0, 18, 19, 20, 21, 0, 0, 0, 22, 23, 24, 25, 0, 0, 26, 27, 28, 29, 0, 0, 0, 30, 0] rfl (C := RX11) (Tt := TX11) (N := 51) rfl h gX11_findWaits_X11_uses rfl (by decide +kernel) (by decide) rfl rfl (Nat.le_of_ble_eq_true rfl) dX11_findWaits_42 (kc' := 0) (ks' := 0) rfl rfl (fun q3 a3 h => ?_)
      refine zb_if_eq X 65 dX11_findWaits_45 (by decide) (fun c4 => ?_) (fun c4 => ?_)
      · have h := h.1 c4
        refine zb_sub [0, 1, 2] rfl ?_
        exact tX11_findWaits_65 X hR hK7 hK17 x1 x2 a3 h
      · have h := h.2 c4
        refine zb_aload_n X dX11_findWaits_48 rfl 0 rfl ?_
        refine zb_iload_n X dX11_findWaits_49 rfl 1 rfl ?_
        refine zb_iload_n X dX11_findWaits_50 rfl 2 rfl ?_
        refine zb_aload_n X dX11_findWaits_51 rfl 0 rfl ?_
        refine zb_iload_n X dX11_findWaits_52 rfl 1 rfl ?_
        refine zb_iload_n X dX11_findWaits_53 rfl 2 rfl ?_
        refine zb_callVi (n := 2) X 0 (by decide) 11 [3, 4, 5, 6, 7, 8, 9, 10, 11, 0, 12, 0, 0, 0, 0, 0, 0, 0, 0, 0, 0, 0, 0, 13, 14, 15, 16, 17, 0, 18, 19, 20, 21, 0, 0, 0, 22, 23, 24, 25, 0, 0, 26, 27, 28, 29, 0, 0, 0, 30, 0] rfl (C := RX11) (Tt := TX11) (N := 51) rfl h gX11_findWaits_X11_useOver rfl (by decide +kernel) (by decide) rfl rfl (Nat.le_of_ble_eq_true rfl) dX11_findWaits_54 (kc' := 0) (ks' := 0) rfl rfl (fun q5 a5 h => ?_)
        refine zb_aload_n X dX11_findWaits_57 rfl 0 rfl ?_
        refine zb_iload_n X dX11_findWaits_58 rfl 1 rfl ?_
        refine zb_callVi (n := 1) X 0 (by decide) 11 [3, 4, 5, 6, 7, 8, 9, 10, 11, 0, 12, 0, 0, 0, 0, 0, 0, 0, 0, 0, 0, 0, 0, 13, 14, 15, 16, 17, 0, 18, 19, 20, 21, 0, 0, 0, 22, 23, 24, 25, 0, 0, 26, 27, 28, 29, 0, 0, 0, 30, 0] rfl (C := RX11) (Tt := TX11) (N := 51) rfl h gX11_findWaits_X11_time rfl (by decide +kernel) (by decide) rfl rfl (Nat.le_of_ble_eq_true rfl) dX11_findWaits_59 (kc' := 0) (ks' := 0) rfl rfl (fun q6 a6 h => ?_)
        refine zb_callVv (n := 4) X 0 (by decide) 11 [3, 4, 5, 6, 7, 8, 9, 10, 11, 0, 12, 0, 0, 0, 0, 0, 0, 0, 0, 0, 0, 0, 0, 13, 14, 15, 16, 17, 0, 18, 19, 20, 21, 0, 0, 0, 22, 23, 24, 25, 0, 0, 26, 27, 28, 29, 0, 0, 0, 30, 0] rfl (C := RX11) (Tt := TX11) (N := 51) rfl h gX11_findWaits_X11_wait rfl (by decide +kernel) (by decide) rfl rfl (Nat.le_of_ble_eq_true rfl) dX11_findWaits_62 (kc' := 0) (ks' := 0) rfl rfl (fun a7 h => ?_)
        refine zb_sub [0, 1, 2] rfl ?_
        exact tX11_findWaits_65 X hR hK7 hK17 x1 x2 a7 h
theorem uX11_findWaits_0 {G : zG} {Z : zC}  {ad ln : Nat → Nat} (X : zX G Z cX11_findWaits 4 RX11 wsX11_findWaits) {post : (Nat → Nat → Int32) → Prop} (hR : zRv G Z rmX11_findWaits 4 zTR ad ln cX11_findWaits post) (al : Nat → Nat → Int32) (h : vcX11_findWaits_0 G  ad ln (BX11_findWaits_7 G Z  ad ln) (BX11_findWaits_17 G Z  ad ln) post  al) : zB G Z rmX11_findWaits 4 zTR ad ln 0 0 0 [(0, .ref (ad 0))] [] al := tX11_findWaits_0 X hR (fun _ _ h => h) (fun _ _ _ h => h)  al h
theorem uX11_findWaits_7 {G : zG} {Z : zC}  {ad ln : Nat → Nat} (X : zX G Z cX11_findWaits 4 RX11 wsX11_findWaits) {post : (Nat → Nat → Int32) → Prop} (hR : zRv G Z rmX11_findWaits 4 zTR ad ln cX11_findWaits post) (x1 : Int32) (al : Nat → Nat → Int32) (h : vcX11_findWaits_7 G  ad ln (BX11_findWaits_7 G Z  ad ln) (BX11_findWaits_17 G Z  ad ln) post x1 al) : zB G Z rmX11_findWaits 4 zTR ad ln 0 0 7 [(0, .ref (ad 0)), (1, .int x1)] [] al := tX11_findWaits_7 X hR (fun _ _ h => h) (fun _ _ _ h => h) x1 al h
theorem uX11_findWaits_167 {G : zG} {Z : zC}  {ad ln : Nat → Nat} (X : zX G Z cX11_findWaits 4 RX11 wsX11_findWaits) {post : (Nat → Nat → Int32) → Prop} (hR : zRv G Z rmX11_findWaits 4 zTR ad ln cX11_findWaits post) (x1 x2 : Int32) (al : Nat → Nat → Int32) (h : vcX11_findWaits_167 G  ad ln (BX11_findWaits_7 G Z  ad ln) (BX11_findWaits_17 G Z  ad ln) post x1 x2 al) : zB G Z rmX11_findWaits 4 zTR ad ln 0 0 167 [(0, .ref (ad 0)), (1, .int x1), (2, .int x2)] [] al := tX11_findWaits_167 X hR (fun _ _ h => h) (fun _ _ _ h => h) x1 x2 al h
theorem uX11_findWaits_164 {G : zG} {Z : zC}  {ad ln : Nat → Nat} (X : zX G Z cX11_findWaits 4 RX11 wsX11_findWaits) {post : (Nat → Nat → Int32) → Prop} (hR : zRv G Z rmX11_findWaits 4 zTR ad ln cX11_findWaits post) (x1 x2 s0 s1 s2 s3 : Int32) (al : Nat → Nat → Int32) (h : vcX11_findWaits_164 G  ad ln (BX11_findWaits_7 G Z  ad ln) (BX11_findWaits_17 G Z  ad ln) post x1 x2 s0 s1 s2 s3 al) : zB G Z rmX11_findWaits 4 zTR ad ln 0 0 164 [(0, .ref (ad 0)), (1, .int x1), (2, .int x2)] [.int s0, .int s1, .int s2, .int s3, .ref (ad 0)] al := tX11_findWaits_164 X hR (fun _ _ h => h) (fun _ _ _ h => h) x1 x2 s0 s1 s2 s3 al h
theorem uX11_findWaits_114 {G : zG} {Z : zC}  {ad ln : Nat → Nat} (X : zX G Z cX11_findWaits 4 RX11 wsX11_findWaits) {post : (Nat → Nat → Int32) → Prop} (hR : zRv G Z rmX11_findWaits 4 zTR ad ln cX11_findWaits post) (x1 x2 : Int32) (al : Nat → Nat → Int32) (h : vcX11_findWaits_114 G  ad ln (BX11_findWaits_7 G Z  ad ln) (BX11_findWaits_17 G Z  ad ln) post x1 x2 al) : zB G Z rmX11_findWaits 4 zTR ad ln 0 0 114 [(0, .ref (ad 0)), (1, .int x1), (2, .int x2)] [] al := tX11_findWaits_114 X hR (fun _ _ h => h) (fun _ _ _ h => h) x1 x2 al h
theorem uX11_findWaits_65 {G : zG} {Z : zC}  {ad ln : Nat → Nat} (X : zX G Z cX11_findWaits 4 RX11 wsX11_findWaits) {post : (Nat → Nat → Int32) → Prop} (hR : zRv G Z rmX11_findWaits 4 zTR ad ln cX11_findWaits post) (x1 x2 : Int32) (al : Nat → Nat → Int32) (h : vcX11_findWaits_65 G  ad ln (BX11_findWaits_7 G Z  ad ln) (BX11_findWaits_17 G Z  ad ln) post x1 x2 al) : zB G Z rmX11_findWaits 4 zTR ad ln 0 0 65 [(0, .ref (ad 0)), (1, .int x1), (2, .int x2)] [] al := tX11_findWaits_65 X hR (fun _ _ h => h) (fun _ _ _ h => h) x1 x2 al h
theorem uX11_findWaits_17 {G : zG} {Z : zC}  {ad ln : Nat → Nat} (X : zX G Z cX11_findWaits 4 RX11 wsX11_findWaits) {post : (Nat → Nat → Int32) → Prop} (hR : zRv G Z rmX11_findWaits 4 zTR ad ln cX11_findWaits post) (x1 x2 : Int32) (al : Nat → Nat → Int32) (h : vcX11_findWaits_17 G  ad ln (BX11_findWaits_7 G Z  ad ln) (BX11_findWaits_17 G Z  ad ln) post x1 x2 al) : zB G Z rmX11_findWaits 4 zTR ad ln 0 0 17 [(0, .ref (ad 0)), (1, .int x1), (2, .int x2)] [] al := tX11_findWaits_17 X hR (fun _ _ h => h) (fun _ _ _ h => h) x1 x2 al h

abbrev rmX11_isIn : Room := { frames := 1, cells := 0, slots := 0, locals := 21 }
def vcX11_isIn_51 (G : zG)  (ad ln : Nat → Nat) (p1 : Int32) (p2 : Int32)  (post : Int32 → (Nat → Nat → Int32) → Prop) (s0 : Int32) (al : Nat → Nat → Int32) : Prop :=
  zOk .boolean s0 ∧ post s0 al
def vcX11_isIn_46 (G : zG)  (ad ln : Nat → Nat) (p1 : Int32) (p2 : Int32)  (post : Int32 → (Nat → Nat → Int32) → Prop) (al : Nat → Nat → Int32) : Prop :=
  vcX11_isIn_51 G  ad ln p1 p2  post (1 : Int32) al
def vcX11_isIn_50 (G : zG)  (ad ln : Nat → Nat) (p1 : Int32) (p2 : Int32)  (post : Int32 → (Nat → Nat → Int32) → Prop) (al : Nat → Nat → Int32) : Prop :=
  vcX11_isIn_51 G  ad ln p1 p2  post (0 : Int32) al
def vcX11_isIn_32 (G : zG)  (ad ln : Nat → Nat) (p1 : Int32) (p2 : Int32)  (post : Int32 → (Nat → Nat → Int32) → Prop) (al : Nat → Nat → Int32) : Prop :=
  (¬ p2 = (3 : Int32) → vcX11_isIn_50 G  ad ln p1 p2  post  al) ∧ (p2 = (3 : Int32) → zMi G yX11_kind wsX11_kind rmX11_kind zTR ad ln [.ref (ad 0), .int p1] al (fun q2 a2 => (¬ q2 = (1 : Int32) → vcX11_isIn_50 G  ad ln p1 p2  post  a2) ∧ (q2 = (1 : Int32) → vcX11_isIn_46 G  ad ln p1 p2  post  a2)))
def vcX11_isIn_18 (G : zG)  (ad ln : Nat → Nat) (p1 : Int32) (p2 : Int32)  (post : Int32 → (Nat → Nat → Int32) → Prop) (al : Nat → Nat → Int32) : Prop :=
  (¬ p2 = (2 : Int32) → vcX11_isIn_32 G  ad ln p1 p2  post  al) ∧ (p2 = (2 : Int32) → zMi G yX11_kind wsX11_kind rmX11_kind zTR ad ln [.ref (ad 0), .int p1] al (fun q2 a2 => ((2 : Int32) ≤ q2 → vcX11_isIn_46 G  ad ln p1 p2  post  a2) ∧ (¬ (2 : Int32) ≤ q2 → vcX11_isIn_32 G  ad ln p1 p2  post  a2)))
def vcX11_isIn_0 (G : zG)  (ad ln : Nat → Nat) (p1 : Int32) (p2 : Int32)  (post : Int32 → (Nat → Nat → Int32) → Prop) (al : Nat → Nat → Int32) : Prop :=
  (p2 = 0 → vcX11_isIn_46 G  ad ln p1 p2  post  al) ∧ (¬ p2 = 0 → (¬ p2 = (1 : Int32) → vcX11_isIn_18 G  ad ln p1 p2  post  al) ∧ (p2 = (1 : Int32) → zMi G yX11_kind wsX11_kind rmX11_kind zTR ad ln [.ref (ad 0), .int p1] al (fun q3 a3 => (q3 < (2 : Int32) → vcX11_isIn_46 G  ad ln p1 p2  post  a3) ∧ (¬ q3 < (2 : Int32) → vcX11_isIn_18 G  ad ln p1 p2  post  a3))))
set_option maxRecDepth 20000 in
theorem tX11_isIn_51 {G : zG} {Z : zC}  {ad ln : Nat → Nat} (X : zX G Z cX11_isIn 3 RX11 wsX11_isIn) (p1 : Int32) (p2 : Int32)  {post : Int32 → (Nat → Nat → Int32) → Prop} (hR : zRi G Z rmX11_isIn 3 zTR ad ln cX11_isIn .boolean post)  (s0 : Int32) (al : Nat → Nat → Int32) (h : vcX11_isIn_51 G  ad ln p1 p2  post s0 al) : zB G Z rmX11_isIn 3 zTR ad ln 0 0 51 [] [.int s0] al := by
  unfold vcX11_isIn_51 at h
  exact hR 51 _ _ _ dX11_isIn_51 h.1 h.2
set_option maxRecDepth 20000 in
theorem tX11_isIn_46 {G : zG} {Z : zC}  {ad ln : Nat → Nat} (X : zX G Z cX11_isIn 3 RX11 wsX11_isIn) (p1 : Int32) (p2 : Int32)  {post : Int32 → (Nat → Nat → Int32) → Prop} (hR : zRi G Z rmX11_isIn 3 zTR ad ln cX11_isIn .boolean post)  (al : Nat → Nat → Int32) (h : vcX11_isIn_46 G  ad ln p1 p2  post  al) : zB G Z rmX11_isIn 3 zTR ad ln 0 0 46 [] [] al := by
  unfold vcX11_isIn_46 at h
  refine zb_iconst X (1 : Int32) dX11_isIn_46 (by decide) ?_
  refine zb_goto X 51 dX11_isIn_47 (by decide) ?_
  refine zb_sub [] rfl ?_
  exact tX11_isIn_51 X p1 p2 hR  (1 : Int32) al h
set_option maxRecDepth 20000 in
theorem tX11_isIn_50 {G : zG} {Z : zC}  {ad ln : Nat → Nat} (X : zX G Z cX11_isIn 3 RX11 wsX11_isIn) (p1 : Int32) (p2 : Int32)  {post : Int32 → (Nat → Nat → Int32) → Prop} (hR : zRi G Z rmX11_isIn 3 zTR ad ln cX11_isIn .boolean post)  (al : Nat → Nat → Int32) (h : vcX11_isIn_50 G  ad ln p1 p2  post  al) : zB G Z rmX11_isIn 3 zTR ad ln 0 0 50 [] [] al := by
  unfold vcX11_isIn_50 at h
  refine zb_iconst X (0 : Int32) dX11_isIn_50 (by decide) ?_
  refine zb_sub [] rfl ?_
  exact tX11_isIn_51 X p1 p2 hR  (0 : Int32) al h
set_option maxRecDepth 20000 in
theorem tX11_isIn_32 {G : zG} {Z : zC}  {ad ln : Nat → Nat} (X : zX G Z cX11_isIn 3 RX11 wsX11_isIn) (p1 : Int32) (p2 : Int32)  {post : Int32 → (Nat → Nat → Int32) → Prop} (hR : zRi G Z rmX11_isIn 3 zTR ad ln cX11_isIn .boolean post)  (al : Nat → Nat → Int32) (h : vcX11_isIn_32 G  ad ln p1 p2  post  al) : zB G Z rmX11_isIn 3 zTR ad ln 0 0 32 [(0, .ref (ad 0)), (1, .int p1), (2, .int p2)] [] al := by
  unfold vcX11_isIn_32 at h
  refine zb_iload_n X dX11_isIn_32 rfl 2 rfl ?_
  refine zb_iconst X (3 : Int32) dX11_isIn_33 (by decide) ?_
  refine zb_icmp_ne X 50 dX11_isIn_34 (by decide) (fun c1 => ?_) (fun c1 => ?_)
  · have h := h.1 c1
    refine zb_sub [] rfl ?_
    exact tX11_isIn_50 X p1 p2 hR   al h
  · have h := h.2 c1
    refine zb_aload_n X dX11_isIn_37 rfl 0 rfl ?_
    refine zb_iload_n X dX11_isIn_38 rfl 1 rfl ?_
    refine zb_callVi (n := 1) X 0 (by decide) 11 [3, 4, 5, 6, 7, 8, 9, 10, 11, 0, 12, 0, 0, 0, 0, 0, 0, 0, 0, 0, 0, 0, 0, 13, 14, 15, 16, 17, 0, 18, 19, 20, 21, 0, 0, 0, 22, 23, 24, 25, 0, 0, 26, 27, 28, 29, 0, 0, 0, 30, 0] rfl (C := RX11) (Tt := TX11) (N := 51) rfl h gX11_isIn_X11_kind rfl (by decide +kernel) (by decide) rfl rfl (Nat.le_of_ble_eq_true rfl) dX11_isIn_39 (kc' := 0) (ks' := 0) rfl rfl (fun q2 a2 h => ?_)
    refine zb_iconst X (1 : Int32) dX11_isIn_42 (by decide) ?_
    refine zb_icmp_ne X 50 dX11_isIn_43 (by decide) (fun c3 => ?_) (fun c3 => ?_)
    · have h := h.1 c3
      refine zb_sub [] rfl ?_
      exact tX11_isIn_50 X p1 p2 hR   a2 h
    · have h := h.2 c3
      refine zb_sub [] rfl ?_
      exact tX11_isIn_46 X p1 p2 hR   a2 h
set_option maxRecDepth 20000 in
theorem tX11_isIn_18 {G : zG} {Z : zC}  {ad ln : Nat → Nat} (X : zX G Z cX11_isIn 3 RX11 wsX11_isIn) (p1 : Int32) (p2 : Int32)  {post : Int32 → (Nat → Nat → Int32) → Prop} (hR : zRi G Z rmX11_isIn 3 zTR ad ln cX11_isIn .boolean post)  (al : Nat → Nat → Int32) (h : vcX11_isIn_18 G  ad ln p1 p2  post  al) : zB G Z rmX11_isIn 3 zTR ad ln 0 0 18 [(0, .ref (ad 0)), (1, .int p1), (2, .int p2)] [] al := by
  unfold vcX11_isIn_18 at h
  refine zb_iload_n X dX11_isIn_18 rfl 2 rfl ?_
  refine zb_iconst X (2 : Int32) dX11_isIn_19 (by decide) ?_
  refine zb_icmp_ne X 32 dX11_isIn_20 (by decide) (fun c1 => ?_) (fun c1 => ?_)
  · have h := h.1 c1
    refine zb_sub [0, 1, 2] rfl ?_
    exact tX11_isIn_32 X p1 p2 hR   al h
  · have h := h.2 c1
    refine zb_aload_n X dX11_isIn_23 rfl 0 rfl ?_
    refine zb_iload_n X dX11_isIn_24 rfl 1 rfl ?_
    refine zb_callVi (n := 1) X 0 (by decide) 11 [3, 4, 5, 6, 7, 8, 9, 10, 11, 0, 12, 0, 0, 0, 0, 0, 0, 0, 0, 0, 0, 0, 0, 13, 14, 15, 16, 17, 0, 18, 19, 20, 21, 0, 0, 0, 22, 23, 24, 25, 0, 0, 26, 27, 28, 29, 0, 0, 0, 30, 0] rfl (C := RX11) (Tt := TX11) (N := 51) rfl h gX11_isIn_X11_kind rfl (by decide +kernel) (by decide) rfl rfl (Nat.le_of_ble_eq_true rfl) dX11_isIn_25 (kc' := 0) (ks' := 0) rfl rfl (fun q2 a2 h => ?_)
    refine zb_iconst X (2 : Int32) dX11_isIn_28 (by decide) ?_
    refine zb_icmp_ge X 46 dX11_isIn_29 (by decide) (fun c3 => ?_) (fun c3 => ?_)
    · have h := h.1 c3
      refine zb_sub [] rfl ?_
      exact tX11_isIn_46 X p1 p2 hR   a2 h
    · have h := h.2 c3
      refine zb_sub [0, 1, 2] rfl ?_
      exact tX11_isIn_32 X p1 p2 hR   a2 h
set_option maxRecDepth 20000 in
theorem tX11_isIn_0 {G : zG} {Z : zC}  {ad ln : Nat → Nat} (X : zX G Z cX11_isIn 3 RX11 wsX11_isIn) (p1 : Int32) (p2 : Int32)  {post : Int32 → (Nat → Nat → Int32) → Prop} (hR : zRi G Z rmX11_isIn 3 zTR ad ln cX11_isIn .boolean post)  (al : Nat → Nat → Int32) (h : vcX11_isIn_0 G  ad ln p1 p2  post  al) : zB G Z rmX11_isIn 3 zTR ad ln 0 0 0 [(0, .ref (ad 0)), (1, .int p1), (2, .int p2)] [] al := by
  unfold vcX11_isIn_0 at h
  refine zb_iload_n X dX11_isIn_0 rfl 2 rfl ?_
  refine zb_if_eq X 46 dX11_isIn_1 (by decide) (fun c1 => ?_) (fun c1 => ?_)
  · have h := h.1 c1
    refine zb_sub [] rfl ?_
    exact tX11_isIn_46 X p1 p2 hR   al h
  · have h := h.2 c1
    refine zb_iload_n X dX11_isIn_4 rfl 2 rfl ?_
    refine zb_iconst X (1 : Int32) dX11_isIn_5 (by decide) ?_
    refine zb_icmp_ne X 18 dX11_isIn_6 (by decide) (fun c2 => ?_) (fun c2 => ?_)
    · have h := h.1 c2
      refine zb_sub [0, 1, 2] rfl ?_
      exact tX11_isIn_18 X p1 p2 hR   al h
    · have h := h.2 c2
      refine zb_aload_n X dX11_isIn_9 rfl 0 rfl ?_
      refine zb_iload_n X dX11_isIn_10 rfl 1 rfl ?_
      refine zb_callVi (n := 1) X 0 (by decide) 11 [3, 4, 5, 6, 7, 8, 9, 10, 11, 0, 12, 0, 0, 0, 0, 0, 0, 0, 0, 0, 0, 0, 0, 13, 14, 15, 16, 17, 0, 18, 19, 20, 21, 0, 0, 0, 22, 23, 24, 25, 0, 0, 26, 27, 28, 29, 0, 0, 0, 30, 0] rfl (C := RX11) (Tt := TX11) (N := 51) rfl h gX11_isIn_X11_kind rfl (by decide +kernel) (by decide) rfl rfl (Nat.le_of_ble_eq_true rfl) dX11_isIn_11 (kc' := 0) (ks' := 0) rfl rfl (fun q3 a3 h => ?_)
      refine zb_iconst X (2 : Int32) dX11_isIn_14 (by decide) ?_
      refine zb_icmp_lt X 46 dX11_isIn_15 (by decide) (fun c4 => ?_) (fun c4 => ?_)
      · have h := h.1 c4
        refine zb_sub [] rfl ?_
        exact tX11_isIn_46 X p1 p2 hR   a3 h
      · have h := h.2 c4
        refine zb_sub [0, 1, 2] rfl ?_
        exact tX11_isIn_18 X p1 p2 hR   a3 h

abbrev rmX11_room : Room := { frames := 0, cells := 0, slots := 0, locals := 0 }
theorem kX11_room_0 : Cond.fieldLink RX11 169 RX11 "stars" "I" ∈ wsX11_room := by decide +kernel
theorem kX11_room_1 : zIn RX11 TX11 51 wsX11_room := by decide +kernel
theorem kX11_room_2 : Cond.fieldLink RX11 166 RX11 "places" "I" ∈ wsX11_room := by decide +kernel
theorem kX11_room_3 : Cond.fieldLink RX11 163 RX11 "units" "I" ∈ wsX11_room := by decide +kernel
theorem kX11_room_4 : Cond.fieldLink RX11 160 RX11 "width" "I" ∈ wsX11_room := by decide +kernel
def vcX11_room_39 (G : zG)  (ad ln : Nat → Nat) (p1 : Int32)  (post : Int32 → (Nat → Nat → Int32) → Prop) (s0 : Int32) (al : Nat → Nat → Int32) : Prop :=
  post s0 al
def vcX11_room_0 (G : zG)  (ad ln : Nat → Nat) (p1 : Int32)  (post : Int32 → (Nat → Nat → Int32) → Prop) (al : Nat → Nat → Int32) : Prop :=
  (¬ p1 = 0 → (¬ p1 = (1 : Int32) → (¬ p1 = (2 : Int32) → vcX11_room_39 G  ad ln p1  post (al 0 22) al) ∧ (p1 = (2 : Int32) → vcX11_room_39 G  ad ln p1  post (al 0 21) al)) ∧ (p1 = (1 : Int32) → vcX11_room_39 G  ad ln p1  post (al 0 20) al)) ∧ (p1 = 0 → vcX11_room_39 G  ad ln p1  post (al 0 19) al)
set_option maxRecDepth 20000 in
theorem tX11_room_39 {G : zG} {Z : zC}  {ad ln : Nat → Nat} (X : zX G Z cX11_room 2 RX11 wsX11_room) (p1 : Int32)  {post : Int32 → (Nat → Nat → Int32) → Prop} (hR : zRi G Z rmX11_room 2 zTR ad ln cX11_room .int post)  (s0 : Int32) (al : Nat → Nat → Int32) (h : vcX11_room_39 G  ad ln p1  post s0 al) : zB G Z rmX11_room 2 zTR ad ln 0 0 39 [] [.int s0] al := by
  unfold vcX11_room_39 at h
  exact hR 39 _ _ _ dX11_room_39 rfl h
set_option maxRecDepth 20000 in
theorem tX11_room_0 {G : zG} {Z : zC}  {ad ln : Nat → Nat} (X : zX G Z cX11_room 2 RX11 wsX11_room) (p1 : Int32)  {post : Int32 → (Nat → Nat → Int32) → Prop} (hR : zRi G Z rmX11_room 2 zTR ad ln cX11_room .int post)  (al : Nat → Nat → Int32) (h : vcX11_room_0 G  ad ln p1  post  al) : zB G Z rmX11_room 2 zTR ad ln 0 0 0 [(0, .ref (ad 0)), (1, .int p1)] [] al := by
  unfold vcX11_room_0 at h
  refine zb_iload_n X dX11_room_0 rfl 1 rfl ?_
  refine zb_if_ne X 11 dX11_room_1 (by decide) (fun c1 => ?_) (fun c1 => ?_)
  · have h := h.1 c1
    refine zb_iload_n X dX11_room_11 rfl 1 rfl ?_
    refine zb_iconst X (1 : Int32) dX11_room_12 (by decide) ?_
    refine zb_icmp_ne X 23 dX11_room_13 (by decide) (fun c2 => ?_) (fun c2 => ?_)
    · have h := h.1 c2
      refine zb_iload_n X dX11_room_23 rfl 1 rfl ?_
      refine zb_iconst X (2 : Int32) dX11_room_24 (by decide) ?_
      refine zb_icmp_ne X 35 dX11_room_25 (by decide) (fun c3 => ?_) (fun c3 => ?_)
      · have h := h.1 c3
        refine zb_aload_n X dX11_room_35 rfl 0 rfl ?_
        refine zb_getI X 0 (by decide) 11 [3, 4, 5, 6, 7, 8, 9, 10, 11, 0, 12, 0, 0, 0, 0, 0, 0, 0, 0, 0, 0, 0, 0, 13, 14, 15, 16, 17, 0, 18, 19, 20, 21, 0, 0, 0, 22, 23, 24, 25, 0, 0, 26, 27, 28, 29, 0, 0, 0, 30, 0] rfl (C := RX11) (Tt := TX11) (N := 51) rfl kX11_room_1 22 (by decide) rfl kX11_room_0 rfl dX11_room_36 (al 0 22) rfl ?_
        refine zb_sub [] rfl ?_
        exact tX11_room_39 X p1 hR  (al 0 22) al h
      · have h := h.2 c3
        refine zb_aload_n X dX11_room_28 rfl 0 rfl ?_
        refine zb_getI X 0 (by decide) 11 [3, 4, 5, 6, 7, 8, 9, 10, 11, 0, 12, 0, 0, 0, 0, 0, 0, 0, 0, 0, 0, 0, 0, 13, 14, 15, 16, 17, 0, 18, 19, 20, 21, 0, 0, 0, 22, 23, 24, 25, 0, 0, 26, 27, 28, 29, 0, 0, 0, 30, 0] rfl (C := RX11) (Tt := TX11) (N := 51) rfl kX11_room_1 21 (by decide) rfl kX11_room_2 rfl dX11_room_29 (al 0 21) rfl ?_
        refine zb_goto X 39 dX11_room_32 (by decide) ?_
        refine zb_sub [] rfl ?_
        exact tX11_room_39 X p1 hR  (al 0 21) al h
    · have h := h.2 c2
      refine zb_aload_n X dX11_room_16 rfl 0 rfl ?_
      refine zb_getI X 0 (by decide) 11 [3, 4, 5, 6, 7, 8, 9, 10, 11, 0, 12, 0, 0, 0, 0, 0, 0, 0, 0, 0, 0, 0, 0, 13, 14, 15, 16, 17, 0, 18, 19, 20, 21, 0, 0, 0, 22, 23, 24, 25, 0, 0, 26, 27, 28, 29, 0, 0, 0, 30, 0] rfl (C := RX11) (Tt := TX11) (N := 51) rfl kX11_room_1 20 (by decide) rfl kX11_room_3 rfl dX11_room_17 (al 0 20) rfl ?_
      refine zb_goto X 39 dX11_room_20 (by decide) ?_
      refine zb_sub [] rfl ?_
      exact tX11_room_39 X p1 hR  (al 0 20) al h
  · have h := h.2 c1
    refine zb_aload_n X dX11_room_4 rfl 0 rfl ?_
    refine zb_getI X 0 (by decide) 11 [3, 4, 5, 6, 7, 8, 9, 10, 11, 0, 12, 0, 0, 0, 0, 0, 0, 0, 0, 0, 0, 0, 0, 13, 14, 15, 16, 17, 0, 18, 19, 20, 21, 0, 0, 0, 22, 23, 24, 25, 0, 0, 26, 27, 28, 29, 0, 0, 0, 30, 0] rfl (C := RX11) (Tt := TX11) (N := 51) rfl kX11_room_1 19 (by decide) rfl kX11_room_4 rfl dX11_room_5 (al 0 19) rfl ?_
    refine zb_goto X 39 dX11_room_8 (by decide) ?_
    refine zb_sub [] rfl ?_
    exact tX11_room_39 X p1 hR  (al 0 19) al h

abbrev rmX11_leastByUnits : Room := { frames := 2, cells := 0, slots := 0, locals := 43 }
theorem kX11_leastByUnits_0 : Cond.fieldLink RX11 137 RX11 "rows" "I" ∈ wsX11_leastByUnits := by decide +kernel
theorem kX11_leastByUnits_1 : zIn RX11 TX11 51 wsX11_leastByUnits := by decide +kernel
theorem kX11_leastByUnits_2 : Cond.methodLink RX11 134 Lib.Math.max.name ∈ wsX11_leastByUnits := by decide +kernel
theorem kX11_leastByUnits_3 : Cond.static Lib.Math.max.name ∈ wsX11_leastByUnits := by decide +kernel
theorem kX11_leastByUnits_4 : Cond.initialized "java/lang/Math" ∈ wsX11_leastByUnits := by decide +kernel
theorem kX11_leastByUnits_5 : Cond.code Lib.Math.max.name Lib.Math.max.code 2 (some .int) ∈ wsX11_leastByUnits := by decide +kernel
abbrev BX11_leastByUnits_14 (G : zG) (Z : zC)  (ad ln : Nat → Nat) (x1 x2 x3 x4 : Int32) (al : Nat → Nat → Int32) : Prop := zB G Z rmX11_leastByUnits 5 zTR ad ln 0 0 14 [(0, .ref (ad 0)), (1, .int x1), (2, .int x2), (3, .int x3), (4, .int x4)] [] al
abbrev BX11_leastByUnits_4 (G : zG) (Z : zC)  (ad ln : Nat → Nat) (x1 x2 : Int32) (al : Nat → Nat → Int32) : Prop := zB G Z rmX11_leastByUnits 5 zTR ad ln 0 0 4 [(0, .ref (ad 0)), (1, .int x1), (2, .int x2)] [] al
def vcX11_leastByUnits_0 (G : zG)  (ad ln : Nat → Nat) (K4 : Int32 → Int32 → (Nat → Nat → Int32) → Prop) (K14 : Int32 → Int32 → Int32 → Int32 → (Nat → Nat → Int32) → Prop) (post : Int32 → (Nat → Nat → Int32) → Prop) (al : Nat → Nat → Int32) : Prop :=
  K4 (1 : Int32) (0 : Int32) al
def vcX11_leastByUnits_4 (G : zG)  (ad ln : Nat → Nat) (K4 : Int32 → Int32 → (Nat → Nat → Int32) → Prop) (K14 : Int32 → Int32 → Int32 → Int32 → (Nat → Nat → Int32) → Prop) (post : Int32 → (Nat → Nat → Int32) → Prop) (x1 x2 : Int32) (al : Nat → Nat → Int32) : Prop :=
  ((4 : Int32) ≤ x2 → post x1 al) ∧ (¬ (4 : Int32) ≤ x2 → K14 x1 x2 (0 : Int32) (0 : Int32) al)
def vcX11_leastByUnits_39 (G : zG)  (ad ln : Nat → Nat) (K4 : Int32 → Int32 → (Nat → Nat → Int32) → Prop) (K14 : Int32 → Int32 → Int32 → Int32 → (Nat → Nat → Int32) → Prop) (post : Int32 → (Nat → Nat → Int32) → Prop) (x1 x2 x4 s0 s1 : Int32) (al : Nat → Nat → Int32) : Prop :=
  K14 x1 x2 (s1 + s0) (x4 + (1 : Int32)) al
def vcX11_leastByUnits_14 (G : zG)  (ad ln : Nat → Nat) (K4 : Int32 → Int32 → (Nat → Nat → Int32) → Prop) (K14 : Int32 → Int32 → Int32 → Int32 → (Nat → Nat → Int32) → Prop) (post : Int32 → (Nat → Nat → Int32) → Prop) (x1 x2 x3 x4 : Int32) (al : Nat → Nat → Int32) : Prop :=
  ((al 0 9) ≤ x4 → zMi G yX11_room wsX11_room rmX11_room zTR ad ln [.ref (ad 0), .int x2] al (fun q2 a2 => zMi G yX11_room wsX11_room rmX11_room zTR ad ln [.ref (ad 0), .int x2] a2 (fun q3 a3 => (¬ q3 = 0 ∧ K4 (if x1 < (((x3 + q2) - (1 : Int32)) / q3) then (((x3 + q2) - (1 : Int32)) / q3) else x1) (x2 + (1 : Int32)) a3)))) ∧ (¬ (al 0 9) ≤ x4 → zMi G yX11_isIn wsX11_isIn rmX11_isIn zTR ad ln [.ref (ad 0), .int x4, .int x2] al (fun q2 a2 => (q2 = 0 → vcX11_leastByUnits_39 G  ad ln K4 K14 post x1 x2 x4 (0 : Int32) x3 a2) ∧ (¬ q2 = 0 → vcX11_leastByUnits_39 G  ad ln K4 K14 post x1 x2 x4 (1 : Int32) x3 a2)))
set_option maxRecDepth 20000 in
theorem tX11_leastByUnits_0 {G : zG} {Z : zC}  {ad ln : Nat → Nat} (X : zX G Z cX11_leastByUnits 5 RX11 wsX11_leastByUnits) {K4 : Int32 → Int32 → (Nat → Nat → Int32) → Prop} {K14 : Int32 → Int32 → Int32 → Int32 → (Nat → Nat → Int32) → Prop} {post : Int32 → (Nat → Nat → Int32) → Prop} (hR : zRi G Z rmX11_leastByUnits 5 zTR ad ln cX11_leastByUnits .int post) (hK4 : ∀ x1 x2 : Int32, ∀ al, K4 x1 x2 al → zB G Z rmX11_leastByUnits 5 zTR ad ln 0 0 4 [(0, .ref (ad 0)), (1, .int x1), (2, .int x2)] [] al) (hK14 : ∀ x1 x2 x3 x4 : Int32, ∀ al, K14 x1 x2 x3 x4 al → zB G Z rmX11_leastByUnits 5 zTR ad ln 0 0 14 [(0, .ref (ad 0)), (1, .int x1), (2, .int x2), (3, .int x3), (4, .int x4)] [] al) (al : Nat → Nat → Int32) (h : vcX11_leastByUnits_0 G  ad ln K4 K14 post  al) : zB G Z rmX11_leastByUnits 5 zTR ad ln 0 0 0 [(0, .ref (ad 0))] [] al := by
  unfold vcX11_leastByUnits_0 at h
  refine zb_iconst X (1 : Int32) dX11_leastByUnits_0 (by decide) ?_
  refine zb_istore_n X (lv' := [(1, .int (1 : Int32)), (0, .ref (ad 0))]) dX11_leastByUnits_1 rfl (by decide) rfl ?_
  refine zb_iconst X (0 : Int32) dX11_leastByUnits_2 (by decide) ?_
  refine zb_istore_n X (lv' := [(2, .int (0 : Int32)), (1, .int (1 : Int32)), (0, .ref (ad 0))]) dX11_leastByUnits_3 rfl (by decide) rfl ?_
  refine zb_sub [2, 1, 0] rfl ?_
  exact hK4 (1 : Int32) (0 : Int32) al h
set_option maxRecDepth 20000 in
theorem tX11_leastByUnits_4 {G : zG} {Z : zC}  {ad ln : Nat → Nat} (X : zX G Z cX11_leastByUnits 5 RX11 wsX11_leastByUnits) {K4 : Int32 → Int32 → (Nat → Nat → Int32) → Prop} {K14 : Int32 → Int32 → Int32 → Int32 → (Nat → Nat → Int32) → Prop} {post : Int32 → (Nat → Nat → Int32) → Prop} (hR : zRi G Z rmX11_leastByUnits 5 zTR ad ln cX11_leastByUnits .int post) (hK4 : ∀ x1 x2 : Int32, ∀ al, K4 x1 x2 al → zB G Z rmX11_leastByUnits 5 zTR ad ln 0 0 4 [(0, .ref (ad 0)), (1, .int x1), (2, .int x2)] [] al) (hK14 : ∀ x1 x2 x3 x4 : Int32, ∀ al, K14 x1 x2 x3 x4 al → zB G Z rmX11_leastByUnits 5 zTR ad ln 0 0 14 [(0, .ref (ad 0)), (1, .int x1), (2, .int x2), (3, .int x3), (4, .int x4)] [] al) (x1 x2 : Int32) (al : Nat → Nat → Int32) (h : vcX11_leastByUnits_4 G  ad ln K4 K14 post x1 x2 al) : zB G Z rmX11_leastByUnits 5 zTR ad ln 0 0 4 [(0, .ref (ad 0)), (1, .int x1), (2, .int x2)] [] al := by
  unfold vcX11_leastByUnits_4 at h
  refine zb_iload_n X dX11_leastByUnits_4 rfl 2 rfl ?_
  refine zb_iconst X (4 : Int32) dX11_leastByUnits_5 (by decide) ?_
  refine zb_icmp_ge X 73 dX11_leastByUnits_6 (by decide) (fun c1 => ?_) (fun c1 => ?_)
  · have h := h.1 c1
    refine zb_iload_n X dX11_leastByUnits_73 rfl 1 rfl ?_
    exact hR 74 _ _ _ dX11_leastByUnits_74 rfl h
  · have h := h.2 c1
    refine zb_iconst X (0 : Int32) dX11_leastByUnits_9 (by decide) ?_
    refine zb_istore_n X (lv' := [(3, .int (0 : Int32)), (0, .ref (ad 0)), (1, .int x1), (2, .int x2)]) dX11_leastByUnits_10 rfl (by decide) rfl ?_
    refine zb_iconst X (0 : Int32) dX11_leastByUnits_11 (by decide) ?_
    refine zb_istore X (lv' := [(4, .int (0 : Int32)), (3, .int (0 : Int32)), (0, .ref (ad 0)), (1, .int x1), (2, .int x2)]) dX11_leastByUnits_12 (by decide) rfl ?_
    refine zb_sub [2, 3, 4, 1, 0] rfl ?_
    exact hK14 x1 x2 (0 : Int32) (0 : Int32) al h
set_option maxRecDepth 20000 in
theorem tX11_leastByUnits_39 {G : zG} {Z : zC}  {ad ln : Nat → Nat} (X : zX G Z cX11_leastByUnits 5 RX11 wsX11_leastByUnits) {K4 : Int32 → Int32 → (Nat → Nat → Int32) → Prop} {K14 : Int32 → Int32 → Int32 → Int32 → (Nat → Nat → Int32) → Prop} {post : Int32 → (Nat → Nat → Int32) → Prop} (hR : zRi G Z rmX11_leastByUnits 5 zTR ad ln cX11_leastByUnits .int post) (hK4 : ∀ x1 x2 : Int32, ∀ al, K4 x1 x2 al → zB G Z rmX11_leastByUnits 5 zTR ad ln 0 0 4 [(0, .ref (ad 0)), (1, .int x1), (2, .int x2)] [] al) (hK14 : ∀ x1 x2 x3 x4 : Int32, ∀ al, K14 x1 x2 x3 x4 al → zB G Z rmX11_leastByUnits 5 zTR ad ln 0 0 14 [(0, .ref (ad 0)), (1, .int x1), (2, .int x2), (3, .int x3), (4, .int x4)] [] al) (x1 x2 x4 s0 s1 : Int32) (al : Nat → Nat → Int32) (h : vcX11_leastByUnits_39 G  ad ln K4 K14 post x1 x2 x4 s0 s1 al) : zB G Z rmX11_leastByUnits 5 zTR ad ln 0 0 39 [(0, .ref (ad 0)), (1, .int x1), (2, .int x2), (4, .int x4)] [.int s0, .int s1] al := by
  unfold vcX11_leastByUnits_39 at h
  refine zb_iadd X dX11_leastByUnits_39 ?_
  refine zb_istore_n X (lv' := [(3, .int (s1 + s0)), (0, .ref (ad 0)), (1, .int x1), (2, .int x2), (4, .int x4)]) dX11_leastByUnits_40 rfl (by decide) rfl ?_
  refine zb_iinc X (lv' := [(4, .int (x4 + (1 : Int32))), (3, .int (s1 + s0)), (0, .ref (ad 0)), (1, .int x1), (2, .int x2)]) (x4 + (1 : Int32)) dX11_leastByUnits_41 4 rfl rfl (by decide) rfl ?_
  refine zb_goto X 14 dX11_leastByUnits_44 (by decide) ?_
  refine zb_sub [2, 3, 4, 1, 0] rfl ?_
  exact hK14 x1 x2 (s1 + s0) (x4 + (1 : Int32)) al h
set_option maxRecDepth 20000 in
theorem tX11_leastByUnits_14 {G : zG} {Z : zC}  {ad ln : Nat → Nat} (X : zX G Z cX11_leastByUnits 5 RX11 wsX11_leastByUnits) {K4 : Int32 → Int32 → (Nat → Nat → Int32) → Prop} {K14 : Int32 → Int32 → Int32 → Int32 → (Nat → Nat → Int32) → Prop} {post : Int32 → (Nat → Nat → Int32) → Prop} (hR : zRi G Z rmX11_leastByUnits 5 zTR ad ln cX11_leastByUnits .int post) (hK4 : ∀ x1 x2 : Int32, ∀ al, K4 x1 x2 al → zB G Z rmX11_leastByUnits 5 zTR ad ln 0 0 4 [(0, .ref (ad 0)), (1, .int x1), (2, .int x2)] [] al) (hK14 : ∀ x1 x2 x3 x4 : Int32, ∀ al, K14 x1 x2 x3 x4 al → zB G Z rmX11_leastByUnits 5 zTR ad ln 0 0 14 [(0, .ref (ad 0)), (1, .int x1), (2, .int x2), (3, .int x3), (4, .int x4)] [] al) (x1 x2 x3 x4 : Int32) (al : Nat → Nat → Int32) (h : vcX11_leastByUnits_14 G  ad ln K4 K14 post x1 x2 x3 x4 al) : zB G Z rmX11_leastByUnits 5 zTR ad ln 0 0 14 [(0, .ref (ad 0)), (1, .int x1), (2, .int x2), (3, .int x3), (4, .int x4)] [] al := by
  unfold vcX11_leastByUnits_14 at h
  refine zb_iload X dX11_leastByUnits_14 4 rfl ?_
  refine zb_aload_n X dX11_leastByUnits_16 rfl 0 rfl ?_
  refine zb_getI X 0 (by decide) 11 [3, 4, 5, 6, 7, 8, 9, 10, 11, 0, 12, 0, 0, 0, 0, 0, 0, 0, 0, 0, 0, 0, 0, 13, 14, 15, 16, 17, 0, 18, 19, 20, 21, 0, 0, 0, 22, 23, 24, 25, 0, 0, 26, 27, 28, 29, 0, 0, 0, 30, 0] rfl (C := RX11) (Tt := TX11) (N := 51) rfl kX11_leastByUnits_1 9 (by decide) rfl kX11_leastByUnits_0 rfl dX11_leastByUnits_17 (al 0 9) rfl ?_
  refine zb_icmp_ge X 47 dX11_leastByUnits_20 (by decide) (fun c1 => ?_) (fun c1 => ?_)
  · have h := h.1 c1
    refine zb_iload_n X dX11_leastByUnits_47 rfl 1 rfl ?_
    refine zb_iload_n X dX11_leastByUnits_48 rfl 3 rfl ?_
    refine zb_aload_n X dX11_leastByUnits_49 rfl 0 rfl ?_
    refine zb_iload_n X dX11_leastByUnits_50 rfl 2 rfl ?_
    refine zb_callVi (n := 1) X 0 (by decide) 11 [3, 4, 5, 6, 7, 8, 9, 10, 11, 0, 12, 0, 0, 0, 0, 0, 0, 0, 0, 0, 0, 0, 0, 13, 14, 15, 16, 17, 0, 18, 19, 20, 21, 0, 0, 0, 22, 23, 24, 25, 0, 0, 26, 27, 28, 29, 0, 0, 0, 30, 0] rfl (C := RX11) (Tt := TX11) (N := 51) rfl h gX11_leastByUnits_X11_room rfl (by decide +kernel) (by decide) rfl rfl (Nat.le_of_ble_eq_true rfl) dX11_leastByUnits_51 (kc' := 0) (ks' := 0) rfl rfl (fun q2 a2 h => ?_)
    refine zb_iadd X dX11_leastByUnits_54 ?_
    refine zb_iconst X (1 : Int32) dX11_leastByUnits_55 (by decide) ?_
    refine zb_isub X dX11_leastByUnits_56 ?_
    refine zb_aload_n X dX11_leastByUnits_57 rfl 0 rfl ?_
    refine zb_iload_n X dX11_leastByUnits_58 rfl 2 rfl ?_
    refine zb_callVi (n := 1) X 0 (by decide) 11 [3, 4, 5, 6, 7, 8, 9, 10, 11, 0, 12, 0, 0, 0, 0, 0, 0, 0, 0, 0, 0, 0, 0, 13, 14, 15, 16, 17, 0, 18, 19, 20, 21, 0, 0, 0, 22, 23, 24, 25, 0, 0, 26, 27, 28, 29, 0, 0, 0, 30, 0] rfl (C := RX11) (Tt := TX11) (N := 51) rfl h gX11_leastByUnits_X11_room rfl (by decide +kernel) (by decide) rfl rfl (Nat.le_of_ble_eq_true rfl) dX11_leastByUnits_59 (kc' := 0) (ks' := 0) rfl rfl (fun q3 a3 h => ?_)
    obtain ⟨hz, h⟩ := h
    refine zb_idiv X dX11_leastByUnits_62 hz ?_
    refine zb_mmax X kX11_leastByUnits_2 kX11_leastByUnits_3 kX11_leastByUnits_4 kX11_leastByUnits_5 ⟨⟨Nat.le_of_ble_eq_true rfl, Nat.le_of_ble_eq_true rfl⟩, Nat.le_of_ble_eq_true rfl, Nat.le_of_ble_eq_true rfl⟩ dX11_leastByUnits_63 ?_
    refine zb_istore_n X (lv' := [(1, .int (if x1 < (((x3 + q2) - (1 : Int32)) / q3) then (((x3 + q2) - (1 : Int32)) / q3) else x1)), (0, .ref (ad 0)), (2, .int x2), (3, .int x3), (4, .int x4)]) dX11_leastByUnits_66 rfl (by decide) rfl ?_
    refine zb_iinc X (lv' := [(2, .int (x2 + (1 : Int32))), (1, .int (if x1 < (((x3 + q2) - (1 : Int32)) / q3) then (((x3 + q2) - (1 : Int32)) / q3) else x1)), (0, .ref (ad 0)), (3, .int x3), (4, .int x4)]) (x2 + (1 : Int32)) dX11_leastByUnits_67 2 rfl rfl (by decide) rfl ?_
    refine zb_goto X 4 dX11_leastByUnits_70 (by decide) ?_
    refine zb_sub [2, 1, 0] rfl ?_
    exact hK4 (if x1 < (((x3 + q2) - (1 : Int32)) / q3) then (((x3 + q2) - (1 : Int32)) / q3) else x1) (x2 + (1 : Int32)) a3 h
  · have h := h.2 c1
    refine zb_iload_n X dX11_leastByUnits_23 rfl 3 rfl ?_
    refine zb_aload_n X dX11_leastByUnits_24 rfl 0 rfl ?_
    refine zb_iload X dX11_leastByUnits_25 4 rfl ?_
    refine zb_iload_n X dX11_leastByUnits_27 rfl 2 rfl ?_
    refine zb_callVi (n := 2) X 0 (by decide) 11 [3, 4, 5, 6, 7, 8, 9, 10, 11, 0, 12, 0, 0, 0, 0, 0, 0, 0, 0, 0, 0, 0, 0, 13, 14, 15, 16, 17, 0, 18, 19, 20, 21, 0, 0, 0, 22, 23, 24, 25, 0, 0, 26, 27, 28, 29, 0, 0, 0, 30, 0] rfl (C := RX11) (Tt := TX11) (N := 51) rfl h gX11_leastByUnits_X11_isIn rfl (by decide +kernel) (by decide) rfl rfl (Nat.le_of_ble_eq_true rfl) dX11_leastByUnits_28 (kc' := 0) (ks' := 0) rfl rfl (fun q2 a2 h => ?_)
    refine zb_if_eq X 38 dX11_leastByUnits_31 (by decide) (fun c3 => ?_) (fun c3 => ?_)
    · have h := h.1 c3
      refine zb_iconst X (0 : Int32) dX11_leastByUnits_38 (by decide) ?_
      refine zb_sub [0, 1, 2, 4] rfl ?_
      exact tX11_leastByUnits_39 X hR hK4 hK14 x1 x2 x4 (0 : Int32) x3 a2 h
    · have h := h.2 c3
      refine zb_iconst X (1 : Int32) dX11_leastByUnits_34 (by decide) ?_
      refine zb_goto X 39 dX11_leastByUnits_35 (by decide) ?_
      refine zb_sub [0, 1, 2, 4] rfl ?_
      exact tX11_leastByUnits_39 X hR hK4 hK14 x1 x2 x4 (1 : Int32) x3 a2 h
theorem uX11_leastByUnits_0 {G : zG} {Z : zC}  {ad ln : Nat → Nat} (X : zX G Z cX11_leastByUnits 5 RX11 wsX11_leastByUnits) {post : Int32 → (Nat → Nat → Int32) → Prop} (hR : zRi G Z rmX11_leastByUnits 5 zTR ad ln cX11_leastByUnits .int post) (al : Nat → Nat → Int32) (h : vcX11_leastByUnits_0 G  ad ln (BX11_leastByUnits_4 G Z  ad ln) (BX11_leastByUnits_14 G Z  ad ln) post  al) : zB G Z rmX11_leastByUnits 5 zTR ad ln 0 0 0 [(0, .ref (ad 0))] [] al := tX11_leastByUnits_0 X hR (fun _ _ _ h => h) (fun _ _ _ _ _ h => h)  al h
theorem uX11_leastByUnits_4 {G : zG} {Z : zC}  {ad ln : Nat → Nat} (X : zX G Z cX11_leastByUnits 5 RX11 wsX11_leastByUnits) {post : Int32 → (Nat → Nat → Int32) → Prop} (hR : zRi G Z rmX11_leastByUnits 5 zTR ad ln cX11_leastByUnits .int post) (x1 x2 : Int32) (al : Nat → Nat → Int32) (h : vcX11_leastByUnits_4 G  ad ln (BX11_leastByUnits_4 G Z  ad ln) (BX11_leastByUnits_14 G Z  ad ln) post x1 x2 al) : zB G Z rmX11_leastByUnits 5 zTR ad ln 0 0 4 [(0, .ref (ad 0)), (1, .int x1), (2, .int x2)] [] al := tX11_leastByUnits_4 X hR (fun _ _ _ h => h) (fun _ _ _ _ _ h => h) x1 x2 al h
theorem uX11_leastByUnits_39 {G : zG} {Z : zC}  {ad ln : Nat → Nat} (X : zX G Z cX11_leastByUnits 5 RX11 wsX11_leastByUnits) {post : Int32 → (Nat → Nat → Int32) → Prop} (hR : zRi G Z rmX11_leastByUnits 5 zTR ad ln cX11_leastByUnits .int post) (x1 x2 x4 s0 s1 : Int32) (al : Nat → Nat → Int32) (h : vcX11_leastByUnits_39 G  ad ln (BX11_leastByUnits_4 G Z  ad ln) (BX11_leastByUnits_14 G Z  ad ln) post x1 x2 x4 s0 s1 al) : zB G Z rmX11_leastByUnits 5 zTR ad ln 0 0 39 [(0, .ref (ad 0)), (1, .int x1), (2, .int x2), (4, .int x4)] [.int s0, .int s1] al := tX11_leastByUnits_39 X hR (fun _ _ _ h => h) (fun _ _ _ _ _ h => h) x1 x2 x4 s0 s1 al h
theorem uX11_leastByUnits_14 {G : zG} {Z : zC}  {ad ln : Nat → Nat} (X : zX G Z cX11_leastByUnits 5 RX11 wsX11_leastByUnits) {post : Int32 → (Nat → Nat → Int32) → Prop} (hR : zRi G Z rmX11_leastByUnits 5 zTR ad ln cX11_leastByUnits .int post) (x1 x2 x3 x4 : Int32) (al : Nat → Nat → Int32) (h : vcX11_leastByUnits_14 G  ad ln (BX11_leastByUnits_4 G Z  ad ln) (BX11_leastByUnits_14 G Z  ad ln) post x1 x2 x3 x4 al) : zB G Z rmX11_leastByUnits 5 zTR ad ln 0 0 14 [(0, .ref (ad 0)), (1, .int x1), (2, .int x2), (3, .int x3), (4, .int x4)] [] al := tX11_leastByUnits_14 X hR (fun _ _ _ h => h) (fun _ _ _ _ _ h => h) x1 x2 x3 x4 al h
