abbrev rmX11_floor : Room := { frames := 0, cells := 0, slots := 0, locals := 0 }
def vcX11_floor_19 (G : zG)  (ad ln : Nat → Nat) (p0 : Int32) (p1 : Int32)  (post : Int32 → (Nat → Nat → Int32) → Prop) (s0 : Int32) (al : Nat → Nat → Int32) : Prop :=
  post s0 al
def vcX11_floor_0 (G : zG)  (ad ln : Nat → Nat) (p0 : Int32) (p1 : Int32)  (post : Int32 → (Nat → Nat → Int32) → Prop) (al : Nat → Nat → Int32) : Prop :=
  (p0 < 0 → (¬ p1 = 0 ∧ vcX11_floor_19 G  ad ln p0 p1  post (-((((-p0) + p1) - (1 : Int32)) / p1)) al)) ∧ (¬ p0 < 0 → (¬ p1 = 0 ∧ vcX11_floor_19 G  ad ln p0 p1  post (p0 / p1) al))
set_option maxRecDepth 20000 in
theorem tX11_floor_19 {G : zG} {Z : zC}  {ad ln : Nat → Nat} (X : zX G Z cX11_floor 2 RX11 wsX11_floor) (p0 : Int32) (p1 : Int32)  {post : Int32 → (Nat → Nat → Int32) → Prop} (hR : zRi G Z rmX11_floor 2 zTR ad ln cX11_floor .int post)  (s0 : Int32) (al : Nat → Nat → Int32) (h : vcX11_floor_19 G  ad ln p0 p1  post s0 al) : zB G Z rmX11_floor 2 zTR ad ln 0 0 19 [] [.int s0] al := by
  unfold vcX11_floor_19 at h
  exact hR 19 _ _ _ dX11_floor_19 rfl h
set_option maxRecDepth 20000 in
theorem tX11_floor_0 {G : zG} {Z : zC}  {ad ln : Nat → Nat} (X : zX G Z cX11_floor 2 RX11 wsX11_floor) (p0 : Int32) (p1 : Int32)  {post : Int32 → (Nat → Nat → Int32) → Prop} (hR : zRi G Z rmX11_floor 2 zTR ad ln cX11_floor .int post)  (al : Nat → Nat → Int32) (h : vcX11_floor_0 G  ad ln p0 p1  post  al) : zB G Z rmX11_floor 2 zTR ad ln 0 0 0 [(0, .int p0), (1, .int p1)] [] al := by
  unfold vcX11_floor_0 at h
  refine zb_iload_n X dX11_floor_0 rfl 0 rfl ?_
  refine zb_if_lt X 10 dX11_floor_1 (by decide) (fun c1 => ?_) (fun c1 => ?_)
  · have h := h.1 c1
    refine zb_iload_n X dX11_floor_10 rfl 0 rfl ?_
    refine zb_ineg X dX11_floor_11 ?_
    refine zb_iload_n X dX11_floor_12 rfl 1 rfl ?_
    refine zb_iadd X dX11_floor_13 ?_
    refine zb_iconst X (1 : Int32) dX11_floor_14 (by decide) ?_
    refine zb_isub X dX11_floor_15 ?_
    refine zb_iload_n X dX11_floor_16 rfl 1 rfl ?_
    obtain ⟨hz, h⟩ := h
    refine zb_idiv X dX11_floor_17 hz ?_
    refine zb_ineg X dX11_floor_18 ?_
    refine zb_sub [] rfl ?_
    exact tX11_floor_19 X p0 p1 hR  (-((((-p0) + p1) - (1 : Int32)) / p1)) al h
  · have h := h.2 c1
    refine zb_iload_n X dX11_floor_4 rfl 0 rfl ?_
    refine zb_iload_n X dX11_floor_5 rfl 1 rfl ?_
    obtain ⟨hz, h⟩ := h
    refine zb_idiv X dX11_floor_6 hz ?_
    refine zb_goto X 19 dX11_floor_7 (by decide) ?_
    refine zb_sub [] rfl ?_
    exact tX11_floor_19 X p0 p1 hR  (p0 / p1) al h

abbrev rmX11_alive : Room := { frames := 1, cells := 0, slots := 0, locals := 21 }
theorem kX11_alive_0 : Cond.fieldLink RX11 234 RX11 "from" "[I" ∈ wsX11_alive := by decide +kernel
theorem kX11_alive_1 : zIn RX11 TX11 51 wsX11_alive := by decide +kernel
theorem kX11_alive_2 : Cond.fieldLink RX11 216 RX11 "distance" "I" ∈ wsX11_alive := by decide +kernel
theorem kX11_alive_3 : Cond.fieldLink RX11 240 RX11 "to" "[I" ∈ wsX11_alive := by decide +kernel
def vcX11_alive_0 (G : zG)  (ad ln : Nat → Nat) (p1 : Int32) (p2 : Int32)  (post : Int32 → (Nat → Nat → Int32) → Prop) (al : Nat → Nat → Int32) : Prop :=
  (vp_in p1 48 ∧ zMi G yX11_floor wsX11_floor rmX11_floor zTR ad ln [.int (p2 - (al 20 p1.toNatClampNeg)), .int (al 0 33)] al (fun q1 a1 => (vp_in p1 48 ∧ zMi G yX11_floor wsX11_floor rmX11_floor zTR ad ln [.int ((p2 - (a1 21 p1.toNatClampNeg)) - (1 : Int32)), .int (a1 0 33)] a1 (fun q2 a2 => post (q1 - q2) a2))))
set_option maxRecDepth 20000 in
theorem tX11_alive_0 {G : zG} {Z : zC}  {ad ln : Nat → Nat} (X : zX G Z cX11_alive 3 RX11 wsX11_alive) (p1 : Int32) (p2 : Int32)  {post : Int32 → (Nat → Nat → Int32) → Prop} (hR : zRi G Z rmX11_alive 3 zTR ad ln cX11_alive .int post)  (al : Nat → Nat → Int32) (h : vcX11_alive_0 G  ad ln p1 p2  post  al) : zB G Z rmX11_alive 3 zTR ad ln 0 0 0 [(0, .ref (ad 0)), (1, .int p1), (2, .int p2)] [] al := by
  unfold vcX11_alive_0 at h
  refine zb_iload_n X dX11_alive_0 rfl 2 rfl ?_
  refine zb_aload_n X dX11_alive_1 rfl 0 rfl ?_
  refine zb_getR X 0 (by decide) 11 [3, 4, 5, 6, 7, 8, 9, 10, 11, 0, 12, 0, 0, 0, 0, 0, 0, 0, 0, 0, 0, 0, 0, 13, 14, 15, 16, 17, 0, 18, 19, 20, 21, 0, 0, 0, 22, 23, 24, 25, 0, 0, 26, 27, 28, 29, 0, 0, 0, 30, 0] rfl (C := RX11) (Tt := TX11) (N := 51) rfl kX11_alive_1 36 (by decide) 20 rfl kX11_alive_0 rfl dX11_alive_2 ?_
  refine zb_iload_n X dX11_alive_5 rfl 1 rfl ?_
  obtain ⟨hz, h⟩ := h
  refine zb_iald X 20 (by decide) 1 48 0 0 rfl (Or.inl rfl) p1.toNatClampNeg rfl hz dX11_alive_6 (al 20 p1.toNatClampNeg) rfl ?_
  refine zb_isub X dX11_alive_7 ?_
  refine zb_aload_n X dX11_alive_8 rfl 0 rfl ?_
  refine zb_getI X 0 (by decide) 11 [3, 4, 5, 6, 7, 8, 9, 10, 11, 0, 12, 0, 0, 0, 0, 0, 0, 0, 0, 0, 0, 0, 0, 13, 14, 15, 16, 17, 0, 18, 19, 20, 21, 0, 0, 0, 22, 23, 24, 25, 0, 0, 26, 27, 28, 29, 0, 0, 0, 30, 0] rfl (C := RX11) (Tt := TX11) (N := 51) rfl kX11_alive_1 33 (by decide) rfl kX11_alive_2 rfl dX11_alive_9 (al 0 33) rfl ?_
  refine zb_callSi (n := 2) X h gX11_alive_X11_floor rfl (by decide +kernel) (by decide) rfl rfl (Nat.le_of_ble_eq_true rfl) dX11_alive_12 (kc' := 0) (ks' := 0) rfl rfl (fun q1 a1 h => ?_)
  refine zb_iload_n X dX11_alive_15 rfl 2 rfl ?_
  refine zb_aload_n X dX11_alive_16 rfl 0 rfl ?_
  refine zb_getR X 0 (by decide) 11 [3, 4, 5, 6, 7, 8, 9, 10, 11, 0, 12, 0, 0, 0, 0, 0, 0, 0, 0, 0, 0, 0, 0, 13, 14, 15, 16, 17, 0, 18, 19, 20, 21, 0, 0, 0, 22, 23, 24, 25, 0, 0, 26, 27, 28, 29, 0, 0, 0, 30, 0] rfl (C := RX11) (Tt := TX11) (N := 51) rfl kX11_alive_1 37 (by decide) 21 rfl kX11_alive_3 rfl dX11_alive_17 ?_
  refine zb_iload_n X dX11_alive_20 rfl 1 rfl ?_
  obtain ⟨hz, h⟩ := h
  refine zb_iald X 21 (by decide) 1 48 0 0 rfl (Or.inl rfl) p1.toNatClampNeg rfl hz dX11_alive_21 (a1 21 p1.toNatClampNeg) rfl ?_
  refine zb_isub X dX11_alive_22 ?_
  refine zb_iconst X (1 : Int32) dX11_alive_23 (by decide) ?_
  refine zb_isub X dX11_alive_24 ?_
  refine zb_aload_n X dX11_alive_25 rfl 0 rfl ?_
  refine zb_getI X 0 (by decide) 11 [3, 4, 5, 6, 7, 8, 9, 10, 11, 0, 12, 0, 0, 0, 0, 0, 0, 0, 0, 0, 0, 0, 0, 13, 14, 15, 16, 17, 0, 18, 19, 20, 21, 0, 0, 0, 22, 23, 24, 25, 0, 0, 26, 27, 28, 29, 0, 0, 0, 30, 0] rfl (C := RX11) (Tt := TX11) (N := 51) rfl kX11_alive_1 33 (by decide) rfl kX11_alive_2 rfl dX11_alive_26 (a1 0 33) rfl ?_
  refine zb_callSi (n := 2) X h gX11_alive_X11_floor rfl (by decide +kernel) (by decide) rfl rfl (Nat.le_of_ble_eq_true rfl) dX11_alive_29 (kc' := 0) (ks' := 0) rfl rfl (fun q2 a2 h => ?_)
  refine zb_isub X dX11_alive_32 ?_
  exact hR 33 _ _ _ dX11_alive_33 rfl h

abbrev rmX11_meet : Room := { frames := 1, cells := 0, slots := 0, locals := 21 }
theorem kX11_meet_0 : Cond.fieldLink RX11 255 RX11 "around" "I" ∈ wsX11_meet := by decide +kernel
theorem kX11_meet_1 : zIn RX11 TX11 51 wsX11_meet := by decide +kernel
theorem kX11_meet_2 : Cond.fieldLink RX11 216 RX11 "distance" "I" ∈ wsX11_meet := by decide +kernel
theorem kX11_meet_3 : Cond.fieldLink RX11 243 RX11 "offset" "[I" ∈ wsX11_meet := by decide +kernel
theorem kX11_meet_4 : Cond.fieldLink RX11 234 RX11 "from" "[I" ∈ wsX11_meet := by decide +kernel
theorem kX11_meet_5 : Cond.fieldLink RX11 240 RX11 "to" "[I" ∈ wsX11_meet := by decide +kernel
def vcX11_meet_80 (G : zG)  (ad ln : Nat → Nat) (p1 : Int32) (p2 : Int32) (p3 : Int32)  (post : Int32 → (Nat → Nat → Int32) → Prop) (s0 : Int32) (al : Nat → Nat → Int32) : Prop :=
  zOk .boolean s0 ∧ post s0 al
def vcX11_meet_0 (G : zG)  (ad ln : Nat → Nat) (p1 : Int32) (p2 : Int32) (p3 : Int32)  (post : Int32 → (Nat → Nat → Int32) → Prop) (al : Nat → Nat → Int32) : Prop :=
  (vp_in p3 48 ∧ vp_in p1 48 ∧ vp_in p3 48 ∧ zMi G yX11_floor wsX11_floor rmX11_floor zTR ad ln [.int (-(((al 20 p1.toNatClampNeg) - (al 21 p3.toNatClampNeg)) - (((al 22 p3.toNatClampNeg) - p2) * (al 0 33)))), .int ((al 0 41) * (al 0 33))] al (fun q1 a1 => (vp_in p3 48 ∧ vp_in p1 48 ∧ ((a1 21 p1.toNatClampNeg) < (((a1 20 p3.toNatClampNeg) + (((al 22 p3.toNatClampNeg) - p2) * (al 0 33))) + ((-q1) * ((al 0 41) * (al 0 33)))) → vcX11_meet_80 G  ad ln p1 p2 p3  post (0 : Int32) a1) ∧ (¬ (a1 21 p1.toNatClampNeg) < (((a1 20 p3.toNatClampNeg) + (((al 22 p3.toNatClampNeg) - p2) * (al 0 33))) + ((-q1) * ((al 0 41) * (al 0 33)))) → vcX11_meet_80 G  ad ln p1 p2 p3  post (1 : Int32) a1))))
set_option maxRecDepth 20000 in
theorem tX11_meet_80 {G : zG} {Z : zC}  {ad ln : Nat → Nat} (X : zX G Z cX11_meet 7 RX11 wsX11_meet) (p1 : Int32) (p2 : Int32) (p3 : Int32)  {post : Int32 → (Nat → Nat → Int32) → Prop} (hR : zRi G Z rmX11_meet 7 zTR ad ln cX11_meet .boolean post)  (s0 : Int32) (al : Nat → Nat → Int32) (h : vcX11_meet_80 G  ad ln p1 p2 p3  post s0 al) : zB G Z rmX11_meet 7 zTR ad ln 0 0 80 [] [.int s0] al := by
  unfold vcX11_meet_80 at h
  exact hR 80 _ _ _ dX11_meet_80 h.1 h.2
set_option maxRecDepth 20000 in
theorem tX11_meet_0 {G : zG} {Z : zC}  {ad ln : Nat → Nat} (X : zX G Z cX11_meet 7 RX11 wsX11_meet) (p1 : Int32) (p2 : Int32) (p3 : Int32)  {post : Int32 → (Nat → Nat → Int32) → Prop} (hR : zRi G Z rmX11_meet 7 zTR ad ln cX11_meet .boolean post)  (al : Nat → Nat → Int32) (h : vcX11_meet_0 G  ad ln p1 p2 p3  post  al) : zB G Z rmX11_meet 7 zTR ad ln 0 0 0 [(0, .ref (ad 0)), (1, .int p1), (2, .int p2), (3, .int p3)] [] al := by
  unfold vcX11_meet_0 at h
  refine zb_aload_n X dX11_meet_0 rfl 0 rfl ?_
  refine zb_getI X 0 (by decide) 11 [3, 4, 5, 6, 7, 8, 9, 10, 11, 0, 12, 0, 0, 0, 0, 0, 0, 0, 0, 0, 0, 0, 0, 13, 14, 15, 16, 17, 0, 18, 19, 20, 21, 0, 0, 0, 22, 23, 24, 25, 0, 0, 26, 27, 28, 29, 0, 0, 0, 30, 0] rfl (C := RX11) (Tt := TX11) (N := 51) rfl kX11_meet_1 41 (by decide) rfl kX11_meet_0 rfl dX11_meet_1 (al 0 41) rfl ?_
  refine zb_aload_n X dX11_meet_4 rfl 0 rfl ?_
  refine zb_getI X 0 (by decide) 11 [3, 4, 5, 6, 7, 8, 9, 10, 11, 0, 12, 0, 0, 0, 0, 0, 0, 0, 0, 0, 0, 0, 0, 13, 14, 15, 16, 17, 0, 18, 19, 20, 21, 0, 0, 0, 22, 23, 24, 25, 0, 0, 26, 27, 28, 29, 0, 0, 0, 30, 0] rfl (C := RX11) (Tt := TX11) (N := 51) rfl kX11_meet_1 33 (by decide) rfl kX11_meet_2 rfl dX11_meet_5 (al 0 33) rfl ?_
  refine zb_imul X dX11_meet_8 ?_
  refine zb_istore X (lv' := [(4, .int ((al 0 41) * (al 0 33))), (0, .ref (ad 0)), (1, .int p1), (2, .int p2), (3, .int p3)]) dX11_meet_9 (by decide) rfl ?_
  refine zb_aload_n X dX11_meet_11 rfl 1 rfl ?_
  refine zb_getR X 0 (by decide) 11 [3, 4, 5, 6, 7, 8, 9, 10, 11, 0, 12, 0, 0, 0, 0, 0, 0, 0, 0, 0, 0, 0, 0, 13, 14, 15, 16, 17, 0, 18, 19, 20, 21, 0, 0, 0, 22, 23, 24, 25, 0, 0, 26, 27, 28, 29, 0, 0, 0, 30, 0] rfl (C := RX11) (Tt := TX11) (N := 51) rfl kX11_meet_1 38 (by decide) 22 rfl kX11_meet_3 rfl dX11_meet_12 ?_
  refine zb_iload_n X dX11_meet_15 rfl 4 rfl ?_
  obtain ⟨hz, h⟩ := h
  refine zb_iald X 22 (by decide) 1 48 0 0 rfl (Or.inl rfl) p3.toNatClampNeg rfl hz dX11_meet_16 (al 22 p3.toNatClampNeg) rfl ?_
  refine zb_iload_n X dX11_meet_17 rfl 3 rfl ?_
  refine zb_isub X dX11_meet_18 ?_
  refine zb_aload_n X dX11_meet_19 rfl 1 rfl ?_
  refine zb_getI X 0 (by decide) 11 [3, 4, 5, 6, 7, 8, 9, 10, 11, 0, 12, 0, 0, 0, 0, 0, 0, 0, 0, 0, 0, 0, 0, 13, 14, 15, 16, 17, 0, 18, 19, 20, 21, 0, 0, 0, 22, 23, 24, 25, 0, 0, 26, 27, 28, 29, 0, 0, 0, 30, 0] rfl (C := RX11) (Tt := TX11) (N := 51) rfl kX11_meet_1 33 (by decide) rfl kX11_meet_2 rfl dX11_meet_20 (al 0 33) rfl ?_
  refine zb_imul X dX11_meet_23 ?_
  refine zb_istore X (lv' := [(5, .int (((al 22 p3.toNatClampNeg) - p2) * (al 0 33))), (4, .int ((al 0 41) * (al 0 33))), (0, .ref (ad 0)), (1, .int p1), (2, .int p2), (3, .int p3)]) dX11_meet_24 (by decide) rfl ?_
  refine zb_aload_n X dX11_meet_26 rfl 2 rfl ?_
  refine zb_getR X 0 (by decide) 11 [3, 4, 5, 6, 7, 8, 9, 10, 11, 0, 12, 0, 0, 0, 0, 0, 0, 0, 0, 0, 0, 0, 0, 13, 14, 15, 16, 17, 0, 18, 19, 20, 21, 0, 0, 0, 22, 23, 24, 25, 0, 0, 26, 27, 28, 29, 0, 0, 0, 30, 0] rfl (C := RX11) (Tt := TX11) (N := 51) rfl kX11_meet_1 36 (by decide) 20 rfl kX11_meet_4 rfl dX11_meet_27 ?_
  refine zb_iload_n X dX11_meet_30 rfl 3 rfl ?_
  obtain ⟨hz, h⟩ := h
  refine zb_iald X 20 (by decide) 1 48 0 0 rfl (Or.inl rfl) p1.toNatClampNeg rfl hz dX11_meet_31 (al 20 p1.toNatClampNeg) rfl ?_
  refine zb_aload_n X dX11_meet_32 rfl 2 rfl ?_
  refine zb_getR X 0 (by decide) 11 [3, 4, 5, 6, 7, 8, 9, 10, 11, 0, 12, 0, 0, 0, 0, 0, 0, 0, 0, 0, 0, 0, 0, 13, 14, 15, 16, 17, 0, 18, 19, 20, 21, 0, 0, 0, 22, 23, 24, 25, 0, 0, 26, 27, 28, 29, 0, 0, 0, 30, 0] rfl (C := RX11) (Tt := TX11) (N := 51) rfl kX11_meet_1 37 (by decide) 21 rfl kX11_meet_5 rfl dX11_meet_33 ?_
  refine zb_iload_n X dX11_meet_36 rfl 5 rfl ?_
  obtain ⟨hz, h⟩ := h
  refine zb_iald X 21 (by decide) 1 48 0 0 rfl (Or.inl rfl) p3.toNatClampNeg rfl hz dX11_meet_37 (al 21 p3.toNatClampNeg) rfl ?_
  refine zb_isub X dX11_meet_38 ?_
  refine zb_iload X dX11_meet_39 0 rfl ?_
  refine zb_isub X dX11_meet_41 ?_
  refine zb_ineg X dX11_meet_42 ?_
  refine zb_iload X dX11_meet_43 1 rfl ?_
  refine zb_callSi (n := 2) X h gX11_meet_X11_floor rfl (by decide +kernel) (by decide) rfl rfl (Nat.le_of_ble_eq_true rfl) dX11_meet_45 (kc' := 0) (ks' := 0) rfl rfl (fun q1 a1 h => ?_)
  refine zb_ineg X dX11_meet_48 ?_
  refine zb_istore X (lv' := [(6, .int (-q1)), (5, .int (((al 22 p3.toNatClampNeg) - p2) * (al 0 33))), (4, .int ((al 0 41) * (al 0 33))), (0, .ref (ad 0)), (1, .int p1), (2, .int p2), (3, .int p3)]) dX11_meet_49 (by decide) rfl ?_
  refine zb_aload_n X dX11_meet_51 rfl 3 rfl ?_
  refine zb_getR X 0 (by decide) 11 [3, 4, 5, 6, 7, 8, 9, 10, 11, 0, 12, 0, 0, 0, 0, 0, 0, 0, 0, 0, 0, 0, 0, 13, 14, 15, 16, 17, 0, 18, 19, 20, 21, 0, 0, 0, 22, 23, 24, 25, 0, 0, 26, 27, 28, 29, 0, 0, 0, 30, 0] rfl (C := RX11) (Tt := TX11) (N := 51) rfl kX11_meet_1 36 (by decide) 20 rfl kX11_meet_4 rfl dX11_meet_52 ?_
  refine zb_iload_n X dX11_meet_55 rfl 6 rfl ?_
  obtain ⟨hz, h⟩ := h
  refine zb_iald X 20 (by decide) 1 48 0 0 rfl (Or.inl rfl) p3.toNatClampNeg rfl hz dX11_meet_56 (a1 20 p3.toNatClampNeg) rfl ?_
  refine zb_iload X dX11_meet_57 1 rfl ?_
  refine zb_iadd X dX11_meet_59 ?_
  refine zb_iload X dX11_meet_60 0 rfl ?_
  refine zb_iload X dX11_meet_62 2 rfl ?_
  refine zb_imul X dX11_meet_64 ?_
  refine zb_iadd X dX11_meet_65 ?_
  refine zb_aload_n X dX11_meet_66 rfl 3 rfl ?_
  refine zb_getR X 0 (by decide) 11 [3, 4, 5, 6, 7, 8, 9, 10, 11, 0, 12, 0, 0, 0, 0, 0, 0, 0, 0, 0, 0, 0, 0, 13, 14, 15, 16, 17, 0, 18, 19, 20, 21, 0, 0, 0, 22, 23, 24, 25, 0, 0, 26, 27, 28, 29, 0, 0, 0, 30, 0] rfl (C := RX11) (Tt := TX11) (N := 51) rfl kX11_meet_1 37 (by decide) 21 rfl kX11_meet_5 rfl dX11_meet_67 ?_
  refine zb_iload_n X dX11_meet_70 rfl 4 rfl ?_
  obtain ⟨hz, h⟩ := h
  refine zb_iald X 21 (by decide) 1 48 0 0 rfl (Or.inl rfl) p1.toNatClampNeg rfl hz dX11_meet_71 (a1 21 p1.toNatClampNeg) rfl ?_
  refine zb_icmp_gt X 79 dX11_meet_72 (by decide) (fun c2 => ?_) (fun c2 => ?_)
  · have h := h.1 c2
    refine zb_iconst X (0 : Int32) dX11_meet_79 (by decide) ?_
    refine zb_sub [] rfl ?_
    exact tX11_meet_80 X p1 p2 p3 hR  (0 : Int32) a1 h
  · have h := h.2 c2
    refine zb_iconst X (1 : Int32) dX11_meet_75 (by decide) ?_
    refine zb_goto X 80 dX11_meet_76 (by decide) ?_
    refine zb_sub [] rfl ?_
    exact tX11_meet_80 X p1 p2 p3 hR  (1 : Int32) a1 h

abbrev rmX11_rotated : Room := { frames := 2, cells := 0, slots := 0, locals := 47 }
theorem kX11_rotated_0 : Cond.fieldLink RX11 246 RX11 "order" "[I" ∈ wsX11_rotated := by decide +kernel
theorem kX11_rotated_1 : zIn RX11 TX11 51 wsX11_rotated := by decide +kernel
theorem kX11_rotated_2 : Cond.fieldLink RX11 243 RX11 "offset" "[I" ∈ wsX11_rotated := by decide +kernel
theorem kX11_rotated_3 : Cond.fieldLink RX11 240 RX11 "to" "[I" ∈ wsX11_rotated := by decide +kernel
theorem kX11_rotated_4 : Cond.fieldLink RX11 234 RX11 "from" "[I" ∈ wsX11_rotated := by decide +kernel
theorem kX11_rotated_5 : Cond.fieldLink RX11 255 RX11 "around" "I" ∈ wsX11_rotated := by decide +kernel
theorem kX11_rotated_6 : Cond.fieldLink RX11 216 RX11 "distance" "I" ∈ wsX11_rotated := by decide +kernel
abbrev BX11_rotated_75 (G : zG) (Z : zC)  (ad ln : Nat → Nat) (p1 : Int32) (x2 x3 x4 x5 x6 : Int32) (al : Nat → Nat → Int32) : Prop := zB G Z rmX11_rotated 7 zTR ad ln 0 0 75 [(0, .ref (ad 0)), (1, .int p1), (2, .int x2), (3, .int x3), (4, .int x4), (5, .int x5), (6, .int x6)] [] al
abbrev BX11_rotated_51 (G : zG) (Z : zC)  (ad ln : Nat → Nat) (p1 : Int32) (x2 x3 x4 : Int32) (al : Nat → Nat → Int32) : Prop := zB G Z rmX11_rotated 7 zTR ad ln 0 0 51 [(0, .ref (ad 0)), (1, .int p1), (2, .int x2), (3, .int x3), (4, .int x4)] [] al
abbrev BX11_rotated_2 (G : zG) (Z : zC)  (ad ln : Nat → Nat) (p1 : Int32) (x2 : Int32) (al : Nat → Nat → Int32) : Prop := zB G Z rmX11_rotated 7 zTR ad ln 0 0 2 [(0, .ref (ad 0)), (1, .int p1), (2, .int x2)] [] al
def vcX11_rotated_0 (G : zG)  (ad ln : Nat → Nat) (p1 : Int32) (K2 : Int32 → (Nat → Nat → Int32) → Prop) (K51 : Int32 → Int32 → Int32 → (Nat → Nat → Int32) → Prop) (K75 : Int32 → Int32 → Int32 → Int32 → Int32 → (Nat → Nat → Int32) → Prop) (post : Int32 → (Nat → Nat → Int32) → Prop) (al : Nat → Nat → Int32) : Prop :=
  K2 (0 : Int32) al
def vcX11_rotated_2 (G : zG)  (ad ln : Nat → Nat) (p1 : Int32) (K2 : Int32 → (Nat → Nat → Int32) → Prop) (K51 : Int32 → Int32 → Int32 → (Nat → Nat → Int32) → Prop) (K75 : Int32 → Int32 → Int32 → Int32 → Int32 → (Nat → Nat → Int32) → Prop) (post : Int32 → (Nat → Nat → Int32) → Prop) (x2 : Int32) (al : Nat → Nat → Int32) : Prop :=
  (p1 ≤ x2 → post (1 : Int32) al) ∧ (¬ p1 ≤ x2 → (vp_in x2 48 ∧ vp_in (al 23 x2.toNatClampNeg) 48 ∧ vp_in (al 23 x2.toNatClampNeg) 48 ∧ vp_in (al 23 x2.toNatClampNeg) 48 ∧ (((al 21 ((al 23 x2.toNatClampNeg).toNatClampNeg)) - (al 20 ((al 23 x2.toNatClampNeg).toNatClampNeg))) < ((al 0 41) * (al 0 33)) → K51 x2 (al 23 x2.toNatClampNeg) (0 : Int32) (up2 al 22 ((al 23 x2.toNatClampNeg).toNatClampNeg) (-1 : Int32))) ∧ (¬ ((al 21 ((al 23 x2.toNatClampNeg).toNatClampNeg)) - (al 20 ((al 23 x2.toNatClampNeg).toNatClampNeg))) < ((al 0 41) * (al 0 33)) → post (0 : Int32) (up2 al 22 ((al 23 x2.toNatClampNeg).toNatClampNeg) (-1 : Int32)))))
def vcX11_rotated_135 (G : zG)  (ad ln : Nat → Nat) (p1 : Int32) (K2 : Int32 → (Nat → Nat → Int32) → Prop) (K51 : Int32 → Int32 → Int32 → (Nat → Nat → Int32) → Prop) (K75 : Int32 → Int32 → Int32 → Int32 → Int32 → (Nat → Nat → Int32) → Prop) (post : Int32 → (Nat → Nat → Int32) → Prop) (x2 x3 : Int32) (al : Nat → Nat → Int32) : Prop :=
  (vp_in x3 48 ∧ (0 ≤ (al 22 x3.toNatClampNeg) → K2 (x2 + (1 : Int32)) al) ∧ (¬ 0 ≤ (al 22 x3.toNatClampNeg) → post (0 : Int32) al))
def vcX11_rotated_51 (G : zG)  (ad ln : Nat → Nat) (p1 : Int32) (K2 : Int32 → (Nat → Nat → Int32) → Prop) (K51 : Int32 → Int32 → Int32 → (Nat → Nat → Int32) → Prop) (K75 : Int32 → Int32 → Int32 → Int32 → Int32 → (Nat → Nat → Int32) → Prop) (post : Int32 → (Nat → Nat → Int32) → Prop) (x2 x3 x4 : Int32) (al : Nat → Nat → Int32) : Prop :=
  ((al 0 41) ≤ x4 → vcX11_rotated_135 G  ad ln p1 K2 K51 K75 post x2 x3 al) ∧ (¬ (al 0 41) ≤ x4 → (vp_in x3 48 ∧ (0 ≤ (al 22 x3.toNatClampNeg) → vcX11_rotated_135 G  ad ln p1 K2 K51 K75 post x2 x3 al) ∧ (¬ 0 ≤ (al 22 x3.toNatClampNeg) → K75 x2 x3 x4 (1 : Int32) (0 : Int32) al)))
def vcX11_rotated_129 (G : zG)  (ad ln : Nat → Nat) (p1 : Int32) (K2 : Int32 → (Nat → Nat → Int32) → Prop) (K51 : Int32 → Int32 → Int32 → (Nat → Nat → Int32) → Prop) (K75 : Int32 → Int32 → Int32 → Int32 → Int32 → (Nat → Nat → Int32) → Prop) (post : Int32 → (Nat → Nat → Int32) → Prop) (x2 x3 x4 : Int32) (al : Nat → Nat → Int32) : Prop :=
  K51 x2 x3 (x4 + (1 : Int32)) al
def vcX11_rotated_116 (G : zG)  (ad ln : Nat → Nat) (p1 : Int32) (K2 : Int32 → (Nat → Nat → Int32) → Prop) (K51 : Int32 → Int32 → Int32 → (Nat → Nat → Int32) → Prop) (K75 : Int32 → Int32 → Int32 → Int32 → Int32 → (Nat → Nat → Int32) → Prop) (post : Int32 → (Nat → Nat → Int32) → Prop) (x2 x3 x4 x5 : Int32) (al : Nat → Nat → Int32) : Prop :=
  (x5 = 0 → vcX11_rotated_129 G  ad ln p1 K2 K51 K75 post x2 x3 x4 al) ∧ (¬ x5 = 0 → (vp_in x3 48 ∧ vcX11_rotated_129 G  ad ln p1 K2 K51 K75 post x2 x3 x4 (up2 al 22 x3.toNatClampNeg x4)))
def vcX11_rotated_108 (G : zG)  (ad ln : Nat → Nat) (p1 : Int32) (K2 : Int32 → (Nat → Nat → Int32) → Prop) (K51 : Int32 → Int32 → Int32 → (Nat → Nat → Int32) → Prop) (K75 : Int32 → Int32 → Int32 → Int32 → Int32 → (Nat → Nat → Int32) → Prop) (post : Int32 → (Nat → Nat → Int32) → Prop) (x2 x3 x4 x6 s0 : Int32) (al : Nat → Nat → Int32) : Prop :=
  K75 x2 x3 x4 s0 (x6 + (1 : Int32)) al
def vcX11_rotated_75 (G : zG)  (ad ln : Nat → Nat) (p1 : Int32) (K2 : Int32 → (Nat → Nat → Int32) → Prop) (K51 : Int32 → Int32 → Int32 → (Nat → Nat → Int32) → Prop) (K75 : Int32 → Int32 → Int32 → Int32 → Int32 → (Nat → Nat → Int32) → Prop) (post : Int32 → (Nat → Nat → Int32) → Prop) (x2 x3 x4 x5 x6 : Int32) (al : Nat → Nat → Int32) : Prop :=
  (x2 ≤ x6 → vcX11_rotated_116 G  ad ln p1 K2 K51 K75 post x2 x3 x4 x5 al) ∧ (¬ x2 ≤ x6 → (x5 = 0 → vcX11_rotated_116 G  ad ln p1 K2 K51 K75 post x2 x3 x4 x5 al) ∧ (¬ x5 = 0 → (vp_in x6 48 ∧ zMi G yX11_meet wsX11_meet rmX11_meet zTR ad ln [.ref (ad 0), .int x3, .int x4, .int (al 23 x6.toNatClampNeg)] al (fun q3 a3 => (¬ q3 = 0 → vcX11_rotated_108 G  ad ln p1 K2 K51 K75 post x2 x3 x4 x6 (0 : Int32) a3) ∧ (q3 = 0 → vcX11_rotated_108 G  ad ln p1 K2 K51 K75 post x2 x3 x4 x6 (1 : Int32) a3)))))
set_option maxRecDepth 20000 in
theorem tX11_rotated_0 {G : zG} {Z : zC}  {ad ln : Nat → Nat} (X : zX G Z cX11_rotated 7 RX11 wsX11_rotated) (p1 : Int32) {K2 : Int32 → (Nat → Nat → Int32) → Prop} {K51 : Int32 → Int32 → Int32 → (Nat → Nat → Int32) → Prop} {K75 : Int32 → Int32 → Int32 → Int32 → Int32 → (Nat → Nat → Int32) → Prop} {post : Int32 → (Nat → Nat → Int32) → Prop} (hR : zRi G Z rmX11_rotated 7 zTR ad ln cX11_rotated .boolean post) (hK2 : ∀ x2 : Int32, ∀ al, K2 x2 al → zB G Z rmX11_rotated 7 zTR ad ln 0 0 2 [(0, .ref (ad 0)), (1, .int p1), (2, .int x2)] [] al) (hK51 : ∀ x2 x3 x4 : Int32, ∀ al, K51 x2 x3 x4 al → zB G Z rmX11_rotated 7 zTR ad ln 0 0 51 [(0, .ref (ad 0)), (1, .int p1), (2, .int x2), (3, .int x3), (4, .int x4)] [] al) (hK75 : ∀ x2 x3 x4 x5 x6 : Int32, ∀ al, K75 x2 x3 x4 x5 x6 al → zB G Z rmX11_rotated 7 zTR ad ln 0 0 75 [(0, .ref (ad 0)), (1, .int p1), (2, .int x2), (3, .int x3), (4, .int x4), (5, .int x5), (6, .int x6)] [] al) (al : Nat → Nat → Int32) (h : vcX11_rotated_0 G  ad ln p1 K2 K51 K75 post  al) : zB G Z rmX11_rotated 7 zTR ad ln 0 0 0 [(0, .ref (ad 0)), (1, .int p1)] [] al := by
  unfold vcX11_rotated_0 at h
  refine zb_iconst X (0 : Int32) dX11_rotated_0 (by decide) ?_
  refine zb_istore_n X (lv' := [(2, .int (0 : Int32)), (0, .ref (ad 0)), (1, .int p1)]) dX11_rotated_1 rfl (by decide) rfl ?_
  refine zb_sub [1, 2, 0] rfl ?_
  exact hK2 (0 : Int32) al h
set_option maxRecDepth 20000 in
theorem tX11_rotated_2 {G : zG} {Z : zC}  {ad ln : Nat → Nat} (X : zX G Z cX11_rotated 7 RX11 wsX11_rotated) (p1 : Int32) {K2 : Int32 → (Nat → Nat → Int32) → Prop} {K51 : Int32 → Int32 → Int32 → (Nat → Nat → Int32) → Prop} {K75 : Int32 → Int32 → Int32 → Int32 → Int32 → (Nat → Nat → Int32) → Prop} {post : Int32 → (Nat → Nat → Int32) → Prop} (hR : zRi G Z rmX11_rotated 7 zTR ad ln cX11_rotated .boolean post) (hK2 : ∀ x2 : Int32, ∀ al, K2 x2 al → zB G Z rmX11_rotated 7 zTR ad ln 0 0 2 [(0, .ref (ad 0)), (1, .int p1), (2, .int x2)] [] al) (hK51 : ∀ x2 x3 x4 : Int32, ∀ al, K51 x2 x3 x4 al → zB G Z rmX11_rotated 7 zTR ad ln 0 0 51 [(0, .ref (ad 0)), (1, .int p1), (2, .int x2), (3, .int x3), (4, .int x4)] [] al) (hK75 : ∀ x2 x3 x4 x5 x6 : Int32, ∀ al, K75 x2 x3 x4 x5 x6 al → zB G Z rmX11_rotated 7 zTR ad ln 0 0 75 [(0, .ref (ad 0)), (1, .int p1), (2, .int x2), (3, .int x3), (4, .int x4), (5, .int x5), (6, .int x6)] [] al) (x2 : Int32) (al : Nat → Nat → Int32) (h : vcX11_rotated_2 G  ad ln p1 K2 K51 K75 post x2 al) : zB G Z rmX11_rotated 7 zTR ad ln 0 0 2 [(0, .ref (ad 0)), (1, .int p1), (2, .int x2)] [] al := by
  unfold vcX11_rotated_2 at h
  refine zb_iload_n X dX11_rotated_2 rfl 2 rfl ?_
  refine zb_iload_n X dX11_rotated_3 rfl 1 rfl ?_
  refine zb_icmp_ge X 152 dX11_rotated_4 (by decide) (fun c1 => ?_) (fun c1 => ?_)
  · have h := h.1 c1
    refine zb_iconst X (1 : Int32) dX11_rotated_152 (by decide) ?_
    exact hR 153 _ _ _ dX11_rotated_153 rfl h
  · have h := h.2 c1
    refine zb_aload_n X dX11_rotated_7 rfl 0 rfl ?_
    refine zb_getR X 0 (by decide) 11 [3, 4, 5, 6, 7, 8, 9, 10, 11, 0, 12, 0, 0, 0, 0, 0, 0, 0, 0, 0, 0, 0, 0, 13, 14, 15, 16, 17, 0, 18, 19, 20, 21, 0, 0, 0, 22, 23, 24, 25, 0, 0, 26, 27, 28, 29, 0, 0, 0, 30, 0] rfl (C := RX11) (Tt := TX11) (N := 51) rfl kX11_rotated_1 39 (by decide) 23 rfl kX11_rotated_0 rfl dX11_rotated_8 ?_
    refine zb_iload_n X dX11_rotated_11 rfl 2 rfl ?_
    obtain ⟨hz, h⟩ := h
    refine zb_iald X 23 (by decide) 1 48 0 0 rfl (Or.inl rfl) x2.toNatClampNeg rfl hz dX11_rotated_12 (al 23 x2.toNatClampNeg) rfl ?_
    refine zb_istore_n X (lv' := [(3, .int (al 23 x2.toNatClampNeg)), (0, .ref (ad 0)), (1, .int p1), (2, .int x2)]) dX11_rotated_13 rfl (by decide) rfl ?_
    refine zb_aload_n X dX11_rotated_14 rfl 1 rfl ?_
    refine zb_getR X 0 (by decide) 11 [3, 4, 5, 6, 7, 8, 9, 10, 11, 0, 12, 0, 0, 0, 0, 0, 0, 0, 0, 0, 0, 0, 0, 13, 14, 15, 16, 17, 0, 18, 19, 20, 21, 0, 0, 0, 22, 23, 24, 25, 0, 0, 26, 27, 28, 29, 0, 0, 0, 30, 0] rfl (C := RX11) (Tt := TX11) (N := 51) rfl kX11_rotated_1 38 (by decide) 22 rfl kX11_rotated_2 rfl dX11_rotated_15 ?_
    refine zb_iload_n X dX11_rotated_18 rfl 0 rfl ?_
    refine zb_iconst X (-1 : Int32) dX11_rotated_19 (by decide) ?_
    obtain ⟨hz, h⟩ := h
    refine zb_iast X 22 (by decide) 1 48 0 0 rfl (Or.inl rfl) ((al 23 x2.toNatClampNeg).toNatClampNeg) rfl hz dX11_rotated_20 ?_
    refine zb_aload_n X dX11_rotated_21 rfl 1 rfl ?_
    refine zb_getR X 0 (by decide) 11 [3, 4, 5, 6, 7, 8, 9, 10, 11, 0, 12, 0, 0, 0, 0, 0, 0, 0, 0, 0, 0, 0, 0, 13, 14, 15, 16, 17, 0, 18, 19, 20, 21, 0, 0, 0, 22, 23, 24, 25, 0, 0, 26, 27, 28, 29, 0, 0, 0, 30, 0] rfl (C := RX11) (Tt := TX11) (N := 51) rfl kX11_rotated_1 37 (by decide) 21 rfl kX11_rotated_3 rfl dX11_rotated_22 ?_
    refine zb_iload_n X dX11_rotated_25 rfl 0 rfl ?_
    obtain ⟨hz, h⟩ := h
    refine zb_iald X 21 (by decide) 1 48 0 0 rfl (Or.inl rfl) ((al 23 x2.toNatClampNeg).toNatClampNeg) rfl hz dX11_rotated_26 (al 21 ((al 23 x2.toNatClampNeg).toNatClampNeg)) rfl ?_
    refine zb_aload_n X dX11_rotated_27 rfl 1 rfl ?_
    refine zb_getR X 0 (by decide) 11 [3, 4, 5, 6, 7, 8, 9, 10, 11, 0, 12, 0, 0, 0, 0, 0, 0, 0, 0, 0, 0, 0, 0, 13, 14, 15, 16, 17, 0, 18, 19, 20, 21, 0, 0, 0, 22, 23, 24, 25, 0, 0, 26, 27, 28, 29, 0, 0, 0, 30, 0] rfl (C := RX11) (Tt := TX11) (N := 51) rfl kX11_rotated_1 36 (by decide) 20 rfl kX11_rotated_4 rfl dX11_rotated_28 ?_
    refine zb_iload_n X dX11_rotated_31 rfl 0 rfl ?_
    obtain ⟨hz, h⟩ := h
    refine zb_iald X 20 (by decide) 1 48 0 0 rfl (Or.inl rfl) ((al 23 x2.toNatClampNeg).toNatClampNeg) rfl hz dX11_rotated_32 (al 20 ((al 23 x2.toNatClampNeg).toNatClampNeg)) rfl ?_
    refine zb_isub X dX11_rotated_33 ?_
    refine zb_aload_n X dX11_rotated_34 rfl 1 rfl ?_
    refine zb_getI X 0 (by decide) 11 [3, 4, 5, 6, 7, 8, 9, 10, 11, 0, 12, 0, 0, 0, 0, 0, 0, 0, 0, 0, 0, 0, 0, 13, 14, 15, 16, 17, 0, 18, 19, 20, 21, 0, 0, 0, 22, 23, 24, 25, 0, 0, 26, 27, 28, 29, 0, 0, 0, 30, 0] rfl (C := RX11) (Tt := TX11) (N := 51) rfl kX11_rotated_1 41 (by decide) rfl kX11_rotated_5 rfl dX11_rotated_35 (al 0 41) rfl ?_
    refine zb_aload_n X dX11_rotated_38 rfl 1 rfl ?_
    refine zb_getI X 0 (by decide) 11 [3, 4, 5, 6, 7, 8, 9, 10, 11, 0, 12, 0, 0, 0, 0, 0, 0, 0, 0, 0, 0, 0, 0, 13, 14, 15, 16, 17, 0, 18, 19, 20, 21, 0, 0, 0, 22, 23, 24, 25, 0, 0, 26, 27, 28, 29, 0, 0, 0, 30, 0] rfl (C := RX11) (Tt := TX11) (N := 51) rfl kX11_rotated_1 33 (by decide) rfl kX11_rotated_6 rfl dX11_rotated_39 (al 0 33) rfl ?_
    refine zb_imul X dX11_rotated_42 ?_
    refine zb_icmp_lt X 48 dX11_rotated_43 (by decide) (fun c2 => ?_) (fun c2 => ?_)
    · have h := h.1 c2
      refine zb_iconst X (0 : Int32) dX11_rotated_48 (by decide) ?_
      refine zb_istore X (lv' := [(4, .int (0 : Int32)), (3, .int (al 23 x2.toNatClampNeg)), (0, .ref (ad 0)), (1, .int p1), (2, .int x2)]) dX11_rotated_49 (by decide) rfl ?_
      refine zb_sub [2, 3, 4, 1, 0] rfl ?_
      exact hK51 x2 (al 23 x2.toNatClampNeg) (0 : Int32) (up2 al 22 ((al 23 x2.toNatClampNeg).toNatClampNeg) (-1 : Int32)) h
    · have h := h.2 c2
      refine zb_iconst X (0 : Int32) dX11_rotated_46 (by decide) ?_
      exact hR 47 _ _ _ dX11_rotated_47 rfl h
set_option maxRecDepth 20000 in
theorem tX11_rotated_135 {G : zG} {Z : zC}  {ad ln : Nat → Nat} (X : zX G Z cX11_rotated 7 RX11 wsX11_rotated) (p1 : Int32) {K2 : Int32 → (Nat → Nat → Int32) → Prop} {K51 : Int32 → Int32 → Int32 → (Nat → Nat → Int32) → Prop} {K75 : Int32 → Int32 → Int32 → Int32 → Int32 → (Nat → Nat → Int32) → Prop} {post : Int32 → (Nat → Nat → Int32) → Prop} (hR : zRi G Z rmX11_rotated 7 zTR ad ln cX11_rotated .boolean post) (hK2 : ∀ x2 : Int32, ∀ al, K2 x2 al → zB G Z rmX11_rotated 7 zTR ad ln 0 0 2 [(0, .ref (ad 0)), (1, .int p1), (2, .int x2)] [] al) (hK51 : ∀ x2 x3 x4 : Int32, ∀ al, K51 x2 x3 x4 al → zB G Z rmX11_rotated 7 zTR ad ln 0 0 51 [(0, .ref (ad 0)), (1, .int p1), (2, .int x2), (3, .int x3), (4, .int x4)] [] al) (hK75 : ∀ x2 x3 x4 x5 x6 : Int32, ∀ al, K75 x2 x3 x4 x5 x6 al → zB G Z rmX11_rotated 7 zTR ad ln 0 0 75 [(0, .ref (ad 0)), (1, .int p1), (2, .int x2), (3, .int x3), (4, .int x4), (5, .int x5), (6, .int x6)] [] al) (x2 x3 : Int32) (al : Nat → Nat → Int32) (h : vcX11_rotated_135 G  ad ln p1 K2 K51 K75 post x2 x3 al) : zB G Z rmX11_rotated 7 zTR ad ln 0 0 135 [(0, .ref (ad 0)), (1, .int p1), (2, .int x2), (3, .int x3)] [] al := by
  unfold vcX11_rotated_135 at h
  refine zb_aload_n X dX11_rotated_135 rfl 0 rfl ?_
  refine zb_getR X 0 (by decide) 11 [3, 4, 5, 6, 7, 8, 9, 10, 11, 0, 12, 0, 0, 0, 0, 0, 0, 0, 0, 0, 0, 0, 0, 13, 14, 15, 16, 17, 0, 18, 19, 20, 21, 0, 0, 0, 22, 23, 24, 25, 0, 0, 26, 27, 28, 29, 0, 0, 0, 30, 0] rfl (C := RX11) (Tt := TX11) (N := 51) rfl kX11_rotated_1 38 (by decide) 22 rfl kX11_rotated_2 rfl dX11_rotated_136 ?_
  refine zb_iload_n X dX11_rotated_139 rfl 3 rfl ?_
  obtain ⟨hz, h⟩ := h
  refine zb_iald X 22 (by decide) 1 48 0 0 rfl (Or.inl rfl) x3.toNatClampNeg rfl hz dX11_rotated_140 (al 22 x3.toNatClampNeg) rfl ?_
  refine zb_if_ge X 146 dX11_rotated_141 (by decide) (fun c1 => ?_) (fun c1 => ?_)
  · have h := h.1 c1
    refine zb_iinc X (lv' := [(2, .int (x2 + (1 : Int32))), (0, .ref (ad 0)), (1, .int p1), (3, .int x3)]) (x2 + (1 : Int32)) dX11_rotated_146 2 rfl rfl (by decide) rfl ?_
    refine zb_goto X 2 dX11_rotated_149 (by decide) ?_
    refine zb_sub [1, 2, 0] rfl ?_
    exact hK2 (x2 + (1 : Int32)) al h
  · have h := h.2 c1
    refine zb_iconst X (0 : Int32) dX11_rotated_144 (by decide) ?_
    exact hR 145 _ _ _ dX11_rotated_145 rfl h
set_option maxRecDepth 20000 in
theorem tX11_rotated_51 {G : zG} {Z : zC}  {ad ln : Nat → Nat} (X : zX G Z cX11_rotated 7 RX11 wsX11_rotated) (p1 : Int32) {K2 : Int32 → (Nat → Nat → Int32) → Prop} {K51 : Int32 → Int32 → Int32 → (Nat → Nat → Int32) → Prop} {K75 : Int32 → Int32 → Int32 → Int32 → Int32 → (Nat → Nat → Int32) → Prop} {post : Int32 → (Nat → Nat → Int32) → Prop} (hR : zRi G Z rmX11_rotated 7 zTR ad ln cX11_rotated .boolean post) (hK2 : ∀ x2 : Int32, ∀ al, K2 x2 al → zB G Z rmX11_rotated 7 zTR ad ln 0 0 2 [(0, .ref (ad 0)), (1, .int p1), (2, .int x2)] [] al) (hK51 : ∀ x2 x3 x4 : Int32, ∀ al, K51 x2 x3 x4 al → zB G Z rmX11_rotated 7 zTR ad ln 0 0 51 [(0, .ref (ad 0)), (1, .int p1), (2, .int x2), (3, .int x3), (4, .int x4)] [] al) (hK75 : ∀ x2 x3 x4 x5 x6 : Int32, ∀ al, K75 x2 x3 x4 x5 x6 al → zB G Z rmX11_rotated 7 zTR ad ln 0 0 75 [(0, .ref (ad 0)), (1, .int p1), (2, .int x2), (3, .int x3), (4, .int x4), (5, .int x5), (6, .int x6)] [] al) (x2 x3 x4 : Int32) (al : Nat → Nat → Int32) (h : vcX11_rotated_51 G  ad ln p1 K2 K51 K75 post x2 x3 x4 al) : zB G Z rmX11_rotated 7 zTR ad ln 0 0 51 [(0, .ref (ad 0)), (1, .int p1), (2, .int x2), (3, .int x3), (4, .int x4)] [] al := by
  unfold vcX11_rotated_51 at h
  refine zb_iload X dX11_rotated_51 4 rfl ?_
  refine zb_aload_n X dX11_rotated_53 rfl 0 rfl ?_
  refine zb_getI X 0 (by decide) 11 [3, 4, 5, 6, 7, 8, 9, 10, 11, 0, 12, 0, 0, 0, 0, 0, 0, 0, 0, 0, 0, 0, 0, 13, 14, 15, 16, 17, 0, 18, 19, 20, 21, 0, 0, 0, 22, 23, 24, 25, 0, 0, 26, 27, 28, 29, 0, 0, 0, 30, 0] rfl (C := RX11) (Tt := TX11) (N := 51) rfl kX11_rotated_1 41 (by decide) rfl kX11_rotated_5 rfl dX11_rotated_54 (al 0 41) rfl ?_
  refine zb_icmp_ge X 135 dX11_rotated_57 (by decide) (fun c1 => ?_) (fun c1 => ?_)
  · have h := h.1 c1
    refine zb_sub [0, 1, 2, 3] rfl ?_
    exact tX11_rotated_135 X p1 hR hK2 hK51 hK75 x2 x3 al h
  · have h := h.2 c1
    refine zb_aload_n X dX11_rotated_60 rfl 0 rfl ?_
    refine zb_getR X 0 (by decide) 11 [3, 4, 5, 6, 7, 8, 9, 10, 11, 0, 12, 0, 0, 0, 0, 0, 0, 0, 0, 0, 0, 0, 0, 13, 14, 15, 16, 17, 0, 18, 19, 20, 21, 0, 0, 0, 22, 23, 24, 25, 0, 0, 26, 27, 28, 29, 0, 0, 0, 30, 0] rfl (C := RX11) (Tt := TX11) (N := 51) rfl kX11_rotated_1 38 (by decide) 22 rfl kX11_rotated_2 rfl dX11_rotated_61 ?_
    refine zb_iload_n X dX11_rotated_64 rfl 3 rfl ?_
    obtain ⟨hz, h⟩ := h
    refine zb_iald X 22 (by decide) 1 48 0 0 rfl (Or.inl rfl) x3.toNatClampNeg rfl hz dX11_rotated_65 (al 22 x3.toNatClampNeg) rfl ?_
    refine zb_if_ge X 135 dX11_rotated_66 (by decide) (fun c2 => ?_) (fun c2 => ?_)
    · have h := h.1 c2
      refine zb_sub [0, 1, 2, 3] rfl ?_
      exact tX11_rotated_135 X p1 hR hK2 hK51 hK75 x2 x3 al h
    · have h := h.2 c2
      refine zb_iconst X (1 : Int32) dX11_rotated_69 (by decide) ?_
      refine zb_istore X (lv' := [(5, .int (1 : Int32)), (0, .ref (ad 0)), (1, .int p1), (2, .int x2), (3, .int x3), (4, .int x4)]) dX11_rotated_70 (by decide) rfl ?_
      refine zb_iconst X (0 : Int32) dX11_rotated_72 (by decide) ?_
      refine zb_istore X (lv' := [(6, .int (0 : Int32)), (5, .int (1 : Int32)), (0, .ref (ad 0)), (1, .int p1), (2, .int x2), (3, .int x3), (4, .int x4)]) dX11_rotated_73 (by decide) rfl ?_
      refine zb_sub [2, 3, 4, 5, 6, 1, 0] rfl ?_
      exact hK75 x2 x3 x4 (1 : Int32) (0 : Int32) al h
set_option maxRecDepth 20000 in
theorem tX11_rotated_129 {G : zG} {Z : zC}  {ad ln : Nat → Nat} (X : zX G Z cX11_rotated 7 RX11 wsX11_rotated) (p1 : Int32) {K2 : Int32 → (Nat → Nat → Int32) → Prop} {K51 : Int32 → Int32 → Int32 → (Nat → Nat → Int32) → Prop} {K75 : Int32 → Int32 → Int32 → Int32 → Int32 → (Nat → Nat → Int32) → Prop} {post : Int32 → (Nat → Nat → Int32) → Prop} (hR : zRi G Z rmX11_rotated 7 zTR ad ln cX11_rotated .boolean post) (hK2 : ∀ x2 : Int32, ∀ al, K2 x2 al → zB G Z rmX11_rotated 7 zTR ad ln 0 0 2 [(0, .ref (ad 0)), (1, .int p1), (2, .int x2)] [] al) (hK51 : ∀ x2 x3 x4 : Int32, ∀ al, K51 x2 x3 x4 al → zB G Z rmX11_rotated 7 zTR ad ln 0 0 51 [(0, .ref (ad 0)), (1, .int p1), (2, .int x2), (3, .int x3), (4, .int x4)] [] al) (hK75 : ∀ x2 x3 x4 x5 x6 : Int32, ∀ al, K75 x2 x3 x4 x5 x6 al → zB G Z rmX11_rotated 7 zTR ad ln 0 0 75 [(0, .ref (ad 0)), (1, .int p1), (2, .int x2), (3, .int x3), (4, .int x4), (5, .int x5), (6, .int x6)] [] al) (x2 x3 x4 : Int32) (al : Nat → Nat → Int32) (h : vcX11_rotated_129 G  ad ln p1 K2 K51 K75 post x2 x3 x4 al) : zB G Z rmX11_rotated 7 zTR ad ln 0 0 129 [(0, .ref (ad 0)), (1, .int p1), (2, .int x2), (3, .int x3), (4, .int x4)] [] al := by
  unfold vcX11_rotated_129 at h
  refine zb_iinc X (lv' := [(4, .int (x4 + (1 : Int32))), (0, .ref (ad 0)), (1, .int p1), (2, .int x2), (3, .int x3)]) (x4 + (1 : Int32)) dX11_rotated_129 4 rfl rfl (by decide) rfl ?_
  refine zb_goto X 51 dX11_rotated_132 (by decide) ?_
  refine zb_sub [1, 2, 3, 4, 0] rfl ?_
  exact hK51 x2 x3 (x4 + (1 : Int32)) al h
set_option maxRecDepth 20000 in
theorem tX11_rotated_116 {G : zG} {Z : zC}  {ad ln : Nat → Nat} (X : zX G Z cX11_rotated 7 RX11 wsX11_rotated) (p1 : Int32) {K2 : Int32 → (Nat → Nat → Int32) → Prop} {K51 : Int32 → Int32 → Int32 → (Nat → Nat → Int32) → Prop} {K75 : Int32 → Int32 → Int32 → Int32 → Int32 → (Nat → Nat → Int32) → Prop} {post : Int32 → (Nat → Nat → Int32) → Prop} (hR : zRi G Z rmX11_rotated 7 zTR ad ln cX11_rotated .boolean post) (hK2 : ∀ x2 : Int32, ∀ al, K2 x2 al → zB G Z rmX11_rotated 7 zTR ad ln 0 0 2 [(0, .ref (ad 0)), (1, .int p1), (2, .int x2)] [] al) (hK51 : ∀ x2 x3 x4 : Int32, ∀ al, K51 x2 x3 x4 al → zB G Z rmX11_rotated 7 zTR ad ln 0 0 51 [(0, .ref (ad 0)), (1, .int p1), (2, .int x2), (3, .int x3), (4, .int x4)] [] al) (hK75 : ∀ x2 x3 x4 x5 x6 : Int32, ∀ al, K75 x2 x3 x4 x5 x6 al → zB G Z rmX11_rotated 7 zTR ad ln 0 0 75 [(0, .ref (ad 0)), (1, .int p1), (2, .int x2), (3, .int x3), (4, .int x4), (5, .int x5), (6, .int x6)] [] al) (x2 x3 x4 x5 : Int32) (al : Nat → Nat → Int32) (h : vcX11_rotated_116 G  ad ln p1 K2 K51 K75 post x2 x3 x4 x5 al) : zB G Z rmX11_rotated 7 zTR ad ln 0 0 116 [(0, .ref (ad 0)), (1, .int p1), (2, .int x2), (3, .int x3), (4, .int x4), (5, .int x5)] [] al := by
  unfold vcX11_rotated_116 at h
  refine zb_iload X dX11_rotated_116 5 rfl ?_
  refine zb_if_eq X 129 dX11_rotated_118 (by decide) (fun c1 => ?_) (fun c1 => ?_)
  · have h := h.1 c1
    refine zb_sub [0, 1, 2, 3, 4] rfl ?_
    exact tX11_rotated_129 X p1 hR hK2 hK51 hK75 x2 x3 x4 al h
  · have h := h.2 c1
    refine zb_aload_n X dX11_rotated_121 rfl 0 rfl ?_
    refine zb_getR X 0 (by decide) 11 [3, 4, 5, 6, 7, 8, 9, 10, 11, 0, 12, 0, 0, 0, 0, 0, 0, 0, 0, 0, 0, 0, 0, 13, 14, 15, 16, 17, 0, 18, 19, 20, 21, 0, 0, 0, 22, 23, 24, 25, 0, 0, 26, 27, 28, 29, 0, 0, 0, 30, 0] rfl (C := RX11) (Tt := TX11) (N := 51) rfl kX11_rotated_1 38 (by decide) 22 rfl kX11_rotated_2 rfl dX11_rotated_122 ?_
    refine zb_iload_n X dX11_rotated_125 rfl 3 rfl ?_
    refine zb_iload X dX11_rotated_126 4 rfl ?_
    obtain ⟨hz, h⟩ := h
    refine zb_iast X 22 (by decide) 1 48 0 0 rfl (Or.inl rfl) x3.toNatClampNeg rfl hz dX11_rotated_128 ?_
    refine zb_sub [0, 1, 2, 3, 4] rfl ?_
    exact tX11_rotated_129 X p1 hR hK2 hK51 hK75 x2 x3 x4 (up2 al 22 x3.toNatClampNeg x4) h
set_option maxRecDepth 20000 in
theorem tX11_rotated_108 {G : zG} {Z : zC}  {ad ln : Nat → Nat} (X : zX G Z cX11_rotated 7 RX11 wsX11_rotated) (p1 : Int32) {K2 : Int32 → (Nat → Nat → Int32) → Prop} {K51 : Int32 → Int32 → Int32 → (Nat → Nat → Int32) → Prop} {K75 : Int32 → Int32 → Int32 → Int32 → Int32 → (Nat → Nat → Int32) → Prop} {post : Int32 → (Nat → Nat → Int32) → Prop} (hR : zRi G Z rmX11_rotated 7 zTR ad ln cX11_rotated .boolean post) (hK2 : ∀ x2 : Int32, ∀ al, K2 x2 al → zB G Z rmX11_rotated 7 zTR ad ln 0 0 2 [(0, .ref (ad 0)), (1, .int p1), (2, .int x2)] [] al) (hK51 : ∀ x2 x3 x4 : Int32, ∀ al, K51 x2 x3 x4 al → zB G Z rmX11_rotated 7 zTR ad ln 0 0 51 [(0, .ref (ad 0)), (1, .int p1), (2, .int x2), (3, .int x3), (4, .int x4)] [] al) (hK75 : ∀ x2 x3 x4 x5 x6 : Int32, ∀ al, K75 x2 x3 x4 x5 x6 al → zB G Z rmX11_rotated 7 zTR ad ln 0 0 75 [(0, .ref (ad 0)), (1, .int p1), (2, .int x2), (3, .int x3), (4, .int x4), (5, .int x5), (6, .int x6)] [] al) (x2 x3 x4 x6 s0 : Int32) (al : Nat → Nat → Int32) (h : vcX11_rotated_108 G  ad ln p1 K2 K51 K75 post x2 x3 x4 x6 s0 al) : zB G Z rmX11_rotated 7 zTR ad ln 0 0 108 [(0, .ref (ad 0)), (1, .int p1), (2, .int x2), (3, .int x3), (4, .int x4), (6, .int x6)] [.int s0] al := by
  unfold vcX11_rotated_108 at h
  refine zb_istore X (lv' := [(5, .int s0), (0, .ref (ad 0)), (1, .int p1), (2, .int x2), (3, .int x3), (4, .int x4), (6, .int x6)]) dX11_rotated_108 (by decide) rfl ?_
  refine zb_iinc X (lv' := [(6, .int (x6 + (1 : Int32))), (5, .int s0), (0, .ref (ad 0)), (1, .int p1), (2, .int x2), (3, .int x3), (4, .int x4)]) (x6 + (1 : Int32)) dX11_rotated_110 6 rfl rfl (by decide) rfl ?_
  refine zb_goto X 75 dX11_rotated_113 (by decide) ?_
  refine zb_sub [2, 3, 4, 5, 6, 1, 0] rfl ?_
  exact hK75 x2 x3 x4 s0 (x6 + (1 : Int32)) al h
set_option maxRecDepth 20000 in
theorem tX11_rotated_75 {G : zG} {Z : zC}  {ad ln : Nat → Nat} (X : zX G Z cX11_rotated 7 RX11 wsX11_rotated) (p1 : Int32) {K2 : Int32 → (Nat → Nat → Int32) → Prop} {K51 : Int32 → Int32 → Int32 → (Nat → Nat → Int32) → Prop} {K75 : Int32 → Int32 → Int32 → Int32 → Int32 → (Nat → Nat → Int32) → Prop} {post : Int32 → (Nat → Nat → Int32) → Prop} (hR : zRi G Z rmX11_rotated 7 zTR ad ln cX11_rotated .boolean post) (hK2 : ∀ x2 : Int32, ∀ al, K2 x2 al → zB G Z rmX11_rotated 7 zTR ad ln 0 0 2 [(0, .ref (ad 0)), (1, .int p1), (2, .int x2)] [] al) (hK51 : ∀ x2 x3 x4 : Int32, ∀ al, K51 x2 x3 x4 al → zB G Z rmX11_rotated 7 zTR ad ln 0 0 51 [(0, .ref (ad 0)), (1, .int p1), (2, .int x2), (3, .int x3), (4, .int x4)] [] al) (hK75 : ∀ x2 x3 x4 x5 x6 : Int32, ∀ al, K75 x2 x3 x4 x5 x6 al → zB G Z rmX11_rotated 7 zTR ad ln 0 0 75 [(0, .ref (ad 0)), (1, .int p1), (2, .int x2), (3, .int x3), (4, .int x4), (5, .int x5), (6, .int x6)] [] al) (x2 x3 x4 x5 x6 : Int32) (al : Nat → Nat → Int32) (h : vcX11_rotated_75 G  ad ln p1 K2 K51 K75 post x2 x3 x4 x5 x6 al) : zB G Z rmX11_rotated 7 zTR ad ln 0 0 75 [(0, .ref (ad 0)), (1, .int p1), (2, .int x2), (3, .int x3), (4, .int x4), (5, .int x5), (6, .int x6)] [] al := by
  unfold vcX11_rotated_75 at h
  refine zb_iload X dX11_rotated_75 6 rfl ?_
  refine zb_iload_n X dX11_rotated_77 rfl 2 rfl ?_
  refine zb_icmp_ge X 116 dX11_rotated_78 (by decide) (fun c1 => ?_) (fun c1 => ?_)
  · have h := h.1 c1
    refine zb_sub [0, 1, 2, 3, 4, 5] rfl ?_
    exact tX11_rotated_116 X p1 hR hK2 hK51 hK75 x2 x3 x4 x5 al h
  · have h := h.2 c1
    refine zb_iload X dX11_rotated_81 5 rfl ?_
    refine zb_if_eq X 116 dX11_rotated_83 (by decide) (fun c2 => ?_) (fun c2 => ?_)
    · have h := h.1 c2
      refine zb_sub [0, 1, 2, 3, 4, 5] rfl ?_
      exact tX11_rotated_116 X p1 hR hK2 hK51 hK75 x2 x3 x4 x5 al h
    · have h := h.2 c2
      refine zb_aload_n X dX11_rotated_86 rfl 0 rfl ?_
      refine zb_iload_n X dX11_rotated_87 rfl 3 rfl ?_
      refine zb_iload X dX11_rotated_88 4 rfl ?_
      refine zb_aload_n X dX11_rotated_90 rfl 0 rfl ?_
      refine zb_getR X 0 (by decide) 11 [3, 4, 5, 6, 7, 8, 9, 10, 11, 0, 12, 0, 0, 0, 0, 0, 0, 0, 0, 0, 0, 0, 0, 13, 14, 15, 16, 17, 0, 18, 19, 20, 21, 0, 0, 0, 22, 23, 24, 25, 0, 0, 26, 27, 28, 29, 0, 0, 0, 30, 0] rfl (C := RX11) (Tt := TX11) (N := 51) rfl kX11_rotated_1 39 (by decide) 23 rfl kX11_rotated_0 rfl dX11_rotated_91 ?_
      refine zb_iload X dX11_rotated_94 6 rfl ?_
      obtain ⟨hz, h⟩ := h
      refine zb_iald X 23 (by decide) 1 48 0 0 rfl (Or.inl rfl) x6.toNatClampNeg rfl hz dX11_rotated_96 (al 23 x6.toNatClampNeg) rfl ?_
      refine zb_callVi (n := 3) X 0 (by decide) 11 [3, 4, 5, 6, 7, 8, 9, 10, 11, 0, 12, 0, 0, 0, 0, 0, 0, 0, 0, 0, 0, 0, 0, 13, 14, 15, 16, 17, 0, 18, 19, 20, 21, 0, 0, 0, 22, 23, 24, 25, 0, 0, 26, 27, 28, 29, 0, 0, 0, 30, 0] rfl (C := RX11) (Tt := TX11) (N := 51) rfl h gX11_rotated_X11_meet rfl (by decide +kernel) (by decide) rfl rfl (Nat.le_of_ble_eq_true rfl) dX11_rotated_97 (kc' := 0) (ks' := 0) rfl rfl (fun q3 a3 h => ?_)
      refine zb_if_ne X 107 dX11_rotated_100 (by decide) (fun c4 => ?_) (fun c4 => ?_)
      · have h := h.1 c4
        refine zb_iconst X (0 : Int32) dX11_rotated_107 (by decide) ?_
        refine zb_sub [0, 1, 2, 3, 4, 6] rfl ?_
        exact tX11_rotated_108 X p1 hR hK2 hK51 hK75 x2 x3 x4 x6 (0 : Int32) a3 h
      · have h := h.2 c4
        refine zb_iconst X (1 : Int32) dX11_rotated_103 (by decide) ?_
        refine zb_goto X 108 dX11_rotated_104 (by decide) ?_
        refine zb_sub [0, 1, 2, 3, 4, 6] rfl ?_
        exact tX11_rotated_108 X p1 hR hK2 hK51 hK75 x2 x3 x4 x6 (1 : Int32) a3 h
theorem uX11_rotated_0 {G : zG} {Z : zC}  {ad ln : Nat → Nat} (X : zX G Z cX11_rotated 7 RX11 wsX11_rotated) (p1 : Int32) {post : Int32 → (Nat → Nat → Int32) → Prop} (hR : zRi G Z rmX11_rotated 7 zTR ad ln cX11_rotated .boolean post) (al : Nat → Nat → Int32) (h : vcX11_rotated_0 G  ad ln p1 (BX11_rotated_2 G Z  ad ln p1) (BX11_rotated_51 G Z  ad ln p1) (BX11_rotated_75 G Z  ad ln p1) post  al) : zB G Z rmX11_rotated 7 zTR ad ln 0 0 0 [(0, .ref (ad 0)), (1, .int p1)] [] al := tX11_rotated_0 X p1 hR (fun _ _ h => h) (fun _ _ _ _ h => h) (fun _ _ _ _ _ _ h => h)  al h
theorem uX11_rotated_2 {G : zG} {Z : zC}  {ad ln : Nat → Nat} (X : zX G Z cX11_rotated 7 RX11 wsX11_rotated) (p1 : Int32) {post : Int32 → (Nat → Nat → Int32) → Prop} (hR : zRi G Z rmX11_rotated 7 zTR ad ln cX11_rotated .boolean post) (x2 : Int32) (al : Nat → Nat → Int32) (h : vcX11_rotated_2 G  ad ln p1 (BX11_rotated_2 G Z  ad ln p1) (BX11_rotated_51 G Z  ad ln p1) (BX11_rotated_75 G Z  ad ln p1) post x2 al) : zB G Z rmX11_rotated 7 zTR ad ln 0 0 2 [(0, .ref (ad 0)), (1, .int p1), (2, .int x2)] [] al := tX11_rotated_2 X p1 hR (fun _ _ h => h) (fun _ _ _ _ h => h) (fun _ _ _ _ _ _ h => h) x2 al h
theorem uX11_rotated_135 {G : zG} {Z : zC}  {ad ln : Nat → Nat} (X : zX G Z cX11_rotated 7 RX11 wsX11_rotated) (p1 : Int32) {post : Int32 → (Nat → Nat → Int32) → Prop} (hR : zRi G Z rmX11_rotated 7 zTR ad ln cX11_rotated .boolean post) (x2 x3 : Int32) (al : Nat → Nat → Int32) (h : vcX11_rotated_135 G  ad ln p1 (BX11_rotated_2 G Z  ad ln p1) (BX11_rotated_51 G Z  ad ln p1) (BX11_rotated_75 G Z  ad ln p1) post x2 x3 al) : zB G Z rmX11_rotated 7 zTR ad ln 0 0 135 [(0, .ref (ad 0)), (1, .int p1), (2, .int x2), (3, .int x3)] [] al := tX11_rotated_135 X p1 hR (fun _ _ h => h) (fun _ _ _ _ h => h) (fun _ _ _ _ _ _ h => h) x2 x3 al h
theorem uX11_rotated_51 {G : zG} {Z : zC}  {ad ln : Nat → Nat} (X : zX G Z cX11_rotated 7 RX11 wsX11_rotated) (p1 : Int32) {post : Int32 → (Nat → Nat → Int32) → Prop} (hR : zRi G Z rmX11_rotated 7 zTR ad ln cX11_rotated .boolean post) (x2 x3 x4 : Int32) (al : Nat → Nat → Int32) (h : vcX11_rotated_51 G  ad ln p1 (BX11_rotated_2 G Z  ad ln p1) (BX11_rotated_51 G Z  ad ln p1) (BX11_rotated_75 G Z  ad ln p1) post x2 x3 x4 al) : zB G Z rmX11_rotated 7 zTR ad ln 0 0 51 [(0, .ref (ad 0)), (1, .int p1), (2, .int x2), (3, .int x3), (4, .int x4)] [] al := tX11_rotated_51 X p1 hR (fun _ _ h => h) (fun _ _ _ _ h => h) (fun _ _ _ _ _ _ h => h) x2 x3 x4 al h
theorem uX11_rotated_129 {G : zG} {Z : zC}  {ad ln : Nat → Nat} (X : zX G Z cX11_rotated 7 RX11 wsX11_rotated) (p1 : Int32) {post : Int32 → (Nat → Nat → Int32) → Prop} (hR : zRi G Z rmX11_rotated 7 zTR ad ln cX11_rotated .boolean post) (x2 x3 x4 : Int32) (al : Nat → Nat → Int32) (h : vcX11_rotated_129 G  ad ln p1 (BX11_rotated_2 G Z  ad ln p1) (BX11_rotated_51 G Z  ad ln p1) (BX11_rotated_75 G Z  ad ln p1) post x2 x3 x4 al) : zB G Z rmX11_rotated 7 zTR ad ln 0 0 129 [(0, .ref (ad 0)), (1, .int p1), (2, .int x2), (3, .int x3), (4, .int x4)] [] al := tX11_rotated_129 X p1 hR (fun _ _ h => h) (fun _ _ _ _ h => h) (fun _ _ _ _ _ _ h => h) x2 x3 x4 al h
theorem uX11_rotated_116 {G : zG} {Z : zC}  {ad ln : Nat → Nat} (X : zX G Z cX11_rotated 7 RX11 wsX11_rotated) (p1 : Int32) {post : Int32 → (Nat → Nat → Int32) → Prop} (hR : zRi G Z rmX11_rotated 7 zTR ad ln cX11_rotated .boolean post) (x2 x3 x4 x5 : Int32) (al : Nat → Nat → Int32) (h : vcX11_rotated_116 G  ad ln p1 (BX11_rotated_2 G Z  ad ln p1) (BX11_rotated_51 G Z  ad ln p1) (BX11_rotated_75 G Z  ad ln p1) post x2 x3 x4 x5 al) : zB G Z rmX11_rotated 7 zTR ad ln 0 0 116 [(0, .ref (ad 0)), (1, .int p1), (2, .int x2), (3, .int x3), (4, .int x4), (5, .int x5)] [] al := tX11_rotated_116 X p1 hR (fun _ _ h => h) (fun _ _ _ _ h => h) (fun _ _ _ _ _ _ h => h) x2 x3 x4 x5 al h
theorem uX11_rotated_108 {G : zG} {Z : zC}  {ad ln : Nat → Nat} (X : zX G Z cX11_rotated 7 RX11 wsX11_rotated) (p1 : Int32) {post : Int32 → (Nat → Nat → Int32) → Prop} (hR : zRi G Z rmX11_rotated 7 zTR ad ln cX11_rotated .boolean post) (x2 x3 x4 x6 s0 : Int32) (al : Nat → Nat → Int32) (h : vcX11_rotated_108 G  ad ln p1 (BX11_rotated_2 G Z  ad ln p1) (BX11_rotated_51 G Z  ad ln p1) (BX11_rotated_75 G Z  ad ln p1) post x2 x3 x4 x6 s0 al) : zB G Z rmX11_rotated 7 zTR ad ln 0 0 108 [(0, .ref (ad 0)), (1, .int p1), (2, .int x2), (3, .int x3), (4, .int x4), (6, .int x6)] [.int s0] al := tX11_rotated_108 X p1 hR (fun _ _ h => h) (fun _ _ _ _ h => h) (fun _ _ _ _ _ _ h => h) x2 x3 x4 x6 s0 al h
theorem uX11_rotated_75 {G : zG} {Z : zC}  {ad ln : Nat → Nat} (X : zX G Z cX11_rotated 7 RX11 wsX11_rotated) (p1 : Int32) {post : Int32 → (Nat → Nat → Int32) → Prop} (hR : zRi G Z rmX11_rotated 7 zTR ad ln cX11_rotated .boolean post) (x2 x3 x4 x5 x6 : Int32) (al : Nat → Nat → Int32) (h : vcX11_rotated_75 G  ad ln p1 (BX11_rotated_2 G Z  ad ln p1) (BX11_rotated_51 G Z  ad ln p1) (BX11_rotated_75 G Z  ad ln p1) post x2 x3 x4 x5 x6 al) : zB G Z rmX11_rotated 7 zTR ad ln 0 0 75 [(0, .ref (ad 0)), (1, .int p1), (2, .int x2), (3, .int x3), (4, .int x4), (5, .int x5), (6, .int x6)] [] al := tX11_rotated_75 X p1 hR (fun _ _ h => h) (fun _ _ _ _ h => h) (fun _ _ _ _ _ _ h => h) x2 x3 x4 x5 x6 al h

abbrev rmX11_spans : Room := { frames := 3, cells := 0, slots := 0, locals := 73 }
theorem kX11_spans_0 : Cond.fieldLink RX11 137 RX11 "rows" "I" ∈ wsX11_spans := by decide +kernel
theorem kX11_spans_1 : zIn RX11 TX11 51 wsX11_spans := by decide +kernel
theorem kX11_spans_2 : Cond.fieldLink RX11 249 RX11 "need" "I" ∈ wsX11_spans := by decide +kernel
theorem kX11_spans_3 : Cond.fieldLink RX11 234 RX11 "from" "[I" ∈ wsX11_spans := by decide +kernel
theorem kX11_spans_4 : Cond.fieldLink RX11 240 RX11 "to" "[I" ∈ wsX11_spans := by decide +kernel
theorem kX11_spans_5 : Cond.fieldLink RX11 243 RX11 "offset" "[I" ∈ wsX11_spans := by decide +kernel
theorem kX11_spans_6 : Cond.fieldLink RX11 91 RX11 "sets" "[I" ∈ wsX11_spans := by decide +kernel
theorem kX11_spans_7 : Cond.fieldLink RX11 189 RX11 "cycle" "[I" ∈ wsX11_spans := by decide +kernel
theorem kX11_spans_8 : Cond.fieldLink RX11 216 RX11 "distance" "I" ∈ wsX11_spans := by decide +kernel
theorem kX11_spans_9 : Cond.methodLink RX11 134 Lib.Math.max.name ∈ wsX11_spans := by decide +kernel
theorem kX11_spans_10 : Cond.static Lib.Math.max.name ∈ wsX11_spans := by decide +kernel
theorem kX11_spans_11 : Cond.initialized "java/lang/Math" ∈ wsX11_spans := by decide +kernel
theorem kX11_spans_12 : Cond.code Lib.Math.max.name Lib.Math.max.code 2 (some .int) ∈ wsX11_spans := by decide +kernel
theorem kX11_spans_13 : Cond.fieldLink RX11 255 RX11 "around" "I" ∈ wsX11_spans := by decide +kernel
theorem kX11_spans_14 : Cond.fieldLink RX11 246 RX11 "order" "[I" ∈ wsX11_spans := by decide +kernel
abbrev BX11_spans_287 (G : zG) (Z : zC)  (ad ln : Nat → Nat) (x1 : Int32) (al : Nat → Nat → Int32) : Prop := zB G Z rmX11_spans 5 zTR ad ln 0 0 287 [(0, .ref (ad 0)), (1, .int x1)] [] al
abbrev BX11_spans_219 (G : zG) (Z : zC)  (ad ln : Nat → Nat) (x1 x2 x3 x4 : Int32) (al : Nat → Nat → Int32) : Prop := zB G Z rmX11_spans 5 zTR ad ln 0 0 219 [(0, .ref (ad 0)), (1, .int x1), (2, .int x2), (3, .int x3), (4, .int x4)] [] al
abbrev BX11_spans_206 (G : zG) (Z : zC)  (ad ln : Nat → Nat) (x1 x2 : Int32) (al : Nat → Nat → Int32) : Prop := zB G Z rmX11_spans 5 zTR ad ln 0 0 206 [(0, .ref (ad 0)), (1, .int x1), (2, .int x2)] [] al
abbrev BX11_spans_137 (G : zG) (Z : zC)  (ad ln : Nat → Nat) (x1 x2 x3 : Int32) (al : Nat → Nat → Int32) : Prop := zB G Z rmX11_spans 5 zTR ad ln 0 0 137 [(0, .ref (ad 0)), (1, .int x1), (2, .int x2), (3, .int x3)] [] al
abbrev BX11_spans_35 (G : zG) (Z : zC)  (ad ln : Nat → Nat) (x1 x2 x3 : Int32) (al : Nat → Nat → Int32) : Prop := zB G Z rmX11_spans 5 zTR ad ln 0 0 35 [(0, .ref (ad 0)), (1, .int x1), (2, .int x2), (3, .int x3)] [] al
abbrev BX11_spans_4 (G : zG) (Z : zC)  (ad ln : Nat → Nat) (x1 x2 : Int32) (al : Nat → Nat → Int32) : Prop := zB G Z rmX11_spans 5 zTR ad ln 0 0 4 [(0, .ref (ad 0)), (1, .int x1), (2, .int x2)] [] al
def vcX11_spans_0 (G : zG)  (ad ln : Nat → Nat) (K4 : Int32 → Int32 → (Nat → Nat → Int32) → Prop) (K35 : Int32 → Int32 → Int32 → (Nat → Nat → Int32) → Prop) (K137 : Int32 → Int32 → Int32 → (Nat → Nat → Int32) → Prop) (K206 : Int32 → Int32 → (Nat → Nat → Int32) → Prop) (K219 : Int32 → Int32 → Int32 → Int32 → (Nat → Nat → Int32) → Prop) (K287 : Int32 → (Nat → Nat → Int32) → Prop) (post : Int32 → (Nat → Nat → Int32) → Prop) (al : Nat → Nat → Int32) : Prop :=
  K4 (0 : Int32) (0 : Int32) al
def vcX11_spans_4 (G : zG)  (ad ln : Nat → Nat) (K4 : Int32 → Int32 → (Nat → Nat → Int32) → Prop) (K35 : Int32 → Int32 → Int32 → (Nat → Nat → Int32) → Prop) (K137 : Int32 → Int32 → Int32 → (Nat → Nat → Int32) → Prop) (K206 : Int32 → Int32 → (Nat → Nat → Int32) → Prop) (K219 : Int32 → Int32 → Int32 → Int32 → (Nat → Nat → Int32) → Prop) (K287 : Int32 → (Nat → Nat → Int32) → Prop) (post : Int32 → (Nat → Nat → Int32) → Prop) (x1 x2 : Int32) (al : Nat → Nat → Int32) : Prop :=
  ((al 0 9) ≤ x2 → K206 x1 (0 : Int32) (up2 al 0 40 (0 : Int32))) ∧ (¬ (al 0 9) ≤ x2 → (vp_in x2 48 ∧ vp_in x2 48 ∧ vp_in x2 48 ∧ K35 x1 x2 (0 : Int32) (up2 (up2 (up2 al 20 x2.toNatClampNeg (-1 : Int32)) 21 x2.toNatClampNeg (-1 : Int32)) 22 x2.toNatClampNeg (-1 : Int32))))
def vcX11_spans_193 (G : zG)  (ad ln : Nat → Nat) (K4 : Int32 → Int32 → (Nat → Nat → Int32) → Prop) (K35 : Int32 → Int32 → Int32 → (Nat → Nat → Int32) → Prop) (K137 : Int32 → Int32 → Int32 → (Nat → Nat → Int32) → Prop) (K206 : Int32 → Int32 → (Nat → Nat → Int32) → Prop) (K219 : Int32 → Int32 → Int32 → Int32 → (Nat → Nat → Int32) → Prop) (K287 : Int32 → (Nat → Nat → Int32) → Prop) (post : Int32 → (Nat → Nat → Int32) → Prop) (x1 x2 : Int32) (al : Nat → Nat → Int32) : Prop :=
  K4 x1 (x2 + (1 : Int32)) al
def vcX11_spans_105 (G : zG)  (ad ln : Nat → Nat) (K4 : Int32 → Int32 → (Nat → Nat → Int32) → Prop) (K35 : Int32 → Int32 → Int32 → (Nat → Nat → Int32) → Prop) (K137 : Int32 → Int32 → Int32 → (Nat → Nat → Int32) → Prop) (K206 : Int32 → Int32 → (Nat → Nat → Int32) → Prop) (K219 : Int32 → Int32 → Int32 → Int32 → (Nat → Nat → Int32) → Prop) (K287 : Int32 → (Nat → Nat → Int32) → Prop) (post : Int32 → (Nat → Nat → Int32) → Prop) (x1 x2 : Int32) (al : Nat → Nat → Int32) : Prop :=
  (vp_in x2 48 ∧ (0 ≤ (al 21 x2.toNatClampNeg) → (vp_in x2 48 ∧ zMi G yX11_time wsX11_time rmX11_time zTR ad ln [.ref (ad 0), .int x2] al (fun q2 a2 => (vp_in x2 48 ∧ K137 x1 x2 x1 (up2 a2 20 x2.toNatClampNeg ((al 17 x2.toNatClampNeg) + q2)))))) ∧ (¬ 0 ≤ (al 21 x2.toNatClampNeg) → vcX11_spans_193 G  ad ln K4 K35 K137 K206 K219 K287 post x1 x2 al))
def vcX11_spans_99 (G : zG)  (ad ln : Nat → Nat) (K4 : Int32 → Int32 → (Nat → Nat → Int32) → Prop) (K35 : Int32 → Int32 → Int32 → (Nat → Nat → Int32) → Prop) (K137 : Int32 → Int32 → Int32 → (Nat → Nat → Int32) → Prop) (K206 : Int32 → Int32 → (Nat → Nat → Int32) → Prop) (K219 : Int32 → Int32 → Int32 → Int32 → (Nat → Nat → Int32) → Prop) (K287 : Int32 → (Nat → Nat → Int32) → Prop) (post : Int32 → (Nat → Nat → Int32) → Prop) (x1 x2 x3 : Int32) (al : Nat → Nat → Int32) : Prop :=
  K35 x1 x2 (x3 + (1 : Int32)) al
def vcX11_spans_35 (G : zG)  (ad ln : Nat → Nat) (K4 : Int32 → Int32 → (Nat → Nat → Int32) → Prop) (K35 : Int32 → Int32 → Int32 → (Nat → Nat → Int32) → Prop) (K137 : Int32 → Int32 → Int32 → (Nat → Nat → Int32) → Prop) (K206 : Int32 → Int32 → (Nat → Nat → Int32) → Prop) (K219 : Int32 → Int32 → Int32 → Int32 → (Nat → Nat → Int32) → Prop) (K287 : Int32 → (Nat → Nat → Int32) → Prop) (post : Int32 → (Nat → Nat → Int32) → Prop) (x1 x2 x3 : Int32) (al : Nat → Nat → Int32) : Prop :=
  (vp_in x2 49 ∧ ((al 2 x2.toNatClampNeg) < 0 → vcX11_spans_105 G  ad ln K4 K35 K137 K206 K219 K287 post x1 x2 al) ∧ (¬ (al 2 x2.toNatClampNeg) < 0 → ((al 0 9) ≤ x3 → vcX11_spans_105 G  ad ln K4 K35 K137 K206 K219 K287 post x1 x2 al) ∧ (¬ (al 0 9) ≤ x3 → (vp_in x2 49 ∧ zMi G yX11_uses wsX11_uses rmX11_uses zTR ad ln [.ref (ad 0), .int x3, .int (al 2 x2.toNatClampNeg)] al (fun q3 a3 => (q3 = 0 → vcX11_spans_99 G  ad ln K4 K35 K137 K206 K219 K287 post x1 x2 x3 a3) ∧ (¬ q3 = 0 → (vp_in x2 48 ∧ vp_in x3 48 ∧ zMi G yX11_useOver wsX11_useOver rmX11_useOver zTR ad ln [.ref (ad 0), .int x2, .int x3] a3 (fun q5 a5 => (vp_in x2 48 ∧ vcX11_spans_99 G  ad ln K4 K35 K137 K206 K219 K287 post x1 x2 x3 (up2 a5 21 x2.toNatClampNeg (if (a3 21 x2.toNatClampNeg) < ((a3 17 x3.toNatClampNeg) + (q5 * (a5 0 33))) then ((a3 17 x3.toNatClampNeg) + (q5 * (a5 0 33))) else (a3 21 x2.toNatClampNeg))))))))))))
def vcX11_spans_206 (G : zG)  (ad ln : Nat → Nat) (K4 : Int32 → Int32 → (Nat → Nat → Int32) → Prop) (K35 : Int32 → Int32 → Int32 → (Nat → Nat → Int32) → Prop) (K137 : Int32 → Int32 → Int32 → (Nat → Nat → Int32) → Prop) (K206 : Int32 → Int32 → (Nat → Nat → Int32) → Prop) (K219 : Int32 → Int32 → Int32 → Int32 → (Nat → Nat → Int32) → Prop) (K287 : Int32 → (Nat → Nat → Int32) → Prop) (post : Int32 → (Nat → Nat → Int32) → Prop) (x1 x2 : Int32) (al : Nat → Nat → Int32) : Prop :=
  ((al 0 33) ≤ x2 → ((al 0 40) ≤ (96 : Int32) → K287 x1 (up2 al 0 41 (if (al 0 40) < (1 : Int32) then (1 : Int32) else (al 0 40)))) ∧ (¬ (al 0 40) ≤ (96 : Int32) → post (0 : Int32) al)) ∧ (¬ (al 0 33) ≤ x2 → K219 x1 x2 (0 : Int32) (0 : Int32) al)
def vcX11_spans_219 (G : zG)  (ad ln : Nat → Nat) (K4 : Int32 → Int32 → (Nat → Nat → Int32) → Prop) (K35 : Int32 → Int32 → Int32 → (Nat → Nat → Int32) → Prop) (K137 : Int32 → Int32 → Int32 → (Nat → Nat → Int32) → Prop) (K206 : Int32 → Int32 → (Nat → Nat → Int32) → Prop) (K219 : Int32 → Int32 → Int32 → Int32 → (Nat → Nat → Int32) → Prop) (K287 : Int32 → (Nat → Nat → Int32) → Prop) (post : Int32 → (Nat → Nat → Int32) → Prop) (x1 x2 x3 x4 : Int32) (al : Nat → Nat → Int32) : Prop :=
  (x1 ≤ x4 → K206 x1 (x2 + (1 : Int32)) (up2 al 0 40 (if (al 0 40) < x3 then x3 else (al 0 40)))) ∧ (¬ x1 ≤ x4 → (vp_in x4 48 ∧ zMi G yX11_alive wsX11_alive rmX11_alive zTR ad ln [.ref (ad 0), .int (al 23 x4.toNatClampNeg), .int x2] al (fun q2 a2 => K219 x1 x2 (x3 + q2) (x4 + (1 : Int32)) a2)))
def vcX11_spans_287 (G : zG)  (ad ln : Nat → Nat) (K4 : Int32 → Int32 → (Nat → Nat → Int32) → Prop) (K35 : Int32 → Int32 → Int32 → (Nat → Nat → Int32) → Prop) (K137 : Int32 → Int32 → Int32 → (Nat → Nat → Int32) → Prop) (K206 : Int32 → Int32 → (Nat → Nat → Int32) → Prop) (K219 : Int32 → Int32 → Int32 → Int32 → (Nat → Nat → Int32) → Prop) (K287 : Int32 → (Nat → Nat → Int32) → Prop) (post : Int32 → (Nat → Nat → Int32) → Prop) (x1 : Int32) (al : Nat → Nat → Int32) : Prop :=
  ((128 : Int32) < (al 0 41) → post (0 : Int32) al) ∧ (¬ (128 : Int32) < (al 0 41) → zMi G yX11_rotated wsX11_rotated rmX11_rotated zTR ad ln [.ref (ad 0), .int x1] al (fun q2 a2 => (q2 = 0 → K287 x1 (up2 a2 0 41 ((a2 0 41) + (1 : Int32)))) ∧ (¬ q2 = 0 → post (1 : Int32) a2)))
def vcX11_spans_183 (G : zG)  (ad ln : Nat → Nat) (K4 : Int32 → Int32 → (Nat → Nat → Int32) → Prop) (K35 : Int32 → Int32 → Int32 → (Nat → Nat → Int32) → Prop) (K137 : Int32 → Int32 → Int32 → (Nat → Nat → Int32) → Prop) (K206 : Int32 → Int32 → (Nat → Nat → Int32) → Prop) (K219 : Int32 → Int32 → Int32 → Int32 → (Nat → Nat → Int32) → Prop) (K287 : Int32 → (Nat → Nat → Int32) → Prop) (post : Int32 → (Nat → Nat → Int32) → Prop) (x1 x2 x3 : Int32) (al : Nat → Nat → Int32) : Prop :=
  (vp_in x3 48 ∧ vcX11_spans_193 G  ad ln K4 K35 K137 K206 K219 K287 post (x1 + (1 : Int32)) x2 (up2 al 23 x3.toNatClampNeg x2))
def vcX11_spans_137 (G : zG)  (ad ln : Nat → Nat) (K4 : Int32 → Int32 → (Nat → Nat → Int32) → Prop) (K35 : Int32 → Int32 → Int32 → (Nat → Nat → Int32) → Prop) (K137 : Int32 → Int32 → Int32 → (Nat → Nat → Int32) → Prop) (K206 : Int32 → Int32 → (Nat → Nat → Int32) → Prop) (K219 : Int32 → Int32 → Int32 → Int32 → (Nat → Nat → Int32) → Prop) (K287 : Int32 → (Nat → Nat → Int32) → Prop) (post : Int32 → (Nat → Nat → Int32) → Prop) (x1 x2 x3 : Int32) (al : Nat → Nat → Int32) : Prop :=
  (x3 ≤ 0 → vcX11_spans_183 G  ad ln K4 K35 K137 K206 K219 K287 post x1 x2 x3 al) ∧ (¬ x3 ≤ 0 → (vp_in (x3 - (1 : Int32)) 48 ∧ vp_in (al 23 ((x3 - (1 : Int32)).toNatClampNeg)) 48 ∧ vp_in x2 48 ∧ ((al 20 ((al 23 ((x3 - (1 : Int32)).toNatClampNeg)).toNatClampNeg)) ≤ (al 20 x2.toNatClampNeg) → vcX11_spans_183 G  ad ln K4 K35 K137 K206 K219 K287 post x1 x2 x3 al) ∧ (¬ (al 20 ((al 23 ((x3 - (1 : Int32)).toNatClampNeg)).toNatClampNeg)) ≤ (al 20 x2.toNatClampNeg) → (vp_in (x3 - (1 : Int32)) 48 ∧ vp_in x3 48 ∧ K137 x1 x2 (x3 + (-1 : Int32)) (up2 al 23 x3.toNatClampNeg (al 23 ((x3 - (1 : Int32)).toNatClampNeg)))))))
set_option maxRecDepth 20000 in
theorem tX11_spans_0 {G : zG} {Z : zC}  {ad ln : Nat → Nat} (X : zX G Z cX11_spans 5 RX11 wsX11_spans) {K4 : Int32 → Int32 → (Nat → Nat → Int32) → Prop} {K35 : Int32 → Int32 → Int32 → (Nat → Nat → Int32) → Prop} {K137 : Int32 → Int32 → Int32 → (Nat → Nat → Int32) → Prop} {K206 : Int32 → Int32 → (Nat → Nat → Int32) → Prop} {K219 : Int32 → Int32 → Int32 → Int32 → (Nat → Nat → Int32) → Prop} {K287 : Int32 → (Nat → Nat → Int32) → Prop} {post : Int32 → (Nat → Nat → Int32) → Prop} (hR : zRi G Z rmX11_spans 5 zTR ad ln cX11_spans .boolean post) (hK4 : ∀ x1 x2 : Int32, ∀ al, K4 x1 x2 al → zB G Z rmX11_spans 5 zTR ad ln 0 0 4 [(0, .ref (ad 0)), (1, .int x1), (2, .int x2)] [] al) (hK35 : ∀ x1 x2 x3 : Int32, ∀ al, K35 x1 x2 x3 al → zB G Z rmX11_spans 5 zTR ad ln 0 0 35 [(0, .ref (ad 0)), (1, .int x1), (2, .int x2), (3, .int x3)] [] al) (hK137 : ∀ x1 x2 x3 : Int32, ∀ al, K137 x1 x2 x3 al → zB G Z rmX11_spans 5 zTR ad ln 0 0 137 [(0, .ref (ad 0)), (1, .int x1), (2, .int x2), (3, .int x3)] [] al) (hK206 : ∀ x1 x2 : Int32, ∀ al, K206 x1 x2 al → zB G Z rmX11_spans 5 zTR ad ln 0 0 206 [(0, .ref (ad 0)), (1, .int x1), (2, .int x2)] [] al) (hK219 : ∀ x1 x2 x3 x4 : Int32, ∀ al, K219 x1 x2 x3 x4 al → zB G Z rmX11_spans 5 zTR ad ln 0 0 219 [(0, .ref (ad 0)), (1, .int x1), (2, .int x2), (3, .int x3), (4, .int x4)] [] al) (hK287 : ∀ x1 : Int32, ∀ al, K287 x1 al → zB G Z rmX11_spans 5 zTR ad ln 0 0 287 [(0, .ref (ad 0)), (1, .int x1)] [] al) (al : Nat → Nat → Int32) (h : vcX11_spans_0 G  ad ln K4 K35 K137 K206 K219 K287 post  al) : zB G Z rmX11_spans 5 zTR ad ln 0 0 0 [(0, .ref (ad 0))] [] al := by
  unfold vcX11_spans_0 at h
  refine zb_iconst X (0 : Int32) dX11_spans_0 (by decide) ?_
  refine zb_istore_n X (lv' := [(1, .int (0 : Int32)), (0, .ref (ad 0))]) dX11_spans_1 rfl (by decide) rfl ?_
  refine zb_iconst X (0 : Int32) dX11_spans_2 (by decide) ?_
  refine zb_istore_n X (lv' := [(2, .int (0 : Int32)), (1, .int (0 : Int32)), (0, .ref (ad 0))]) dX11_spans_3 rfl (by decide) rfl ?_
  refine zb_sub [2, 1, 0] rfl ?_
  exact hK4 (0 : Int32) (0 : Int32) al h
set_option maxRecDepth 20000 in
theorem tX11_spans_4 {G : zG} {Z : zC}  {ad ln : Nat → Nat} (X : zX G Z cX11_spans 5 RX11 wsX11_spans) {K4 : Int32 → Int32 → (Nat → Nat → Int32) → Prop} {K35 : Int32 → Int32 → Int32 → (Nat → Nat → Int32) → Prop} {K137 : Int32 → Int32 → Int32 → (Nat → Nat → Int32) → Prop} {K206 : Int32 → Int32 → (Nat → Nat → Int32) → Prop} {K219 : Int32 → Int32 → Int32 → Int32 → (Nat → Nat → Int32) → Prop} {K287 : Int32 → (Nat → Nat → Int32) → Prop} {post : Int32 → (Nat → Nat → Int32) → Prop} (hR : zRi G Z rmX11_spans 5 zTR ad ln cX11_spans .boolean post) (hK4 : ∀ x1 x2 : Int32, ∀ al, K4 x1 x2 al → zB G Z rmX11_spans 5 zTR ad ln 0 0 4 [(0, .ref (ad 0)), (1, .int x1), (2, .int x2)] [] al) (hK35 : ∀ x1 x2 x3 : Int32, ∀ al, K35 x1 x2 x3 al → zB G Z rmX11_spans 5 zTR ad ln 0 0 35 [(0, .ref (ad 0)), (1, .int x1), (2, .int x2), (3, .int x3)] [] al) (hK137 : ∀ x1 x2 x3 : Int32, ∀ al, K137 x1 x2 x3 al → zB G Z rmX11_spans 5 zTR ad ln 0 0 137 [(0, .ref (ad 0)), (1, .int x1), (2, .int x2), (3, .int x3)] [] al) (hK206 : ∀ x1 x2 : Int32, ∀ al, K206 x1 x2 al → zB G Z rmX11_spans 5 zTR ad ln 0 0 206 [(0, .ref (ad 0)), (1, .int x1), (2, .int x2)] [] al) (hK219 : ∀ x1 x2 x3 x4 : Int32, ∀ al, K219 x1 x2 x3 x4 al → zB G Z rmX11_spans 5 zTR ad ln 0 0 219 [(0, .ref (ad 0)), (1, .int x1), (2, .int x2), (3, .int x3), (4, .int x4)] [] al) (hK287 : ∀ x1 : Int32, ∀ al, K287 x1 al → zB G Z rmX11_spans 5 zTR ad ln 0 0 287 [(0, .ref (ad 0)), (1, .int x1)] [] al) (x1 x2 : Int32) (al : Nat → Nat → Int32) (h : vcX11_spans_4 G  ad ln K4 K35 K137 K206 K219 K287 post x1 x2 al) : zB G Z rmX11_spans 5 zTR ad ln 0 0 4 [(0, .ref (ad 0)), (1, .int x1), (2, .int x2)] [] al := by
  unfold vcX11_spans_4 at h
  refine zb_iload_n X dX11_spans_4 rfl 2 rfl ?_
  refine zb_aload_n X dX11_spans_5 rfl 0 rfl ?_
  refine zb_getI X 0 (by decide) 11 [3, 4, 5, 6, 7, 8, 9, 10, 11, 0, 12, 0, 0, 0, 0, 0, 0, 0, 0, 0, 0, 0, 0, 13, 14, 15, 16, 17, 0, 18, 19, 20, 21, 0, 0, 0, 22, 23, 24, 25, 0, 0, 26, 27, 28, 29, 0, 0, 0, 30, 0] rfl (C := RX11) (Tt := TX11) (N := 51) rfl kX11_spans_1 9 (by decide) rfl kX11_spans_0 rfl dX11_spans_6 (al 0 9) rfl ?_
  refine zb_icmp_ge X 199 dX11_spans_9 (by decide) (fun c1 => ?_) (fun c1 => ?_)
  · have h := h.1 c1
    refine zb_aload_n X dX11_spans_199 rfl 0 rfl ?_
    refine zb_iconst X (0 : Int32) dX11_spans_200 (by decide) ?_
    refine zb_putI X 0 (by decide) 11 [3, 4, 5, 6, 7, 8, 9, 10, 11, 0, 12, 0, 0, 0, 0, 0, 0, 0, 0, 0, 0, 0, 0, 13, 14, 15, 16, 17, 0, 18, 19, 20, 21, 0, 0, 0, 22, 23, 24, 25, 0, 0, 26, 27, 28, 29, 0, 0, 0, 30, 0] rfl (C := RX11) (Tt := TX11) (N := 51) rfl kX11_spans_1 tyX11 tyX11_ok nmX11 40 (by decide) rfl kX11_spans_2 rfl rfl rfl rfl dX11_spans_201 ?_
    refine zb_iconst X (0 : Int32) dX11_spans_204 (by decide) ?_
    refine zb_istore_n X (lv' := [(2, .int (0 : Int32)), (0, .ref (ad 0)), (1, .int x1)]) dX11_spans_205 rfl (by decide) rfl ?_
    refine zb_sub [1, 2, 0] rfl ?_
    exact hK206 x1 (0 : Int32) (up2 al 0 40 (0 : Int32)) h
  · have h := h.2 c1
    refine zb_aload_n X dX11_spans_12 rfl 0 rfl ?_
    refine zb_getR X 0 (by decide) 11 [3, 4, 5, 6, 7, 8, 9, 10, 11, 0, 12, 0, 0, 0, 0, 0, 0, 0, 0, 0, 0, 0, 0, 13, 14, 15, 16, 17, 0, 18, 19, 20, 21, 0, 0, 0, 22, 23, 24, 25, 0, 0, 26, 27, 28, 29, 0, 0, 0, 30, 0] rfl (C := RX11) (Tt := TX11) (N := 51) rfl kX11_spans_1 36 (by decide) 20 rfl kX11_spans_3 rfl dX11_spans_13 ?_
    refine zb_iload_n X dX11_spans_16 rfl 2 rfl ?_
    refine zb_iconst X (-1 : Int32) dX11_spans_17 (by decide) ?_
    obtain ⟨hz, h⟩ := h
    refine zb_iast X 20 (by decide) 1 48 0 0 rfl (Or.inl rfl) x2.toNatClampNeg rfl hz dX11_spans_18 ?_
    refine zb_aload_n X dX11_spans_19 rfl 0 rfl ?_
    refine zb_getR X 0 (by decide) 11 [3, 4, 5, 6, 7, 8, 9, 10, 11, 0, 12, 0, 0, 0, 0, 0, 0, 0, 0, 0, 0, 0, 0, 13, 14, 15, 16, 17, 0, 18, 19, 20, 21, 0, 0, 0, 22, 23, 24, 25, 0, 0, 26, 27, 28, 29, 0, 0, 0, 30, 0] rfl (C := RX11) (Tt := TX11) (N := 51) rfl kX11_spans_1 37 (by decide) 21 rfl kX11_spans_4 rfl dX11_spans_20 ?_
    refine zb_iload_n X dX11_spans_23 rfl 2 rfl ?_
    refine zb_iconst X (-1 : Int32) dX11_spans_24 (by decide) ?_
    obtain ⟨hz, h⟩ := h
    refine zb_iast X 21 (by decide) 1 48 0 0 rfl (Or.inl rfl) x2.toNatClampNeg rfl hz dX11_spans_25 ?_
    refine zb_aload_n X dX11_spans_26 rfl 0 rfl ?_
    refine zb_getR X 0 (by decide) 11 [3, 4, 5, 6, 7, 8, 9, 10, 11, 0, 12, 0, 0, 0, 0, 0, 0, 0, 0, 0, 0, 0, 0, 13, 14, 15, 16, 17, 0, 18, 19, 20, 21, 0, 0, 0, 22, 23, 24, 25, 0, 0, 26, 27, 28, 29, 0, 0, 0, 30, 0] rfl (C := RX11) (Tt := TX11) (N := 51) rfl kX11_spans_1 38 (by decide) 22 rfl kX11_spans_5 rfl dX11_spans_27 ?_
    refine zb_iload_n X dX11_spans_30 rfl 2 rfl ?_
    refine zb_iconst X (-1 : Int32) dX11_spans_31 (by decide) ?_
    obtain ⟨hz, h⟩ := h
    refine zb_iast X 22 (by decide) 1 48 0 0 rfl (Or.inl rfl) x2.toNatClampNeg rfl hz dX11_spans_32 ?_
    refine zb_iconst X (0 : Int32) dX11_spans_33 (by decide) ?_
    refine zb_istore_n X (lv' := [(3, .int (0 : Int32)), (0, .ref (ad 0)), (1, .int x1), (2, .int x2)]) dX11_spans_34 rfl (by decide) rfl ?_
    refine zb_sub [1, 2, 3, 0] rfl ?_
    exact hK35 x1 x2 (0 : Int32) (up2 (up2 (up2 al 20 x2.toNatClampNeg (-1 : Int32)) 21 x2.toNatClampNeg (-1 : Int32)) 22 x2.toNatClampNeg (-1 : Int32)) h
set_option maxRecDepth 20000 in
theorem tX11_spans_193 {G : zG} {Z : zC}  {ad ln : Nat → Nat} (X : zX G Z cX11_spans 5 RX11 wsX11_spans) {K4 : Int32 → Int32 → (Nat → Nat → Int32) → Prop} {K35 : Int32 → Int32 → Int32 → (Nat → Nat → Int32) → Prop} {K137 : Int32 → Int32 → Int32 → (Nat → Nat → Int32) → Prop} {K206 : Int32 → Int32 → (Nat → Nat → Int32) → Prop} {K219 : Int32 → Int32 → Int32 → Int32 → (Nat → Nat → Int32) → Prop} {K287 : Int32 → (Nat → Nat → Int32) → Prop} {post : Int32 → (Nat → Nat → Int32) → Prop} (hR : zRi G Z rmX11_spans 5 zTR ad ln cX11_spans .boolean post) (hK4 : ∀ x1 x2 : Int32, ∀ al, K4 x1 x2 al → zB G Z rmX11_spans 5 zTR ad ln 0 0 4 [(0, .ref (ad 0)), (1, .int x1), (2, .int x2)] [] al) (hK35 : ∀ x1 x2 x3 : Int32, ∀ al, K35 x1 x2 x3 al → zB G Z rmX11_spans 5 zTR ad ln 0 0 35 [(0, .ref (ad 0)), (1, .int x1), (2, .int x2), (3, .int x3)] [] al) (hK137 : ∀ x1 x2 x3 : Int32, ∀ al, K137 x1 x2 x3 al → zB G Z rmX11_spans 5 zTR ad ln 0 0 137 [(0, .ref (ad 0)), (1, .int x1), (2, .int x2), (3, .int x3)] [] al) (hK206 : ∀ x1 x2 : Int32, ∀ al, K206 x1 x2 al → zB G Z rmX11_spans 5 zTR ad ln 0 0 206 [(0, .ref (ad 0)), (1, .int x1), (2, .int x2)] [] al) (hK219 : ∀ x1 x2 x3 x4 : Int32, ∀ al, K219 x1 x2 x3 x4 al → zB G Z rmX11_spans 5 zTR ad ln 0 0 219 [(0, .ref (ad 0)), (1, .int x1), (2, .int x2), (3, .int x3), (4, .int x4)] [] al) (hK287 : ∀ x1 : Int32, ∀ al, K287 x1 al → zB G Z rmX11_spans 5 zTR ad ln 0 0 287 [(0, .ref (ad 0)), (1, .int x1)] [] al) (x1 x2 : Int32) (al : Nat → Nat → Int32) (h : vcX11_spans_193 G  ad ln K4 K35 K137 K206 K219 K287 post x1 x2 al) : zB G Z rmX11_spans 5 zTR ad ln 0 0 193 [(0, .ref (ad 0)), (1, .int x1), (2, .int x2)] [] al := by
  unfold vcX11_spans_193 at h
  refine zb_iinc X (lv' := [(2, .int (x2 + (1 : Int32))), (0, .ref (ad 0)), (1, .int x1)]) (x2 + (1 : Int32)) dX11_spans_193 2 rfl rfl (by decide) rfl ?_
  refine zb_goto X 4 dX11_spans_196 (by decide) ?_
  refine zb_sub [1, 2, 0] rfl ?_
  exact hK4 x1 (x2 + (1 : Int32)) al h
set_option maxRecDepth 20000 in
theorem tX11_spans_105 {G : zG} {Z : zC}  {ad ln : Nat → Nat} (X : zX G Z cX11_spans 5 RX11 wsX11_spans) {K4 : Int32 → Int32 → (Nat → Nat → Int32) → Prop} {K35 : Int32 → Int32 → Int32 → (Nat → Nat → Int32) → Prop} {K137 : Int32 → Int32 → Int32 → (Nat → Nat → Int32) → Prop} {K206 : Int32 → Int32 → (Nat → Nat → Int32) → Prop} {K219 : Int32 → Int32 → Int32 → Int32 → (Nat → Nat → Int32) → Prop} {K287 : Int32 → (Nat → Nat → Int32) → Prop} {post : Int32 → (Nat → Nat → Int32) → Prop} (hR : zRi G Z rmX11_spans 5 zTR ad ln cX11_spans .boolean post) (hK4 : ∀ x1 x2 : Int32, ∀ al, K4 x1 x2 al → zB G Z rmX11_spans 5 zTR ad ln 0 0 4 [(0, .ref (ad 0)), (1, .int x1), (2, .int x2)] [] al) (hK35 : ∀ x1 x2 x3 : Int32, ∀ al, K35 x1 x2 x3 al → zB G Z rmX11_spans 5 zTR ad ln 0 0 35 [(0, .ref (ad 0)), (1, .int x1), (2, .int x2), (3, .int x3)] [] al) (hK137 : ∀ x1 x2 x3 : Int32, ∀ al, K137 x1 x2 x3 al → zB G Z rmX11_spans 5 zTR ad ln 0 0 137 [(0, .ref (ad 0)), (1, .int x1), (2, .int x2), (3, .int x3)] [] al) (hK206 : ∀ x1 x2 : Int32, ∀ al, K206 x1 x2 al → zB G Z rmX11_spans 5 zTR ad ln 0 0 206 [(0, .ref (ad 0)), (1, .int x1), (2, .int x2)] [] al) (hK219 : ∀ x1 x2 x3 x4 : Int32, ∀ al, K219 x1 x2 x3 x4 al → zB G Z rmX11_spans 5 zTR ad ln 0 0 219 [(0, .ref (ad 0)), (1, .int x1), (2, .int x2), (3, .int x3), (4, .int x4)] [] al) (hK287 : ∀ x1 : Int32, ∀ al, K287 x1 al → zB G Z rmX11_spans 5 zTR ad ln 0 0 287 [(0, .ref (ad 0)), (1, .int x1)] [] al) (x1 x2 : Int32) (al : Nat → Nat → Int32) (h : vcX11_spans_105 G  ad ln K4 K35 K137 K206 K219 K287 post x1 x2 al) : zB G Z rmX11_spans 5 zTR ad ln 0 0 105 [(0, .ref (ad 0)), (1, .int x1), (2, .int x2)] [] al := by
  unfold vcX11_spans_105 at h
  refine zb_aload_n X dX11_spans_105 rfl 0 rfl ?_
  refine zb_getR X 0 (by decide) 11 [3, 4, 5, 6, 7, 8, 9, 10, 11, 0, 12, 0, 0, 0, 0, 0, 0, 0, 0, 0, 0, 0, 0, 13, 14, 15, 16, 17, 0, 18, 19, 20, 21, 0, 0, 0, 22, 23, 24, 25, 0, 0, 26, 27, 28, 29, 0, 0, 0, 30, 0] rfl (C := RX11) (Tt := TX11) (N := 51) rfl kX11_spans_1 37 (by decide) 21 rfl kX11_spans_4 rfl dX11_spans_106 ?_
  refine zb_iload_n X dX11_spans_109 rfl 2 rfl ?_
  obtain ⟨hz, h⟩ := h
  refine zb_iald X 21 (by decide) 1 48 0 0 rfl (Or.inl rfl) x2.toNatClampNeg rfl hz dX11_spans_110 (al 21 x2.toNatClampNeg) rfl ?_
  refine zb_if_ge X 117 dX11_spans_111 (by decide) (fun c1 => ?_) (fun c1 => ?_)
  · have h := h.1 c1
    refine zb_aload_n X dX11_spans_117 rfl 0 rfl ?_
    refine zb_getR X 0 (by decide) 11 [3, 4, 5, 6, 7, 8, 9, 10, 11, 0, 12, 0, 0, 0, 0, 0, 0, 0, 0, 0, 0, 0, 0, 13, 14, 15, 16, 17, 0, 18, 19, 20, 21, 0, 0, 0, 22, 23, 24, 25, 0, 0, 26, 27, 28, 29, 0, 0, 0, 30, 0] rfl (C := RX11) (Tt := TX11) (N := 51) rfl kX11_spans_1 36 (by decide) 20 rfl kX11_spans_3 rfl dX11_spans_118 ?_
    refine zb_iload_n X dX11_spans_121 rfl 2 rfl ?_
    refine zb_aload_n X dX11_spans_122 rfl 0 rfl ?_
    refine zb_getR X 0 (by decide) 11 [3, 4, 5, 6, 7, 8, 9, 10, 11, 0, 12, 0, 0, 0, 0, 0, 0, 0, 0, 0, 0, 0, 0, 13, 14, 15, 16, 17, 0, 18, 19, 20, 21, 0, 0, 0, 22, 23, 24, 25, 0, 0, 26, 27, 28, 29, 0, 0, 0, 30, 0] rfl (C := RX11) (Tt := TX11) (N := 51) rfl kX11_spans_1 30 (by decide) 17 rfl kX11_spans_7 rfl dX11_spans_123 ?_
    refine zb_iload_n X dX11_spans_126 rfl 2 rfl ?_
    obtain ⟨hz, h⟩ := h
    refine zb_iald X 17 (by decide) 1 48 0 0 rfl (Or.inl rfl) x2.toNatClampNeg rfl hz dX11_spans_127 (al 17 x2.toNatClampNeg) rfl ?_
    refine zb_aload_n X dX11_spans_128 rfl 0 rfl ?_
    refine zb_iload_n X dX11_spans_129 rfl 2 rfl ?_
    refine zb_callVi (n := 1) X 0 (by decide) 11 [3, 4, 5, 6, 7, 8, 9, 10, 11, 0, 12, 0, 0, 0, 0, 0, 0, 0, 0, 0, 0, 0, 0, 13, 14, 15, 16, 17, 0, 18, 19, 20, 21, 0, 0, 0, 22, 23, 24, 25, 0, 0, 26, 27, 28, 29, 0, 0, 0, 30, 0] rfl (C := RX11) (Tt := TX11) (N := 51) rfl h gX11_spans_X11_time rfl (by decide +kernel) (by decide) rfl rfl (Nat.le_of_ble_eq_true rfl) dX11_spans_130 (kc' := 0) (ks' := 0) rfl rfl (fun q2 a2 h => ?_)
    refine zb_iadd X dX11_spans_133 ?_
    obtain ⟨hz, h⟩ := h
    refine zb_iast X 20 (by decide) 1 48 0 0 rfl (Or.inl rfl) x2.toNatClampNeg rfl hz dX11_spans_134 ?_
    refine zb_iload_n X dX11_spans_135 rfl 1 rfl ?_
    refine zb_istore_n X (lv' := [(3, .int x1), (0, .ref (ad 0)), (1, .int x1), (2, .int x2)]) dX11_spans_136 rfl (by decide) rfl ?_
    refine zb_sub [1, 2, 3, 0] rfl ?_
    exact hK137 x1 x2 x1 (up2 a2 20 x2.toNatClampNeg ((al 17 x2.toNatClampNeg) + q2)) h
  · have h := h.2 c1
    refine zb_goto X 193 dX11_spans_114 (by decide) ?_
    refine zb_sub [0, 1, 2] rfl ?_
    exact tX11_spans_193 X hR hK4 hK35 hK137 hK206 hK219 hK287 x1 x2 al h
set_option maxRecDepth 20000 in
theorem tX11_spans_99 {G : zG} {Z : zC}  {ad ln : Nat → Nat} (X : zX G Z cX11_spans 5 RX11 wsX11_spans) {K4 : Int32 → Int32 → (Nat → Nat → Int32) → Prop} {K35 : Int32 → Int32 → Int32 → (Nat → Nat → Int32) → Prop} {K137 : Int32 → Int32 → Int32 → (Nat → Nat → Int32) → Prop} {K206 : Int32 → Int32 → (Nat → Nat → Int32) → Prop} {K219 : Int32 → Int32 → Int32 → Int32 → (Nat → Nat → Int32) → Prop} {K287 : Int32 → (Nat → Nat → Int32) → Prop} {post : Int32 → (Nat → Nat → Int32) → Prop} (hR : zRi G Z rmX11_spans 5 zTR ad ln cX11_spans .boolean post) (hK4 : ∀ x1 x2 : Int32, ∀ al, K4 x1 x2 al → zB G Z rmX11_spans 5 zTR ad ln 0 0 4 [(0, .ref (ad 0)), (1, .int x1), (2, .int x2)] [] al) (hK35 : ∀ x1 x2 x3 : Int32, ∀ al, K35 x1 x2 x3 al → zB G Z rmX11_spans 5 zTR ad ln 0 0 35 [(0, .ref (ad 0)), (1, .int x1), (2, .int x2), (3, .int x3)] [] al) (hK137 : ∀ x1 x2 x3 : Int32, ∀ al, K137 x1 x2 x3 al → zB G Z rmX11_spans 5 zTR ad ln 0 0 137 [(0, .ref (ad 0)), (1, .int x1), (2, .int x2), (3, .int x3)] [] al) (hK206 : ∀ x1 x2 : Int32, ∀ al, K206 x1 x2 al → zB G Z rmX11_spans 5 zTR ad ln 0 0 206 [(0, .ref (ad 0)), (1, .int x1), (2, .int x2)] [] al) (hK219 : ∀ x1 x2 x3 x4 : Int32, ∀ al, K219 x1 x2 x3 x4 al → zB G Z rmX11_spans 5 zTR ad ln 0 0 219 [(0, .ref (ad 0)), (1, .int x1), (2, .int x2), (3, .int x3), (4, .int x4)] [] al) (hK287 : ∀ x1 : Int32, ∀ al, K287 x1 al → zB G Z rmX11_spans 5 zTR ad ln 0 0 287 [(0, .ref (ad 0)), (1, .int x1)] [] al) (x1 x2 x3 : Int32) (al : Nat → Nat → Int32) (h : vcX11_spans_99 G  ad ln K4 K35 K137 K206 K219 K287 post x1 x2 x3 al) : zB G Z rmX11_spans 5 zTR ad ln 0 0 99 [(0, .ref (ad 0)), (1, .int x1), (2, .int x2), (3, .int x3)] [] al := by
  unfold vcX11_spans_99 at h
  refine zb_iinc X (lv' := [(3, .int (x3 + (1 : Int32))), (0, .ref (ad 0)), (1, .int x1), (2, .int x2)]) (x3 + (1 : Int32)) dX11_spans_99 3 rfl rfl (by decide) rfl ?_
  refine zb_goto X 35 dX11_spans_102 (by decide) ?_
  refine zb_sub [1, 2, 3, 0] rfl ?_
  exact hK35 x1 x2 (x3 + (1 : Int32)) al h
set_option maxRecDepth 20000 in
theorem tX11_spans_35 {G : zG} {Z : zC}  {ad ln : Nat → Nat} (X : zX G Z cX11_spans 5 RX11 wsX11_spans) {K4 : Int32 → Int32 → (Nat → Nat → Int32) → Prop} {K35 : Int32 → Int32 → Int32 → (Nat → Nat → Int32) → Prop} {K137 : Int32 → Int32 → Int32 → (Nat → Nat → Int32) → Prop} {K206 : Int32 → Int32 → (Nat → Nat → Int32) → Prop} {K219 : Int32 → Int32 → Int32 → Int32 → (Nat → Nat → Int32) → Prop} {K287 : Int32 → (Nat → Nat → Int32) → Prop} {post : Int32 → (Nat → Nat → Int32) → Prop} (hR : zRi G Z rmX11_spans 5 zTR ad ln cX11_spans .boolean post) (hK4 : ∀ x1 x2 : Int32, ∀ al, K4 x1 x2 al → zB G Z rmX11_spans 5 zTR ad ln 0 0 4 [(0, .ref (ad 0)), (1, .int x1), (2, .int x2)] [] al) (hK35 : ∀ x1 x2 x3 : Int32, ∀ al, K35 x1 x2 x3 al → zB G Z rmX11_spans 5 zTR ad ln 0 0 35 [(0, .ref (ad 0)), (1, .int x1), (2, .int x2), (3, .int x3)] [] al) (hK137 : ∀ x1 x2 x3 : Int32, ∀ al, K137 x1 x2 x3 al → zB G Z rmX11_spans 5 zTR ad ln 0 0 137 [(0, .ref (ad 0)), (1, .int x1), (2, .int x2), (3, .int x3)] [] al) (hK206 : ∀ x1 x2 : Int32, ∀ al, K206 x1 x2 al → zB G Z rmX11_spans 5 zTR ad ln 0 0 206 [(0, .ref (ad 0)), (1, .int x1), (2, .int x2)] [] al) (hK219 : ∀ x1 x2 x3 x4 : Int32, ∀ al, K219 x1 x2 x3 x4 al → zB G Z rmX11_spans 5 zTR ad ln 0 0 219 [(0, .ref (ad 0)), (1, .int x1), (2, .int x2), (3, .int x3), (4, .int x4)] [] al) (hK287 : ∀ x1 : Int32, ∀ al, K287 x1 al → zB G Z rmX11_spans 5 zTR ad ln 0 0 287 [(0, .ref (ad 0)), (1, .int x1)] [] al) (x1 x2 x3 : Int32) (al : Nat → Nat → Int32) (h : vcX11_spans_35 G  ad ln K4 K35 K137 K206 K219 K287 post x1 x2 x3 al) : zB G Z rmX11_spans 5 zTR ad ln 0 0 35 [(0, .ref (ad 0)), (1, .int x1), (2, .int x2), (3, .int x3)] [] al := by
  unfold vcX11_spans_35 at h
  refine zb_aload_n X dX11_spans_35 rfl 0 rfl ?_
  refine zb_getR X 0 (by decide) 11 [3, 4, 5, 6, 7, 8, 9, 10, 11, 0, 12, 0, 0, 0, 0, 0, 0, 0, 0, 0, 0, 0, 0, 13, 14, 15, 16, 17, 0, 18, 19, 20, 21, 0, 0, 0, 22, 23, 24, 25, 0, 0, 26, 27, 28, 29, 0, 0, 0, 30, 0] rfl (C := RX11) (Tt := TX11) (N := 51) rfl kX11_spans_1 1 (by decide) 2 rfl kX11_spans_6 rfl dX11_spans_36 ?_
  refine zb_iload_n X dX11_spans_39 rfl 2 rfl ?_
  obtain ⟨hz, h⟩ := h
  refine zb_iald X 2 (by decide) 1 49 0 0 rfl (Or.inl rfl) x2.toNatClampNeg rfl hz dX11_spans_40 (al 2 x2.toNatClampNeg) rfl ?_
  refine zb_if_lt X 105 dX11_spans_41 (by decide) (fun c1 => ?_) (fun c1 => ?_)
  · have h := h.1 c1
    refine zb_sub [0, 1, 2] rfl ?_
    exact tX11_spans_105 X hR hK4 hK35 hK137 hK206 hK219 hK287 x1 x2 al h
  · have h := h.2 c1
    refine zb_iload_n X dX11_spans_44 rfl 3 rfl ?_
    refine zb_aload_n X dX11_spans_45 rfl 0 rfl ?_
    refine zb_getI X 0 (by decide) 11 [3, 4, 5, 6, 7, 8, 9, 10, 11, 0, 12, 0, 0, 0, 0, 0, 0, 0, 0, 0, 0, 0, 0, 13, 14, 15, 16, 17, 0, 18, 19, 20, 21, 0, 0, 0, 22, 23, 24, 25, 0, 0, 26, 27, 28, 29, 0, 0, 0, 30, 0] rfl (C := RX11) (Tt := TX11) (N := 51) rfl kX11_spans_1 9 (by decide) rfl kX11_spans_0 rfl dX11_spans_46 (al 0 9) rfl ?_
    refine zb_icmp_ge X 105 dX11_spans_49 (by decide) (fun c2 => ?_) (fun c2 => ?_)
    · have h := h.1 c2
      refine zb_sub [0, 1, 2] rfl ?_
      exact tX11_spans_105 X hR hK4 hK35 hK137 hK206 hK219 hK287 x1 x2 al h
    · have h := h.2 c2
      refine zb_aload_n X dX11_spans_52 rfl 0 rfl ?_
      refine zb_iload_n X dX11_spans_53 rfl 3 rfl ?_
      refine zb_aload_n X dX11_spans_54 rfl 0 rfl ?_
      refine zb_getR X 0 (by decide) 11 [3, 4, 5, 6, 7, 8, 9, 10, 11, 0, 12, 0, 0, 0, 0, 0, 0, 0, 0, 0, 0, 0, 0, 13, 14, 15, 16, 17, 0, 18, 19, 20, 21, 0, 0, 0, 22, 23, 24, 25, 0, 0, 26, 27, 28, 29, 0, 0, 0, 30, 0] rfl (C := RX11) (Tt := TX11) (N := 51) rfl kX11_spans_1 1 (by decide) 2 rfl kX11_spans_6 rfl dX11_spans_55 ?_
      refine zb_iload_n X dX11_spans_58 rfl 2 rfl ?_
      obtain ⟨hz, h⟩ := h
      refine zb_iald X 2 (by decide) 1 49 0 0 rfl (Or.inl rfl) x2.toNatClampNeg rfl hz dX11_spans_59 (al 2 x2.toNatClampNeg) rfl ?_
      refine zb_callVi (n := 2) X 0 (by decide) 11 [3, 4, 5, 6, 7, 8, 9, 10, 11, 0, 12, 0, 0, 0, 0, 0, 0, 0, 0, 0, 0, 0, 0, 13, 14, 15, 16, 17, 0, 18, 19, 20, 21, 0, 0, 0, 22, 23, 24, 25, 0, 0, 26, 27, 28, 29, 0, 0, 0, 30, 0] rfl (C := RX11) (Tt := TX11) (N := 51) rfl h gX11_spans_X11_uses rfl (by decide +kernel) (by decide) rfl rfl (Nat.le_of_ble_eq_true rfl) dX11_spans_60 (kc' := 0) (ks' := 0) rfl rfl (fun q3 a3 h => ?_)
      refine zb_if_eq X 99 dX11_spans_63 (by decide) (fun c4 => ?_) (fun c4 => ?_)
      · have h := h.1 c4
        refine zb_sub [0, 1, 2, 3] rfl ?_
        exact tX11_spans_99 X hR hK4 hK35 hK137 hK206 hK219 hK287 x1 x2 x3 a3 h
      · have h := h.2 c4
        refine zb_aload_n X dX11_spans_66 rfl 0 rfl ?_
        refine zb_getR X 0 (by decide) 11 [3, 4, 5, 6, 7, 8, 9, 10, 11, 0, 12, 0, 0, 0, 0, 0, 0, 0, 0, 0, 0, 0, 0, 13, 14, 15, 16, 17, 0, 18, 19, 20, 21, 0, 0, 0, 22, 23, 24, 25, 0, 0, 26, 27, 28, 29, 0, 0, 0, 30, 0] rfl (C := RX11) (Tt := TX11) (N := 51) rfl kX11_spans_1 37 (by decide) 21 rfl kX11_spans_4 rfl dX11_spans_67 ?_
        refine zb_iload_n X dX11_spans_70 rfl 2 rfl ?_
        refine zb_aload_n X dX11_spans_71 rfl 0 rfl ?_
        refine zb_getR X 0 (by decide) 11 [3, 4, 5, 6, 7, 8, 9, 10, 11, 0, 12, 0, 0, 0, 0, 0, 0, 0, 0, 0, 0, 0, 0, 13, 14, 15, 16, 17, 0, 18, 19, 20, 21, 0, 0, 0, 22, 23, 24, 25, 0, 0, 26, 27, 28, 29, 0, 0, 0, 30, 0] rfl (C := RX11) (Tt := TX11) (N := 51) rfl kX11_spans_1 37 (by decide) 21 rfl kX11_spans_4 rfl dX11_spans_72 ?_
        refine zb_iload_n X dX11_spans_75 rfl 2 rfl ?_
        obtain ⟨hz, h⟩ := h
        refine zb_iald X 21 (by decide) 1 48 0 0 rfl (Or.inl rfl) x2.toNatClampNeg rfl hz dX11_spans_76 (a3 21 x2.toNatClampNeg) rfl ?_
        refine zb_aload_n X dX11_spans_77 rfl 0 rfl ?_
        refine zb_getR X 0 (by decide) 11 [3, 4, 5, 6, 7, 8, 9, 10, 11, 0, 12, 0, 0, 0, 0, 0, 0, 0, 0, 0, 0, 0, 0, 13, 14, 15, 16, 17, 0, 18, 19, 20, 21, 0, 0, 0, 22, 23, 24, 25, 0, 0, 26, 27, 28, 29, 0, 0, 0, 30, 0] rfl (C := RX11) (Tt := TX11) (N := 51) rfl kX11_spans_1 30 (by decide) 17 rfl kX11_spans_7 rfl dX11_spans_78 ?_
        refine zb_iload_n X dX11_spans_81 rfl 3 rfl ?_
        obtain ⟨hz, h⟩ := h
        refine zb_iald X 17 (by decide) 1 48 0 0 rfl (Or.inl rfl) x3.toNatClampNeg rfl hz dX11_spans_82 (a3 17 x3.toNatClampNeg) rfl ?_
        refine zb_aload_n X dX11_spans_83 rfl 0 rfl ?_
        refine zb_iload_n X dX11_spans_84 rfl 2 rfl ?_
        refine zb_iload_n X dX11_spans_85 rfl 3 rfl ?_
        refine zb_callVi (n := 2) X 0 (by decide) 11 [3, 4, 5, 6, 7, 8, 9, 10, 11, 0, 12, 0, 0, 0, 0, 0, 0, 0, 0, 0, 0, 0, 0, 13, 14, 15, 16, 17, 0, 18, 19, 20, 21, 0, 0, 0, 22, 23, 24, 25, 0, 0, 26, 27, 28, 29, 0, 0, 0, 30, 0] rfl (C := RX11) (Tt := TX11) (N := 51) rfl h gX11_spans_X11_useOver rfl (by decide +kernel) (by decide) rfl rfl (Nat.le_of_ble_eq_true rfl) dX11_spans_86 (kc' := 0) (ks' := 0) rfl rfl (fun q5 a5 h => ?_)
        refine zb_aload_n X dX11_spans_89 rfl 0 rfl ?_
        refine zb_getI X 0 (by decide) 11 [3, 4, 5, 6, 7, 8, 9, 10, 11, 0, 12, 0, 0, 0, 0, 0, 0, 0, 0, 0, 0, 0, 0, 13, 14, 15, 16, 17, 0, 18, 19, 20, 21, 0, 0, 0, 22, 23, 24, 25, 0, 0, 26, 27, 28, 29, 0, 0, 0, 30, 0] rfl (C := RX11) (Tt := TX11) (N := 51) rfl kX11_spans_1 33 (by decide) rfl kX11_spans_8 rfl dX11_spans_90 (a5 0 33) rfl ?_
        refine zb_imul X dX11_spans_93 ?_
        refine zb_iadd X dX11_spans_94 ?_
        refine zb_mmax X kX11_spans_9 kX11_spans_10 kX11_spans_11 kX11_spans_12 ⟨⟨Nat.le_of_ble_eq_true rfl, Nat.le_of_ble_eq_true rfl⟩, Nat.le_of_ble_eq_true rfl, Nat.le_of_ble_eq_true rfl⟩ dX11_spans_95 ?_
        obtain ⟨hz, h⟩ := h
        refine zb_iast X 21 (by decide) 1 48 0 0 rfl (Or.inl rfl) x2.toNatClampNeg rfl hz dX11_spans_98 ?_
        refine zb_sub [0, 1, 2, 3] rfl ?_
        exact tX11_spans_99 X hR hK4 hK35 hK137 hK206 hK219 hK287 x1 x2 x3 (up2 a5 21 x2.toNatClampNeg (if (a3 21 x2.toNatClampNeg) < ((a3 17 x3.toNatClampNeg) + (q5 * (a5 0 33))) then ((a3 17 x3.toNatClampNeg) + (q5 * (a5 0 33))) else (a3 21 x2.toNatClampNeg))) h
set_option maxRecDepth 20000 in
theorem tX11_spans_206 {G : zG} {Z : zC}  {ad ln : Nat → Nat} (X : zX G Z cX11_spans 5 RX11 wsX11_spans) {K4 : Int32 → Int32 → (Nat → Nat → Int32) → Prop} {K35 : Int32 → Int32 → Int32 → (Nat → Nat → Int32) → Prop} {K137 : Int32 → Int32 → Int32 → (Nat → Nat → Int32) → Prop} {K206 : Int32 → Int32 → (Nat → Nat → Int32) → Prop} {K219 : Int32 → Int32 → Int32 → Int32 → (Nat → Nat → Int32) → Prop} {K287 : Int32 → (Nat → Nat → Int32) → Prop} {post : Int32 → (Nat → Nat → Int32) → Prop} (hR : zRi G Z rmX11_spans 5 zTR ad ln cX11_spans .boolean post) (hK4 : ∀ x1 x2 : Int32, ∀ al, K4 x1 x2 al → zB G Z rmX11_spans 5 zTR ad ln 0 0 4 [(0, .ref (ad 0)), (1, .int x1), (2, .int x2)] [] al) (hK35 : ∀ x1 x2 x3 : Int32, ∀ al, K35 x1 x2 x3 al → zB G Z rmX11_spans 5 zTR ad ln 0 0 35 [(0, .ref (ad 0)), (1, .int x1), (2, .int x2), (3, .int x3)] [] al) (hK137 : ∀ x1 x2 x3 : Int32, ∀ al, K137 x1 x2 x3 al → zB G Z rmX11_spans 5 zTR ad ln 0 0 137 [(0, .ref (ad 0)), (1, .int x1), (2, .int x2), (3, .int x3)] [] al) (hK206 : ∀ x1 x2 : Int32, ∀ al, K206 x1 x2 al → zB G Z rmX11_spans 5 zTR ad ln 0 0 206 [(0, .ref (ad 0)), (1, .int x1), (2, .int x2)] [] al) (hK219 : ∀ x1 x2 x3 x4 : Int32, ∀ al, K219 x1 x2 x3 x4 al → zB G Z rmX11_spans 5 zTR ad ln 0 0 219 [(0, .ref (ad 0)), (1, .int x1), (2, .int x2), (3, .int x3), (4, .int x4)] [] al) (hK287 : ∀ x1 : Int32, ∀ al, K287 x1 al → zB G Z rmX11_spans 5 zTR ad ln 0 0 287 [(0, .ref (ad 0)), (1, .int x1)] [] al) (x1 x2 : Int32) (al : Nat → Nat → Int32) (h : vcX11_spans_206 G  ad ln K4 K35 K137 K206 K219 K287 post x1 x2 al) : zB G Z rmX11_spans 5 zTR ad ln 0 0 206 [(0, .ref (ad 0)), (1, .int x1), (2, .int x2)] [] al := by
  unfold vcX11_spans_206 at h
  refine zb_iload_n X dX11_spans_206 rfl 2 rfl ?_
  refine zb_aload_n X dX11_spans_207 rfl 0 rfl ?_
  refine zb_getI X 0 (by decide) 11 [3, 4, 5, 6, 7, 8, 9, 10, 11, 0, 12, 0, 0, 0, 0, 0, 0, 0, 0, 0, 0, 0, 0, 13, 14, 15, 16, 17, 0, 18, 19, 20, 21, 0, 0, 0, 22, 23, 24, 25, 0, 0, 26, 27, 28, 29, 0, 0, 0, 30, 0] rfl (C := RX11) (Tt := TX11) (N := 51) rfl kX11_spans_1 33 (by decide) rfl kX11_spans_8 rfl dX11_spans_208 (al 0 33) rfl ?_
  refine zb_icmp_ge X 264 dX11_spans_211 (by decide) (fun c1 => ?_) (fun c1 => ?_)
  · have h := h.1 c1
    refine zb_aload_n X dX11_spans_264 rfl 0 rfl ?_
    refine zb_getI X 0 (by decide) 11 [3, 4, 5, 6, 7, 8, 9, 10, 11, 0, 12, 0, 0, 0, 0, 0, 0, 0, 0, 0, 0, 0, 0, 13, 14, 15, 16, 17, 0, 18, 19, 20, 21, 0, 0, 0, 22, 23, 24, 25, 0, 0, 26, 27, 28, 29, 0, 0, 0, 30, 0] rfl (C := RX11) (Tt := TX11) (N := 51) rfl kX11_spans_1 40 (by decide) rfl kX11_spans_2 rfl dX11_spans_265 (al 0 40) rfl ?_
    refine zb_bipush X (96 : Int32) dX11_spans_268 (by decide) ?_
    refine zb_icmp_le X 275 dX11_spans_270 (by decide) (fun c2 => ?_) (fun c2 => ?_)
    · have h := h.1 c2
      refine zb_aload_n X dX11_spans_275 rfl 0 rfl ?_
      refine zb_aload_n X dX11_spans_276 rfl 0 rfl ?_
      refine zb_getI X 0 (by decide) 11 [3, 4, 5, 6, 7, 8, 9, 10, 11, 0, 12, 0, 0, 0, 0, 0, 0, 0, 0, 0, 0, 0, 0, 13, 14, 15, 16, 17, 0, 18, 19, 20, 21, 0, 0, 0, 22, 23, 24, 25, 0, 0, 26, 27, 28, 29, 0, 0, 0, 30, 0] rfl (C := RX11) (Tt := TX11) (N := 51) rfl kX11_spans_1 40 (by decide) rfl kX11_spans_2 rfl dX11_spans_277 (al 0 40) rfl ?_
      refine zb_iconst X (1 : Int32) dX11_spans_280 (by decide) ?_
      refine zb_mmax X kX11_spans_9 kX11_spans_10 kX11_spans_11 kX11_spans_12 ⟨⟨Nat.le_of_ble_eq_true rfl, Nat.le_of_ble_eq_true rfl⟩, Nat.le_of_ble_eq_true rfl, Nat.le_of_ble_eq_true rfl⟩ dX11_spans_281 ?_
      refine zb_putI X 0 (by decide) 11 [3, 4, 5, 6, 7, 8, 9, 10, 11, 0, 12, 0, 0, 0, 0, 0, 0, 0, 0, 0, 0, 0, 0, 13, 14, 15, 16, 17, 0, 18, 19, 20, 21, 0, 0, 0, 22, 23, 24, 25, 0, 0, 26, 27, 28, 29, 0, 0, 0, 30, 0] rfl (C := RX11) (Tt := TX11) (N := 51) rfl kX11_spans_1 tyX11 tyX11_ok nmX11 41 (by decide) rfl kX11_spans_13 rfl rfl rfl rfl dX11_spans_284 ?_
      refine zb_sub [0, 1] rfl ?_
      exact hK287 x1 (up2 al 0 41 (if (al 0 40) < (1 : Int32) then (1 : Int32) else (al 0 40))) h
    · have h := h.2 c2
      refine zb_iconst X (0 : Int32) dX11_spans_273 (by decide) ?_
      exact hR 274 _ _ _ dX11_spans_274 rfl h
  · have h := h.2 c1
    refine zb_iconst X (0 : Int32) dX11_spans_214 (by decide) ?_
    refine zb_istore_n X (lv' := [(3, .int (0 : Int32)), (0, .ref (ad 0)), (1, .int x1), (2, .int x2)]) dX11_spans_215 rfl (by decide) rfl ?_
    refine zb_iconst X (0 : Int32) dX11_spans_216 (by decide) ?_
    refine zb_istore X (lv' := [(4, .int (0 : Int32)), (3, .int (0 : Int32)), (0, .ref (ad 0)), (1, .int x1), (2, .int x2)]) dX11_spans_217 (by decide) rfl ?_
    refine zb_sub [2, 3, 4, 1, 0] rfl ?_
    exact hK219 x1 x2 (0 : Int32) (0 : Int32) al h
set_option maxRecDepth 20000 in
theorem tX11_spans_219 {G : zG} {Z : zC}  {ad ln : Nat → Nat} (X : zX G Z cX11_spans 5 RX11 wsX11_spans) {K4 : Int32 → Int32 → (Nat → Nat → Int32) → Prop} {K35 : Int32 → Int32 → Int32 → (Nat → Nat → Int32) → Prop} {K137 : Int32 → Int32 → Int32 → (Nat → Nat → Int32) → Prop} {K206 : Int32 → Int32 → (Nat → Nat → Int32) → Prop} {K219 : Int32 → Int32 → Int32 → Int32 → (Nat → Nat → Int32) → Prop} {K287 : Int32 → (Nat → Nat → Int32) → Prop} {post : Int32 → (Nat → Nat → Int32) → Prop} (hR : zRi G Z rmX11_spans 5 zTR ad ln cX11_spans .boolean post) (hK4 : ∀ x1 x2 : Int32, ∀ al, K4 x1 x2 al → zB G Z rmX11_spans 5 zTR ad ln 0 0 4 [(0, .ref (ad 0)), (1, .int x1), (2, .int x2)] [] al) (hK35 : ∀ x1 x2 x3 : Int32, ∀ al, K35 x1 x2 x3 al → zB G Z rmX11_spans 5 zTR ad ln 0 0 35 [(0, .ref (ad 0)), (1, .int x1), (2, .int x2), (3, .int x3)] [] al) (hK137 : ∀ x1 x2 x3 : Int32, ∀ al, K137 x1 x2 x3 al → zB G Z rmX11_spans 5 zTR ad ln 0 0 137 [(0, .ref (ad 0)), (1, .int x1), (2, .int x2), (3, .int x3)] [] al) (hK206 : ∀ x1 x2 : Int32, ∀ al, K206 x1 x2 al → zB G Z rmX11_spans 5 zTR ad ln 0 0 206 [(0, .ref (ad 0)), (1, .int x1), (2, .int x2)] [] al) (hK219 : ∀ x1 x2 x3 x4 : Int32, ∀ al, K219 x1 x2 x3 x4 al → zB G Z rmX11_spans 5 zTR ad ln 0 0 219 [(0, .ref (ad 0)), (1, .int x1), (2, .int x2), (3, .int x3), (4, .int x4)] [] al) (hK287 : ∀ x1 : Int32, ∀ al, K287 x1 al → zB G Z rmX11_spans 5 zTR ad ln 0 0 287 [(0, .ref (ad 0)), (1, .int x1)] [] al) (x1 x2 x3 x4 : Int32) (al : Nat → Nat → Int32) (h : vcX11_spans_219 G  ad ln K4 K35 K137 K206 K219 K287 post x1 x2 x3 x4 al) : zB G Z rmX11_spans 5 zTR ad ln 0 0 219 [(0, .ref (ad 0)), (1, .int x1), (2, .int x2), (3, .int x3), (4, .int x4)] [] al := by
  unfold vcX11_spans_219 at h
  refine zb_iload X dX11_spans_219 4 rfl ?_
  refine zb_iload_n X dX11_spans_221 rfl 1 rfl ?_
  refine zb_icmp_ge X 246 dX11_spans_222 (by decide) (fun c1 => ?_) (fun c1 => ?_)
  · have h := h.1 c1
    refine zb_aload_n X dX11_spans_246 rfl 0 rfl ?_
    refine zb_aload_n X dX11_spans_247 rfl 0 rfl ?_
    refine zb_getI X 0 (by decide) 11 [3, 4, 5, 6, 7, 8, 9, 10, 11, 0, 12, 0, 0, 0, 0, 0, 0, 0, 0, 0, 0, 0, 0, 13, 14, 15, 16, 17, 0, 18, 19, 20, 21, 0, 0, 0, 22, 23, 24, 25, 0, 0, 26, 27, 28, 29, 0, 0, 0, 30, 0] rfl (C := RX11) (Tt := TX11) (N := 51) rfl kX11_spans_1 40 (by decide) rfl kX11_spans_2 rfl dX11_spans_248 (al 0 40) rfl ?_
    refine zb_iload_n X dX11_spans_251 rfl 3 rfl ?_
    refine zb_mmax X kX11_spans_9 kX11_spans_10 kX11_spans_11 kX11_spans_12 ⟨⟨Nat.le_of_ble_eq_true rfl, Nat.le_of_ble_eq_true rfl⟩, Nat.le_of_ble_eq_true rfl, Nat.le_of_ble_eq_true rfl⟩ dX11_spans_252 ?_
    refine zb_putI X 0 (by decide) 11 [3, 4, 5, 6, 7, 8, 9, 10, 11, 0, 12, 0, 0, 0, 0, 0, 0, 0, 0, 0, 0, 0, 0, 13, 14, 15, 16, 17, 0, 18, 19, 20, 21, 0, 0, 0, 22, 23, 24, 25, 0, 0, 26, 27, 28, 29, 0, 0, 0, 30, 0] rfl (C := RX11) (Tt := TX11) (N := 51) rfl kX11_spans_1 tyX11 tyX11_ok nmX11 40 (by decide) rfl kX11_spans_2 rfl rfl rfl rfl dX11_spans_255 ?_
    refine zb_iinc X (lv' := [(2, .int (x2 + (1 : Int32))), (0, .ref (ad 0)), (1, .int x1), (3, .int x3), (4, .int x4)]) (x2 + (1 : Int32)) dX11_spans_258 2 rfl rfl (by decide) rfl ?_
    refine zb_goto X 206 dX11_spans_261 (by decide) ?_
    refine zb_sub [1, 2, 0] rfl ?_
    exact hK206 x1 (x2 + (1 : Int32)) (up2 al 0 40 (if (al 0 40) < x3 then x3 else (al 0 40))) h
  · have h := h.2 c1
    refine zb_iload_n X dX11_spans_225 rfl 3 rfl ?_
    refine zb_aload_n X dX11_spans_226 rfl 0 rfl ?_
    refine zb_aload_n X dX11_spans_227 rfl 0 rfl ?_
    refine zb_getR X 0 (by decide) 11 [3, 4, 5, 6, 7, 8, 9, 10, 11, 0, 12, 0, 0, 0, 0, 0, 0, 0, 0, 0, 0, 0, 0, 13, 14, 15, 16, 17, 0, 18, 19, 20, 21, 0, 0, 0, 22, 23, 24, 25, 0, 0, 26, 27, 28, 29, 0, 0, 0, 30, 0] rfl (C := RX11) (Tt := TX11) (N := 51) rfl kX11_spans_1 39 (by decide) 23 rfl kX11_spans_14 rfl dX11_spans_228 ?_
    refine zb_iload X dX11_spans_231 4 rfl ?_
    obtain ⟨hz, h⟩ := h
    refine zb_iald X 23 (by decide) 1 48 0 0 rfl (Or.inl rfl) x4.toNatClampNeg rfl hz dX11_spans_233 (al 23 x4.toNatClampNeg) rfl ?_
    refine zb_iload_n X dX11_spans_234 rfl 2 rfl ?_
    refine zb_callVi (n := 2) X 0 (by decide) 11 [3, 4, 5, 6, 7, 8, 9, 10, 11, 0, 12, 0, 0, 0, 0, 0, 0, 0, 0, 0, 0, 0, 0, 13, 14, 15, 16, 17, 0, 18, 19, 20, 21, 0, 0, 0, 22, 23, 24, 25, 0, 0, 26, 27, 28, 29, 0, 0, 0, 30, 0] rfl (C := RX11) (Tt := TX11) (N := 51) rfl h gX11_spans_X11_alive rfl (by decide +kernel) (by decide) rfl rfl (Nat.le_of_ble_eq_true rfl) dX11_spans_235 (kc' := 0) (ks' := 0) rfl rfl (fun q2 a2 h => ?_)
    refine zb_iadd X dX11_spans_238 ?_
    refine zb_istore_n X (lv' := [(3, .int (x3 + q2)), (0, .ref (ad 0)), (1, .int x1), (2, .int x2), (4, .int x4)]) dX11_spans_239 rfl (by decide) rfl ?_
    refine zb_iinc X (lv' := [(4, .int (x4 + (1 : Int32))), (3, .int (x3 + q2)), (0, .ref (ad 0)), (1, .int x1), (2, .int x2)]) (x4 + (1 : Int32)) dX11_spans_240 4 rfl rfl (by decide) rfl ?_
    refine zb_goto X 219 dX11_spans_243 (by decide) ?_
    refine zb_sub [2, 3, 4, 1, 0] rfl ?_
    exact hK219 x1 x2 (x3 + q2) (x4 + (1 : Int32)) a2 h
set_option maxRecDepth 20000 in
theorem tX11_spans_287 {G : zG} {Z : zC}  {ad ln : Nat → Nat} (X : zX G Z cX11_spans 5 RX11 wsX11_spans) {K4 : Int32 → Int32 → (Nat → Nat → Int32) → Prop} {K35 : Int32 → Int32 → Int32 → (Nat → Nat → Int32) → Prop} {K137 : Int32 → Int32 → Int32 → (Nat → Nat → Int32) → Prop} {K206 : Int32 → Int32 → (Nat → Nat → Int32) → Prop} {K219 : Int32 → Int32 → Int32 → Int32 → (Nat → Nat → Int32) → Prop} {K287 : Int32 → (Nat → Nat → Int32) → Prop} {post : Int32 → (Nat → Nat → Int32) → Prop} (hR : zRi G Z rmX11_spans 5 zTR ad ln cX11_spans .boolean post) (hK4 : ∀ x1 x2 : Int32, ∀ al, K4 x1 x2 al → zB G Z rmX11_spans 5 zTR ad ln 0 0 4 [(0, .ref (ad 0)), (1, .int x1), (2, .int x2)] [] al) (hK35 : ∀ x1 x2 x3 : Int32, ∀ al, K35 x1 x2 x3 al → zB G Z rmX11_spans 5 zTR ad ln 0 0 35 [(0, .ref (ad 0)), (1, .int x1), (2, .int x2), (3, .int x3)] [] al) (hK137 : ∀ x1 x2 x3 : Int32, ∀ al, K137 x1 x2 x3 al → zB G Z rmX11_spans 5 zTR ad ln 0 0 137 [(0, .ref (ad 0)), (1, .int x1), (2, .int x2), (3, .int x3)] [] al) (hK206 : ∀ x1 x2 : Int32, ∀ al, K206 x1 x2 al → zB G Z rmX11_spans 5 zTR ad ln 0 0 206 [(0, .ref (ad 0)), (1, .int x1), (2, .int x2)] [] al) (hK219 : ∀ x1 x2 x3 x4 : Int32, ∀ al, K219 x1 x2 x3 x4 al → zB G Z rmX11_spans 5 zTR ad ln 0 0 219 [(0, .ref (ad 0)), (1, .int x1), (2, .int x2), (3, .int x3), (4, .int x4)] [] al) (hK287 : ∀ x1 : Int32, ∀ al, K287 x1 al → zB G Z rmX11_spans 5 zTR ad ln 0 0 287 [(0, .ref (ad 0)), (1, .int x1)] [] al) (x1 : Int32) (al : Nat → Nat → Int32) (h : vcX11_spans_287 G  ad ln K4 K35 K137 K206 K219 K287 post x1 al) : zB G Z rmX11_spans 5 zTR ad ln 0 0 287 [(0, .ref (ad 0)), (1, .int x1)] [] al := by
  unfold vcX11_spans_287 at h
  refine zb_aload_n X dX11_spans_287 rfl 0 rfl ?_
  refine zb_getI X 0 (by decide) 11 [3, 4, 5, 6, 7, 8, 9, 10, 11, 0, 12, 0, 0, 0, 0, 0, 0, 0, 0, 0, 0, 0, 0, 13, 14, 15, 16, 17, 0, 18, 19, 20, 21, 0, 0, 0, 22, 23, 24, 25, 0, 0, 26, 27, 28, 29, 0, 0, 0, 30, 0] rfl (C := RX11) (Tt := TX11) (N := 51) rfl kX11_spans_1 41 (by decide) rfl kX11_spans_13 rfl dX11_spans_288 (al 0 41) rfl ?_
  refine zb_sipush X (128 : Int32) dX11_spans_291 (by decide) ?_
  refine zb_icmp_gt X 320 dX11_spans_294 (by decide) (fun c1 => ?_) (fun c1 => ?_)
  · have h := h.1 c1
    refine zb_iconst X (0 : Int32) dX11_spans_320 (by decide) ?_
    exact hR 321 _ _ _ dX11_spans_321 rfl h
  · have h := h.2 c1
    refine zb_aload_n X dX11_spans_297 rfl 0 rfl ?_
    refine zb_iload_n X dX11_spans_298 rfl 1 rfl ?_
    refine zb_callVi (n := 1) X 0 (by decide) 11 [3, 4, 5, 6, 7, 8, 9, 10, 11, 0, 12, 0, 0, 0, 0, 0, 0, 0, 0, 0, 0, 0, 0, 13, 14, 15, 16, 17, 0, 18, 19, 20, 21, 0, 0, 0, 22, 23, 24, 25, 0, 0, 26, 27, 28, 29, 0, 0, 0, 30, 0] rfl (C := RX11) (Tt := TX11) (N := 51) rfl h gX11_spans_X11_rotated rfl (by decide +kernel) (by decide) rfl rfl (Nat.le_of_ble_eq_true rfl) dX11_spans_299 (kc' := 0) (ks' := 0) rfl rfl (fun q2 a2 h => ?_)
    refine zb_if_eq X 307 dX11_spans_302 (by decide) (fun c3 => ?_) (fun c3 => ?_)
    · have h := h.1 c3
      refine zb_aload_n X dX11_spans_307 rfl 0 rfl ?_
      refine zb_dup X dX11_spans_308 rfl ?_
      refine zb_getI X 0 (by decide) 11 [3, 4, 5, 6, 7, 8, 9, 10, 11, 0, 12, 0, 0, 0, 0, 0, 0, 0, 0, 0, 0, 0, 0, 13, 14, 15, 16, 17, 0, 18, 19, 20, 21, 0, 0, 0, 22, 23, 24, 25, 0, 0, 26, 27, 28, 29, 0, 0, 0, 30, 0] rfl (C := RX11) (Tt := TX11) (N := 51) rfl kX11_spans_1 41 (by decide) rfl kX11_spans_13 rfl dX11_spans_309 (a2 0 41) rfl ?_
      refine zb_iconst X (1 : Int32) dX11_spans_312 (by decide) ?_
      refine zb_iadd X dX11_spans_313 ?_
      refine zb_putI X 0 (by decide) 11 [3, 4, 5, 6, 7, 8, 9, 10, 11, 0, 12, 0, 0, 0, 0, 0, 0, 0, 0, 0, 0, 0, 0, 13, 14, 15, 16, 17, 0, 18, 19, 20, 21, 0, 0, 0, 22, 23, 24, 25, 0, 0, 26, 27, 28, 29, 0, 0, 0, 30, 0] rfl (C := RX11) (Tt := TX11) (N := 51) rfl kX11_spans_1 tyX11 tyX11_ok nmX11 41 (by decide) rfl kX11_spans_13 rfl rfl rfl rfl dX11_spans_314 ?_
      refine zb_goto X 287 dX11_spans_317 (by decide) ?_
      refine zb_sub [0, 1] rfl ?_
      exact hK287 x1 (up2 a2 0 41 ((a2 0 41) + (1 : Int32))) h
    · have h := h.2 c3
      refine zb_iconst X (1 : Int32) dX11_spans_305 (by decide) ?_
      exact hR 306 _ _ _ dX11_spans_306 rfl h
set_option maxRecDepth 20000 in
theorem tX11_spans_183 {G : zG} {Z : zC}  {ad ln : Nat → Nat} (X : zX G Z cX11_spans 5 RX11 wsX11_spans) {K4 : Int32 → Int32 → (Nat → Nat → Int32) → Prop} {K35 : Int32 → Int32 → Int32 → (Nat → Nat → Int32) → Prop} {K137 : Int32 → Int32 → Int32 → (Nat → Nat → Int32) → Prop} {K206 : Int32 → Int32 → (Nat → Nat → Int32) → Prop} {K219 : Int32 → Int32 → Int32 → Int32 → (Nat → Nat → Int32) → Prop} {K287 : Int32 → (Nat → Nat → Int32) → Prop} {post : Int32 → (Nat → Nat → Int32) → Prop} (hR : zRi G Z rmX11_spans 5 zTR ad ln cX11_spans .boolean post) (hK4 : ∀ x1 x2 : Int32, ∀ al, K4 x1 x2 al → zB G Z rmX11_spans 5 zTR ad ln 0 0 4 [(0, .ref (ad 0)), (1, .int x1), (2, .int x2)] [] al) (hK35 : ∀ x1 x2 x3 : Int32, ∀ al, K35 x1 x2 x3 al → zB G Z rmX11_spans 5 zTR ad ln 0 0 35 [(0, .ref (ad 0)), (1, .int x1), (2, .int x2), (3, .int x3)] [] al) (hK137 : ∀ x1 x2 x3 : Int32, ∀ al, K137 x1 x2 x3 al → zB G Z rmX11_spans 5 zTR ad ln 0 0 137 [(0, .ref (ad 0)), (1, .int x1), (2, .int x2), (3, .int x3)] [] al) (hK206 : ∀ x1 x2 : Int32, ∀ al, K206 x1 x2 al → zB G Z rmX11_spans 5 zTR ad ln 0 0 206 [(0, .ref (ad 0)), (1, .int x1), (2, .int x2)] [] al) (hK219 : ∀ x1 x2 x3 x4 : Int32, ∀ al, K219 x1 x2 x3 x4 al → zB G Z rmX11_spans 5 zTR ad ln 0 0 219 [(0, .ref (ad 0)), (1, .int x1), (2, .int x2), (3, .int x3), (4, .int x4)] [] al) (hK287 : ∀ x1 : Int32, ∀ al, K287 x1 al → zB G Z rmX11_spans 5 zTR ad ln 0 0 287 [(0, .ref (ad 0)), (1, .int x1)] [] al) (x1 x2 x3 : Int32) (al : Nat → Nat → Int32) (h : vcX11_spans_183 G  ad ln K4 K35 K137 K206 K219 K287 post x1 x2 x3 al) : zB G Z rmX11_spans 5 zTR ad ln 0 0 183 [(0, .ref (ad 0)), (1, .int x1), (2, .int x2), (3, .int x3)] [] al := by
  unfold vcX11_spans_183 at h
  refine zb_aload_n X dX11_spans_183 rfl 0 rfl ?_
  refine zb_getR X 0 (by decide) 11 [3, 4, 5, 6, 7, 8, 9, 10, 11, 0, 12, 0, 0, 0, 0, 0, 0, 0, 0, 0, 0, 0, 0, 13, 14, 15, 16, 17, 0, 18, 19, 20, 21, 0, 0, 0, 22, 23, 24, 25, 0, 0, 26, 27, 28, 29, 0, 0, 0, 30, 0] rfl (C := RX11) (Tt := TX11) (N := 51) rfl kX11_spans_1 39 (by decide) 23 rfl kX11_spans_14 rfl dX11_spans_184 ?_
  refine zb_iload_n X dX11_spans_187 rfl 3 rfl ?_
  refine zb_iload_n X dX11_spans_188 rfl 2 rfl ?_
  obtain ⟨hz, h⟩ := h
  refine zb_iast X 23 (by decide) 1 48 0 0 rfl (Or.inl rfl) x3.toNatClampNeg rfl hz dX11_spans_189 ?_
  refine zb_iinc X (lv' := [(1, .int (x1 + (1 : Int32))), (0, .ref (ad 0)), (2, .int x2), (3, .int x3)]) (x1 + (1 : Int32)) dX11_spans_190 1 rfl rfl (by decide) rfl ?_
  refine zb_sub [1, 0, 2] rfl ?_
  exact tX11_spans_193 X hR hK4 hK35 hK137 hK206 hK219 hK287 (x1 + (1 : Int32)) x2 (up2 al 23 x3.toNatClampNeg x2) h
set_option maxRecDepth 20000 in
theorem tX11_spans_137 {G : zG} {Z : zC}  {ad ln : Nat → Nat} (X : zX G Z cX11_spans 5 RX11 wsX11_spans) {K4 : Int32 → Int32 → (Nat → Nat → Int32) → Prop} {K35 : Int32 → Int32 → Int32 → (Nat → Nat → Int32) → Prop} {K137 : Int32 → Int32 → Int32 → (Nat → Nat → Int32) → Prop} {K206 : Int32 → Int32 → (Nat → Nat → Int32) → Prop} {K219 : Int32 → Int32 → Int32 → Int32 → (Nat → Nat → Int32) → Prop} {K287 : Int32 → (Nat → Nat → Int32) → Prop} {post : Int32 → (Nat → Nat → Int32) → Prop} (hR : zRi G Z rmX11_spans 5 zTR ad ln cX11_spans .boolean post) (hK4 : ∀ x1 x2 : Int32, ∀ al, K4 x1 x2 al → zB G Z rmX11_spans 5 zTR ad ln 0 0 4 [(0, .ref (ad 0)), (1, .int x1), (2, .int x2)] [] al) (hK35 : ∀ x1 x2 x3 : Int32, ∀ al, K35 x1 x2 x3 al → zB G Z rmX11_spans 5 zTR ad ln 0 0 35 [(0, .ref (ad 0)), (1, .int x1), (2, .int x2), (3, .int x3)] [] al) (hK137 : ∀ x1 x2 x3 : Int32, ∀ al, K137 x1 x2 x3 al → zB G Z rmX11_spans 5 zTR ad ln 0 0 137 [(0, .ref (ad 0)), (1, .int x1), (2, .int x2), (3, .int x3)] [] al) (hK206 : ∀ x1 x2 : Int32, ∀ al, K206 x1 x2 al → zB G Z rmX11_spans 5 zTR ad ln 0 0 206 [(0, .ref (ad 0)), (1, .int x1), (2, .int x2)] [] al) (hK219 : ∀ x1 x2 x3 x4 : Int32, ∀ al, K219 x1 x2 x3 x4 al → zB G Z rmX11_spans 5 zTR ad ln 0 0 219 [(0, .ref (ad 0)), (1, .int x1), (2, .int x2), (3, .int x3), (4, .int x4)] [] al) (hK287 : ∀ x1 : Int32, ∀ al, K287 x1 al → zB G Z rmX11_spans 5 zTR ad ln 0 0 287 [(0, .ref (ad 0)), (1, .int x1)] [] al) (x1 x2 x3 : Int32) (al : Nat → Nat → Int32) (h : vcX11_spans_137 G  ad ln K4 K35 K137 K206 K219 K287 post x1 x2 x3 al) : zB G Z rmX11_spans 5 zTR ad ln 0 0 137 [(0, .ref (ad 0)), (1, .int x1), (2, .int x2), (3, .int x3)] [] al := by
  unfold vcX11_spans_137 at h
  refine zb_iload_n X dX11_spans_137 rfl 3 rfl ?_
  refine zb_if_le X 183 dX11_spans_138 (by decide) (fun c1 => ?_) (fun c1 => ?_)
  · have h := h.1 c1
    refine zb_sub [0, 1, 2, 3] rfl ?_
    exact tX11_spans_183 X hR hK4 hK35 hK137 hK206 hK219 hK287 x1 x2 x3 al h
  · have h := h.2 c1
    refine zb_aload_n X dX11_spans_141 rfl 0 rfl ?_
    refine zb_getR X 0 (by decide) 11 [3, 4, 5, 6, 7, 8, 9, 10, 11, 0, 12, 0, 0, 0, 0, 0, 0, 0, 0, 0, 0, 0, 0, 13, 14, 15, 16, 17, 0, 18, 19, 20, 21, 0, 0, 0, 22, 23, 24, 25, 0, 0, 26, 27, 28, 29, 0, 0, 0, 30, 0] rfl (C := RX11) (Tt := TX11) (N := 51) rfl kX11_spans_1 36 (by decide) 20 rfl kX11_spans_3 rfl dX11_spans_142 ?_
    refine zb_aload_n X dX11_spans_145 rfl 0 rfl ?_
    refine zb_getR X 0 (by decide) 11 [3, 4, 5, 6, 7, 8, 9, 10, 11, 0, 12, 0, 0, 0, 0, 0, 0, 0, 0, 0, 0, 0, 0, 13, 14, 15, 16, 17, 0, 18, 19, 20, 21, 0, 0, 0, 22, 23, 24, 25, 0, 0, 26, 27, 28, 29, 0, 0, 0, 30, 0] rfl (C := RX11) (Tt := TX11) (N := 51) rfl kX11_spans_1 39 (by decide) 23 rfl kX11_spans_14 rfl dX11_spans_146 ?_
    refine zb_iload_n X dX11_spans_149 rfl 3 rfl ?_
    refine zb_iconst X (1 : Int32) dX11_spans_150 (by decide) ?_
    refine zb_isub X dX11_spans_151 ?_
    obtain ⟨hz, h⟩ := h
    refine zb_iald X 23 (by decide) 1 48 0 0 rfl (Or.inl rfl) ((x3 - (1 : Int32)).toNatClampNeg) rfl hz dX11_spans_152 (al 23 ((x3 - (1 : Int32)).toNatClampNeg)) rfl ?_
    obtain ⟨hz, h⟩ := h
    refine zb_iald X 20 (by decide) 1 48 0 0 rfl (Or.inl rfl) ((al 23 ((x3 - (1 : Int32)).toNatClampNeg)).toNatClampNeg) rfl hz dX11_spans_153 (al 20 ((al 23 ((x3 - (1 : Int32)).toNatClampNeg)).toNatClampNeg)) rfl ?_
    refine zb_aload_n X dX11_spans_154 rfl 0 rfl ?_
    refine zb_getR X 0 (by decide) 11 [3, 4, 5, 6, 7, 8, 9, 10, 11, 0, 12, 0, 0, 0, 0, 0, 0, 0, 0, 0, 0, 0, 0, 13, 14, 15, 16, 17, 0, 18, 19, 20, 21, 0, 0, 0, 22, 23, 24, 25, 0, 0, 26, 27, 28, 29, 0, 0, 0, 30, 0] rfl (C := RX11) (Tt := TX11) (N := 51) rfl kX11_spans_1 36 (by decide) 20 rfl kX11_spans_3 rfl dX11_spans_155 ?_
    refine zb_iload_n X dX11_spans_158 rfl 2 rfl ?_
    obtain ⟨hz, h⟩ := h
    refine zb_iald X 20 (by decide) 1 48 0 0 rfl (Or.inl rfl) x2.toNatClampNeg rfl hz dX11_spans_159 (al 20 x2.toNatClampNeg) rfl ?_
    refine zb_icmp_le X 183 dX11_spans_160 (by decide) (fun c2 => ?_) (fun c2 => ?_)
    · have h := h.1 c2
      refine zb_sub [0, 1, 2, 3] rfl ?_
      exact tX11_spans_183 X hR hK4 hK35 hK137 hK206 hK219 hK287 x1 x2 x3 al h
    · have h := h.2 c2
      refine zb_aload_n X dX11_spans_163 rfl 0 rfl ?_
      refine zb_getR X 0 (by decide) 11 [3, 4, 5, 6, 7, 8, 9, 10, 11, 0, 12, 0, 0, 0, 0, 0, 0, 0, 0, 0, 0, 0, 0, 13, 14, 15, 16, 17, 0, 18, 19, 20, 21, 0, 0, 0, 22, 23, 24, 25, 0, 0, 26, 27, 28, 29, 0, 0, 0, 30, 0] rfl (C := RX11) (Tt := TX11) (N := 51) rfl kX11_spans_1 39 (by decide) 23 rfl kX11_spans_14 rfl dX11_spans_164 ?_
      refine zb_iload_n X dX11_spans_167 rfl 3 rfl ?_
      refine zb_aload_n X dX11_spans_168 rfl 0 rfl ?_
      refine zb_getR X 0 (by decide) 11 [3, 4, 5, 6, 7, 8, 9, 10, 11, 0, 12, 0, 0, 0, 0, 0, 0, 0, 0, 0, 0, 0, 0, 13, 14, 15, 16, 17, 0, 18, 19, 20, 21, 0, 0, 0, 22, 23, 24, 25, 0, 0, 26, 27, 28, 29, 0, 0, 0, 30, 0] rfl (C := RX11) (Tt := TX11) (N := 51) rfl kX11_spans_1 39 (by decide) 23 rfl kX11_spans_14 rfl dX11_spans_169 ?_
      refine zb_iload_n X dX11_spans_172 rfl 3 rfl ?_
      refine zb_iconst X (1 : Int32) dX11_spans_173 (by decide) ?_
      refine zb_isub X dX11_spans_174 ?_
      obtain ⟨hz, h⟩ := h
      refine zb_iald X 23 (by decide) 1 48 0 0 rfl (Or.inl rfl) ((x3 - (1 : Int32)).toNatClampNeg) rfl hz dX11_spans_175 (al 23 ((x3 - (1 : Int32)).toNatClampNeg)) rfl ?_
      obtain ⟨hz, h⟩ := h
      refine zb_iast X 23 (by decide) 1 48 0 0 rfl (Or.inl rfl) x3.toNatClampNeg rfl hz dX11_spans_176 ?_
      refine zb_iinc X (lv' := [(3, .int (x3 + (-1 : Int32))), (0, .ref (ad 0)), (1, .int x1), (2, .int x2)]) (x3 + (-1 : Int32)) dX11_spans_177 3 rfl rfl (by decide) rfl ?_
      refine zb_goto X 137 dX11_spans_180 (by decide) ?_
      refine zb_sub [1, 2, 3, 0] rfl ?_
      exact hK137 x1 x2 (x3 + (-1 : Int32)) (up2 al 23 x3.toNatClampNeg (al 23 ((x3 - (1 : Int32)).toNatClampNeg))) h
theorem uX11_spans_0 {G : zG} {Z : zC}  {ad ln : Nat → Nat} (X : zX G Z cX11_spans 5 RX11 wsX11_spans) {post : Int32 → (Nat → Nat → Int32) → Prop} (hR : zRi G Z rmX11_spans 5 zTR ad ln cX11_spans .boolean post) (al : Nat → Nat → Int32) (h : vcX11_spans_0 G  ad ln (BX11_spans_4 G Z  ad ln) (BX11_spans_35 G Z  ad ln) (BX11_spans_137 G Z  ad ln) (BX11_spans_206 G Z  ad ln) (BX11_spans_219 G Z  ad ln) (BX11_spans_287 G Z  ad ln) post  al) : zB G Z rmX11_spans 5 zTR ad ln 0 0 0 [(0, .ref (ad 0))] [] al := tX11_spans_0 X hR (fun _ _ _ h => h) (fun _ _ _ _ h => h) (fun _ _ _ _ h => h) (fun _ _ _ h => h) (fun _ _ _ _ _ h => h) (fun _ _ h => h)  al h
theorem uX11_spans_4 {G : zG} {Z : zC}  {ad ln : Nat → Nat} (X : zX G Z cX11_spans 5 RX11 wsX11_spans) {post : Int32 → (Nat → Nat → Int32) → Prop} (hR : zRi G Z rmX11_spans 5 zTR ad ln cX11_spans .boolean post) (x1 x2 : Int32) (al : Nat → Nat → Int32) (h : vcX11_spans_4 G  ad ln (BX11_spans_4 G Z  ad ln) (BX11_spans_35 G Z  ad ln) (BX11_spans_137 G Z  ad ln) (BX11_spans_206 G Z  ad ln) (BX11_spans_219 G Z  ad ln) (BX11_spans_287 G Z  ad ln) post x1 x2 al) : zB G Z rmX11_spans 5 zTR ad ln 0 0 4 [(0, .ref (ad 0)), (1, .int x1), (2, .int x2)] [] al := tX11_spans_4 X hR (fun _ _ _ h => h) (fun _ _ _ _ h => h) (fun _ _ _ _ h => h) (fun _ _ _ h => h) (fun _ _ _ _ _ h => h) (fun _ _ h => h) x1 x2 al h
theorem uX11_spans_193 {G : zG} {Z : zC}  {ad ln : Nat → Nat} (X : zX G Z cX11_spans 5 RX11 wsX11_spans) {post : Int32 → (Nat → Nat → Int32) → Prop} (hR : zRi G Z rmX11_spans 5 zTR ad ln cX11_spans .boolean post) (x1 x2 : Int32) (al : Nat → Nat → Int32) (h : vcX11_spans_193 G  ad ln (BX11_spans_4 G Z  ad ln) (BX11_spans_35 G Z  ad ln) (BX11_spans_137 G Z  ad ln) (BX11_spans_206 G Z  ad ln) (BX11_spans_219 G Z  ad ln) (BX11_spans_287 G Z  ad ln) post x1 x2 al) : zB G Z rmX11_spans 5 zTR ad ln 0 0 193 [(0, .ref (ad 0)), (1, .int x1), (2, .int x2)] [] al := tX11_spans_193 X hR (fun _ _ _ h => h) (fun _ _ _ _ h => h) (fun _ _ _ _ h => h) (fun _ _ _ h => h) (fun _ _ _ _ _ h => h) (fun _ _ h => h) x1 x2 al h
theorem uX11_spans_105 {G : zG} {Z : zC}  {ad ln : Nat → Nat} (X : zX G Z cX11_spans 5 RX11 wsX11_spans) {post : Int32 → (Nat → Nat → Int32) → Prop} (hR : zRi G Z rmX11_spans 5 zTR ad ln cX11_spans .boolean post) (x1 x2 : Int32) (al : Nat → Nat → Int32) (h : vcX11_spans_105 G  ad ln (BX11_spans_4 G Z  ad ln) (BX11_spans_35 G Z  ad ln) (BX11_spans_137 G Z  ad ln) (BX11_spans_206 G Z  ad ln) (BX11_spans_219 G Z  ad ln) (BX11_spans_287 G Z  ad ln) post x1 x2 al) : zB G Z rmX11_spans 5 zTR ad ln 0 0 105 [(0, .ref (ad 0)), (1, .int x1), (2, .int x2)] [] al := tX11_spans_105 X hR (fun _ _ _ h => h) (fun _ _ _ _ h => h) (fun _ _ _ _ h => h) (fun _ _ _ h => h) (fun _ _ _ _ _ h => h) (fun _ _ h => h) x1 x2 al h
theorem uX11_spans_99 {G : zG} {Z : zC}  {ad ln : Nat → Nat} (X : zX G Z cX11_spans 5 RX11 wsX11_spans) {post : Int32 → (Nat → Nat → Int32) → Prop} (hR : zRi G Z rmX11_spans 5 zTR ad ln cX11_spans .boolean post) (x1 x2 x3 : Int32) (al : Nat → Nat → Int32) (h : vcX11_spans_99 G  ad ln (BX11_spans_4 G Z  ad ln) (BX11_spans_35 G Z  ad ln) (BX11_spans_137 G Z  ad ln) (BX11_spans_206 G Z  ad ln) (BX11_spans_219 G Z  ad ln) (BX11_spans_287 G Z  ad ln) post x1 x2 x3 al) : zB G Z rmX11_spans 5 zTR ad ln 0 0 99 [(0, .ref (ad 0)), (1, .int x1), (2, .int x2), (3, .int x3)] [] al := tX11_spans_99 X hR (fun _ _ _ h => h) (fun _ _ _ _ h => h) (fun _ _ _ _ h => h) (fun _ _ _ h => h) (fun _ _ _ _ _ h => h) (fun _ _ h => h) x1 x2 x3 al h
theorem uX11_spans_35 {G : zG} {Z : zC}  {ad ln : Nat → Nat} (X : zX G Z cX11_spans 5 RX11 wsX11_spans) {post : Int32 → (Nat → Nat → Int32) → Prop} (hR : zRi G Z rmX11_spans 5 zTR ad ln cX11_spans .boolean post) (x1 x2 x3 : Int32) (al : Nat → Nat → Int32) (h : vcX11_spans_35 G  ad ln (BX11_spans_4 G Z  ad ln) (BX11_spans_35 G Z  ad ln) (BX11_spans_137 G Z  ad ln) (BX11_spans_206 G Z  ad ln) (BX11_spans_219 G Z  ad ln) (BX11_spans_287 G Z  ad ln) post x1 x2 x3 al) : zB G Z rmX11_spans 5 zTR ad ln 0 0 35 [(0, .ref (ad 0)), (1, .int x1), (2, .int x2), (3, .int x3)] [] al := tX11_spans_35 X hR (fun _ _ _ h => h) (fun _ _ _ _ h => h) (fun _ _ _ _ h => h) (fun _ _ _ h => h) (fun _ _ _ _ _ h => h) (fun _ _ h => h) x1 x2 x3 al h
theorem uX11_spans_206 {G : zG} {Z : zC}  {ad ln : Nat → Nat} (X : zX G Z cX11_spans 5 RX11 wsX11_spans) {post : Int32 → (Nat → Nat → Int32) → Prop} (hR : zRi G Z rmX11_spans 5 zTR ad ln cX11_spans .boolean post) (x1 x2 : Int32) (al : Nat → Nat → Int32) (h : vcX11_spans_206 G  ad ln (BX11_spans_4 G Z  ad ln) (BX11_spans_35 G Z  ad ln) (BX11_spans_137 G Z  ad ln) (BX11_spans_206 G Z  ad ln) (BX11_spans_219 G Z  ad ln) (BX11_spans_287 G Z  ad ln) post x1 x2 al) : zB G Z rmX11_spans 5 zTR ad ln 0 0 206 [(0, .ref (ad 0)), (1, .int x1), (2, .int x2)] [] al := tX11_spans_206 X hR (fun _ _ _ h => h) (fun _ _ _ _ h => h) (fun _ _ _ _ h => h) (fun _ _ _ h => h) (fun _ _ _ _ _ h => h) (fun _ _ h => h) x1 x2 al h
theorem uX11_spans_219 {G : zG} {Z : zC}  {ad ln : Nat → Nat} (X : zX G Z cX11_spans 5 RX11 wsX11_spans) {post : Int32 → (Nat → Nat → Int32) → Prop} (hR : zRi G Z rmX11_spans 5 zTR ad ln cX11_spans .boolean post) (x1 x2 x3 x4 : Int32) (al : Nat → Nat → Int32) (h : vcX11_spans_219 G  ad ln (BX11_spans_4 G Z  ad ln) (BX11_spans_35 G Z  ad ln) (BX11_spans_137 G Z  ad ln) (BX11_spans_206 G Z  ad ln) (BX11_spans_219 G Z  ad ln) (BX11_spans_287 G Z  ad ln) post x1 x2 x3 x4 al) : zB G Z rmX11_spans 5 zTR ad ln 0 0 219 [(0, .ref (ad 0)), (1, .int x1), (2, .int x2), (3, .int x3), (4, .int x4)] [] al := tX11_spans_219 X hR (fun _ _ _ h => h) (fun _ _ _ _ h => h) (fun _ _ _ _ h => h) (fun _ _ _ h => h) (fun _ _ _ _ _ h => h) (fun _ _ h => h) x1 x2 x3 x4 al h
theorem uX11_spans_287 {G : zG} {Z : zC}  {ad ln : Nat → Nat} (X : zX G Z cX11_spans 5 RX11 wsX11_spans) {post : Int32 → (Nat → Nat → Int32) → Prop} (hR : zRi G Z rmX11_spans 5 zTR ad ln cX11_spans .boolean post) (x1 : Int32) (al : Nat → Nat → Int32) (h : vcX11_spans_287 G  ad ln (BX11_spans_4 G Z  ad ln) (BX11_spans_35 G Z  ad ln) (BX11_spans_137 G Z  ad ln) (BX11_spans_206 G Z  ad ln) (BX11_spans_219 G Z  ad ln) (BX11_spans_287 G Z  ad ln) post x1 al) : zB G Z rmX11_spans 5 zTR ad ln 0 0 287 [(0, .ref (ad 0)), (1, .int x1)] [] al := tX11_spans_287 X hR (fun _ _ _ h => h) (fun _ _ _ _ h => h) (fun _ _ _ _ h => h) (fun _ _ _ h => h) (fun _ _ _ _ _ h => h) (fun _ _ h => h) x1 al h
theorem uX11_spans_183 {G : zG} {Z : zC}  {ad ln : Nat → Nat} (X : zX G Z cX11_spans 5 RX11 wsX11_spans) {post : Int32 → (Nat → Nat → Int32) → Prop} (hR : zRi G Z rmX11_spans 5 zTR ad ln cX11_spans .boolean post) (x1 x2 x3 : Int32) (al : Nat → Nat → Int32) (h : vcX11_spans_183 G  ad ln (BX11_spans_4 G Z  ad ln) (BX11_spans_35 G Z  ad ln) (BX11_spans_137 G Z  ad ln) (BX11_spans_206 G Z  ad ln) (BX11_spans_219 G Z  ad ln) (BX11_spans_287 G Z  ad ln) post x1 x2 x3 al) : zB G Z rmX11_spans 5 zTR ad ln 0 0 183 [(0, .ref (ad 0)), (1, .int x1), (2, .int x2), (3, .int x3)] [] al := tX11_spans_183 X hR (fun _ _ _ h => h) (fun _ _ _ _ h => h) (fun _ _ _ _ h => h) (fun _ _ _ h => h) (fun _ _ _ _ _ h => h) (fun _ _ h => h) x1 x2 x3 al h
theorem uX11_spans_137 {G : zG} {Z : zC}  {ad ln : Nat → Nat} (X : zX G Z cX11_spans 5 RX11 wsX11_spans) {post : Int32 → (Nat → Nat → Int32) → Prop} (hR : zRi G Z rmX11_spans 5 zTR ad ln cX11_spans .boolean post) (x1 x2 x3 : Int32) (al : Nat → Nat → Int32) (h : vcX11_spans_137 G  ad ln (BX11_spans_4 G Z  ad ln) (BX11_spans_35 G Z  ad ln) (BX11_spans_137 G Z  ad ln) (BX11_spans_206 G Z  ad ln) (BX11_spans_219 G Z  ad ln) (BX11_spans_287 G Z  ad ln) post x1 x2 x3 al) : zB G Z rmX11_spans 5 zTR ad ln 0 0 137 [(0, .ref (ad 0)), (1, .int x1), (2, .int x2), (3, .int x3)] [] al := tX11_spans_137 X hR (fun _ _ _ h => h) (fun _ _ _ _ h => h) (fun _ _ _ _ h => h) (fun _ _ _ h => h) (fun _ _ _ _ _ h => h) (fun _ _ h => h) x1 x2 x3 al h

abbrev rmX11_layAll : Room := { frames := 6, cells := 0, slots := 0, locals := 143 }
theorem kX11_layAll_0 : Cond.fieldLink RX11 216 RX11 "distance" "I" ∈ wsX11_layAll := by decide +kernel
theorem kX11_layAll_1 : zIn RX11 TX11 51 wsX11_layAll := by decide +kernel
theorem kX11_layAll_2 : Cond.methodLink RX11 134 Lib.Math.max.name ∈ wsX11_layAll := by decide +kernel
theorem kX11_layAll_3 : Cond.static Lib.Math.max.name ∈ wsX11_layAll := by decide +kernel
theorem kX11_layAll_4 : Cond.initialized "java/lang/Math" ∈ wsX11_layAll := by decide +kernel
theorem kX11_layAll_5 : Cond.code Lib.Math.max.name Lib.Math.max.code 2 (some .int) ∈ wsX11_layAll := by decide +kernel
theorem kX11_layAll_6 : Cond.fieldLink RX11 189 RX11 "cycle" "[I" ∈ wsX11_layAll := by decide +kernel
theorem kX11_layAll_7 : Cond.fieldLink RX11 137 RX11 "rows" "I" ∈ wsX11_layAll := by decide +kernel
theorem kX11_layAll_8 : Cond.methodLink RX11 50 Lib.Math.min.name ∈ wsX11_layAll := by decide +kernel
theorem kX11_layAll_9 : Cond.static Lib.Math.min.name ∈ wsX11_layAll := by decide +kernel
theorem kX11_layAll_10 : Cond.code Lib.Math.min.name Lib.Math.min.code 2 (some .int) ∈ wsX11_layAll := by decide +kernel
theorem kX11_layAll_11 : Cond.fieldLink RX11 228 RX11 "stages" "I" ∈ wsX11_layAll := by decide +kernel
abbrev BX11_layAll_86 (G : zG) (Z : zC)  (ad ln : Nat → Nat) (x1 x2 x3 x4 : Int32) (al : Nat → Nat → Int32) : Prop := zB G Z rmX11_layAll 5 zTR ad ln 0 0 86 [(0, .ref (ad 0)), (1, .int x1), (2, .int x2), (3, .int x3), (4, .int x4)] [] al
abbrev BX11_layAll_56 (G : zG) (Z : zC)  (ad ln : Nat → Nat) (x1 x2 x3 x4 : Int32) (al : Nat → Nat → Int32) : Prop := zB G Z rmX11_layAll 5 zTR ad ln 0 0 56 [(0, .ref (ad 0)), (1, .int x1), (2, .int x2), (3, .int x3), (4, .int x4)] [] al
abbrev BX11_layAll_21 (G : zG) (Z : zC)  (ad ln : Nat → Nat) (x1 : Int32) (al : Nat → Nat → Int32) : Prop := zB G Z rmX11_layAll 5 zTR ad ln 0 0 21 [(0, .ref (ad 0)), (1, .int x1)] [] al
def vcX11_layAll_0 (G : zG)  (ad ln : Nat → Nat) (K21 : Int32 → (Nat → Nat → Int32) → Prop) (K56 : Int32 → Int32 → Int32 → Int32 → (Nat → Nat → Int32) → Prop) (K86 : Int32 → Int32 → Int32 → Int32 → (Nat → Nat → Int32) → Prop) (post : Int32 → (Nat → Nat → Int32) → Prop) (al : Nat → Nat → Int32) : Prop :=
  zMv G yX11_findWaits wsX11_findWaits rmX11_findWaits zTR ad ln [.ref (ad 0)] al (fun a1 => zMi G yX11_leastByUnits wsX11_leastByUnits rmX11_leastByUnits zTR ad ln [.ref (ad 0)] (up2 a1 0 33 (0 : Int32)) (fun q2 a2 => zMi G yX11_leastByCircles wsX11_leastByCircles rmX11_leastByCircles zTR ad ln [.ref (ad 0)] a2 (fun q3 a3 => K21 (if q2 < q3 then q3 else q2) a3)))
def vcX11_layAll_147 (G : zG)  (ad ln : Nat → Nat) (K21 : Int32 → (Nat → Nat → Int32) → Prop) (K56 : Int32 → Int32 → Int32 → Int32 → (Nat → Nat → Int32) → Prop) (K86 : Int32 → Int32 → Int32 → Int32 → (Nat → Nat → Int32) → Prop) (post : Int32 → (Nat → Nat → Int32) → Prop) (x1 : Int32) (al : Nat → Nat → Int32) : Prop :=
  K21 (x1 + (1 : Int32)) al
def vcX11_layAll_21 (G : zG)  (ad ln : Nat → Nat) (K21 : Int32 → (Nat → Nat → Int32) → Prop) (K56 : Int32 → Int32 → Int32 → Int32 → (Nat → Nat → Int32) → Prop) (K86 : Int32 → Int32 → Int32 → Int32 → (Nat → Nat → Int32) → Prop) (post : Int32 → (Nat → Nat → Int32) → Prop) (x1 : Int32) (al : Nat → Nat → Int32) : Prop :=
  ((200 : Int32) < x1 → post (0 : Int32) al) ∧ (¬ (200 : Int32) < x1 → zMi G yX11_tryAt wsX11_tryAt rmX11_tryAt zTR ad ln [.ref (ad 0), .int x1] al (fun q2 a2 => (¬ q2 = 0 → (vp_in (0 : Int32) 48 ∧ K56 x1 (a2 17 0) (0 : Int32) (0 : Int32) (up2 a2 0 33 x1))) ∧ (q2 = 0 → vcX11_layAll_147 G  ad ln K21 K56 K86 post x1 a2)))
def vcX11_layAll_56 (G : zG)  (ad ln : Nat → Nat) (K21 : Int32 → (Nat → Nat → Int32) → Prop) (K56 : Int32 → Int32 → Int32 → Int32 → (Nat → Nat → Int32) → Prop) (K86 : Int32 → Int32 → Int32 → Int32 → (Nat → Nat → Int32) → Prop) (post : Int32 → (Nat → Nat → Int32) → Prop) (x1 x2 x3 x4 : Int32) (al : Nat → Nat → Int32) : Prop :=
  ((al 0 9) ≤ x4 → K86 x1 x2 x3 (0 : Int32) al) ∧ (¬ (al 0 9) ≤ x4 → (vp_in x4 48 ∧ K56 x1 (if (al 17 x4.toNatClampNeg) < x2 then (al 17 x4.toNatClampNeg) else x2) x3 (x4 + (1 : Int32)) al))
def vcX11_layAll_86 (G : zG)  (ad ln : Nat → Nat) (K21 : Int32 → (Nat → Nat → Int32) → Prop) (K56 : Int32 → Int32 → Int32 → Int32 → (Nat → Nat → Int32) → Prop) (K86 : Int32 → Int32 → Int32 → Int32 → (Nat → Nat → Int32) → Prop) (post : Int32 → (Nat → Nat → Int32) → Prop) (x1 x2 x3 x4 : Int32) (al : Nat → Nat → Int32) : Prop :=
  ((al 0 9) ≤ x4 → (¬ x1 = 0 ∧ zMi G yX11_spans wsX11_spans rmX11_spans zTR ad ln [.ref (ad 0)] (up2 al 0 35 ((x3 / x1) + (1 : Int32))) (fun q2 a2 => (q2 = 0 → vcX11_layAll_147 G  ad ln K21 K56 K86 post x1 (up2 a2 0 33 (0 : Int32))) ∧ (¬ q2 = 0 → post (1 : Int32) a2)))) ∧ (¬ (al 0 9) ≤ x4 → (vp_in x4 48 ∧ vp_in x4 48 ∧ vp_in x4 48 ∧ K86 x1 x2 (if x3 < ((al 17 x4.toNatClampNeg) - x2) then ((al 17 x4.toNatClampNeg) - x2) else x3) (x4 + (1 : Int32)) (up2 al 17 x4.toNatClampNeg ((al 17 x4.toNatClampNeg) - x2))))
set_option maxRecDepth 20000 in
theorem tX11_layAll_0 {G : zG} {Z : zC}  {ad ln : Nat → Nat} (X : zX G Z cX11_layAll 5 RX11 wsX11_layAll) {K21 : Int32 → (Nat → Nat → Int32) → Prop} {K56 : Int32 → Int32 → Int32 → Int32 → (Nat → Nat → Int32) → Prop} {K86 : Int32 → Int32 → Int32 → Int32 → (Nat → Nat → Int32) → Prop} {post : Int32 → (Nat → Nat → Int32) → Prop} (hR : zRi G Z rmX11_layAll 5 zTR ad ln cX11_layAll .boolean post) (hK21 : ∀ x1 : Int32, ∀ al, K21 x1 al → zB G Z rmX11_layAll 5 zTR ad ln 0 0 21 [(0, .ref (ad 0)), (1, .int x1)] [] al) (hK56 : ∀ x1 x2 x3 x4 : Int32, ∀ al, K56 x1 x2 x3 x4 al → zB G Z rmX11_layAll 5 zTR ad ln 0 0 56 [(0, .ref (ad 0)), (1, .int x1), (2, .int x2), (3, .int x3), (4, .int x4)] [] al) (hK86 : ∀ x1 x2 x3 x4 : Int32, ∀ al, K86 x1 x2 x3 x4 al → zB G Z rmX11_layAll 5 zTR ad ln 0 0 86 [(0, .ref (ad 0)), (1, .int x1), (2, .int x2), (3, .int x3), (4, .int x4)] [] al) (al : Nat → Nat → Int32) (h : vcX11_layAll_0 G  ad ln K21 K56 K86 post  al) : zB G Z rmX11_layAll 5 zTR ad ln 0 0 0 [(0, .ref (ad 0))] [] al := by
  unfold vcX11_layAll_0 at h
  refine zb_aload_n X dX11_layAll_0 rfl 0 rfl ?_
  refine zb_callVv (n := 0) X 0 (by decide) 11 [3, 4, 5, 6, 7, 8, 9, 10, 11, 0, 12, 0, 0, 0, 0, 0, 0, 0, 0, 0, 0, 0, 0, 13, 14, 15, 16, 17, 0, 18, 19, 20, 21, 0, 0, 0, 22, 23, 24, 25, 0, 0, 26, 27, 28, 29, 0, 0, 0, 30, 0] rfl (C := RX11) (Tt := TX11) (N := 51) rfl h gX11_layAll_X11_findWaits rfl (by decide +kernel) (by decide) rfl rfl (Nat.le_of_ble_eq_true rfl) dX11_layAll_1 (kc' := 0) (ks' := 0) rfl rfl (fun a1 h => ?_)
  refine zb_aload_n X dX11_layAll_4 rfl 0 rfl ?_
  refine zb_iconst X (0 : Int32) dX11_layAll_5 (by decide) ?_
  refine zb_putI X 0 (by decide) 11 [3, 4, 5, 6, 7, 8, 9, 10, 11, 0, 12, 0, 0, 0, 0, 0, 0, 0, 0, 0, 0, 0, 0, 13, 14, 15, 16, 17, 0, 18, 19, 20, 21, 0, 0, 0, 22, 23, 24, 25, 0, 0, 26, 27, 28, 29, 0, 0, 0, 30, 0] rfl (C := RX11) (Tt := TX11) (N := 51) rfl kX11_layAll_1 tyX11 tyX11_ok nmX11 33 (by decide) rfl kX11_layAll_0 rfl rfl rfl rfl dX11_layAll_6 ?_
  refine zb_aload_n X dX11_layAll_9 rfl 0 rfl ?_
  refine zb_callVi (n := 0) X 0 (by decide) 11 [3, 4, 5, 6, 7, 8, 9, 10, 11, 0, 12, 0, 0, 0, 0, 0, 0, 0, 0, 0, 0, 0, 0, 13, 14, 15, 16, 17, 0, 18, 19, 20, 21, 0, 0, 0, 22, 23, 24, 25, 0, 0, 26, 27, 28, 29, 0, 0, 0, 30, 0] rfl (C := RX11) (Tt := TX11) (N := 51) rfl h gX11_layAll_X11_leastByUnits rfl (by decide +kernel) (by decide) rfl rfl (Nat.le_of_ble_eq_true rfl) dX11_layAll_10 (kc' := 0) (ks' := 0) rfl rfl (fun q2 a2 h => ?_)
  refine zb_aload_n X dX11_layAll_13 rfl 0 rfl ?_
  refine zb_callVi (n := 0) X 0 (by decide) 11 [3, 4, 5, 6, 7, 8, 9, 10, 11, 0, 12, 0, 0, 0, 0, 0, 0, 0, 0, 0, 0, 0, 0, 13, 14, 15, 16, 17, 0, 18, 19, 20, 21, 0, 0, 0, 22, 23, 24, 25, 0, 0, 26, 27, 28, 29, 0, 0, 0, 30, 0] rfl (C := RX11) (Tt := TX11) (N := 51) rfl h gX11_layAll_X11_leastByCircles rfl (by decide +kernel) (by decide) rfl rfl (Nat.le_of_ble_eq_true rfl) dX11_layAll_14 (kc' := 0) (ks' := 0) rfl rfl (fun q3 a3 h => ?_)
  refine zb_mmax X kX11_layAll_2 kX11_layAll_3 kX11_layAll_4 kX11_layAll_5 ⟨⟨Nat.le_of_ble_eq_true rfl, Nat.le_of_ble_eq_true rfl⟩, Nat.le_of_ble_eq_true rfl, Nat.le_of_ble_eq_true rfl⟩ dX11_layAll_17 ?_
  refine zb_istore_n X (lv' := [(1, .int (if q2 < q3 then q3 else q2)), (0, .ref (ad 0))]) dX11_layAll_20 rfl (by decide) rfl ?_
  refine zb_sub [1, 0] rfl ?_
  exact hK21 (if q2 < q3 then q3 else q2) a3 h
set_option maxRecDepth 20000 in
theorem tX11_layAll_147 {G : zG} {Z : zC}  {ad ln : Nat → Nat} (X : zX G Z cX11_layAll 5 RX11 wsX11_layAll) {K21 : Int32 → (Nat → Nat → Int32) → Prop} {K56 : Int32 → Int32 → Int32 → Int32 → (Nat → Nat → Int32) → Prop} {K86 : Int32 → Int32 → Int32 → Int32 → (Nat → Nat → Int32) → Prop} {post : Int32 → (Nat → Nat → Int32) → Prop} (hR : zRi G Z rmX11_layAll 5 zTR ad ln cX11_layAll .boolean post) (hK21 : ∀ x1 : Int32, ∀ al, K21 x1 al → zB G Z rmX11_layAll 5 zTR ad ln 0 0 21 [(0, .ref (ad 0)), (1, .int x1)] [] al) (hK56 : ∀ x1 x2 x3 x4 : Int32, ∀ al, K56 x1 x2 x3 x4 al → zB G Z rmX11_layAll 5 zTR ad ln 0 0 56 [(0, .ref (ad 0)), (1, .int x1), (2, .int x2), (3, .int x3), (4, .int x4)] [] al) (hK86 : ∀ x1 x2 x3 x4 : Int32, ∀ al, K86 x1 x2 x3 x4 al → zB G Z rmX11_layAll 5 zTR ad ln 0 0 86 [(0, .ref (ad 0)), (1, .int x1), (2, .int x2), (3, .int x3), (4, .int x4)] [] al) (x1 : Int32) (al : Nat → Nat → Int32) (h : vcX11_layAll_147 G  ad ln K21 K56 K86 post x1 al) : zB G Z rmX11_layAll 5 zTR ad ln 0 0 147 [(0, .ref (ad 0)), (1, .int x1)] [] al := by
  unfold vcX11_layAll_147 at h
  refine zb_iinc X (lv' := [(1, .int (x1 + (1 : Int32))), (0, .ref (ad 0))]) (x1 + (1 : Int32)) dX11_layAll_147 1 rfl rfl (by decide) rfl ?_
  refine zb_goto X 21 dX11_layAll_150 (by decide) ?_
  refine zb_sub [1, 0] rfl ?_
  exact hK21 (x1 + (1 : Int32)) al h
set_option maxRecDepth 20000 in
theorem tX11_layAll_21 {G : zG} {Z : zC}  {ad ln : Nat → Nat} (X : zX G Z cX11_layAll 5 RX11 wsX11_layAll) {K21 : Int32 → (Nat → Nat → Int32) → Prop} {K56 : Int32 → Int32 → Int32 → Int32 → (Nat → Nat → Int32) → Prop} {K86 : Int32 → Int32 → Int32 → Int32 → (Nat → Nat → Int32) → Prop} {post : Int32 → (Nat → Nat → Int32) → Prop} (hR : zRi G Z rmX11_layAll 5 zTR ad ln cX11_layAll .boolean post) (hK21 : ∀ x1 : Int32, ∀ al, K21 x1 al → zB G Z rmX11_layAll 5 zTR ad ln 0 0 21 [(0, .ref (ad 0)), (1, .int x1)] [] al) (hK56 : ∀ x1 x2 x3 x4 : Int32, ∀ al, K56 x1 x2 x3 x4 al → zB G Z rmX11_layAll 5 zTR ad ln 0 0 56 [(0, .ref (ad 0)), (1, .int x1), (2, .int x2), (3, .int x3), (4, .int x4)] [] al) (hK86 : ∀ x1 x2 x3 x4 : Int32, ∀ al, K86 x1 x2 x3 x4 al → zB G Z rmX11_layAll 5 zTR ad ln 0 0 86 [(0, .ref (ad 0)), (1, .int x1), (2, .int x2), (3, .int x3), (4, .int x4)] [] al) (x1 : Int32) (al : Nat → Nat → Int32) (h : vcX11_layAll_21 G  ad ln K21 K56 K86 post x1 al) : zB G Z rmX11_layAll 5 zTR ad ln 0 0 21 [(0, .ref (ad 0)), (1, .int x1)] [] al := by
  unfold vcX11_layAll_21 at h
  refine zb_iload_n X dX11_layAll_21 rfl 1 rfl ?_
  refine zb_sipush X (200 : Int32) dX11_layAll_22 (by decide) ?_
  refine zb_icmp_gt X 153 dX11_layAll_25 (by decide) (fun c1 => ?_) (fun c1 => ?_)
  · have h := h.1 c1
    refine zb_iconst X (0 : Int32) dX11_layAll_153 (by decide) ?_
    exact hR 154 _ _ _ dX11_layAll_154 rfl h
  · have h := h.2 c1
    refine zb_aload_n X dX11_layAll_28 rfl 0 rfl ?_
    refine zb_iload_n X dX11_layAll_29 rfl 1 rfl ?_
    refine zb_callVi (n := 1) X 0 (by decide) 11 [3, 4, 5, 6, 7, 8, 9, 10, 11, 0, 12, 0, 0, 0, 0, 0, 0, 0, 0, 0, 0, 0, 0, 13, 14, 15, 16, 17, 0, 18, 19, 20, 21, 0, 0, 0, 22, 23, 24, 25, 0, 0, 26, 27, 28, 29, 0, 0, 0, 30, 0] rfl (C := RX11) (Tt := TX11) (N := 51) rfl h gX11_layAll_X11_tryAt rfl (by decide +kernel) (by decide) rfl rfl (Nat.le_of_ble_eq_true rfl) dX11_layAll_30 (kc' := 0) (ks' := 0) rfl rfl (fun q2 a2 h => ?_)
    refine zb_if_ne X 39 dX11_layAll_33 (by decide) (fun c3 => ?_) (fun c3 => ?_)
    · have h := h.1 c3
      refine zb_aload_n X dX11_layAll_39 rfl 0 rfl ?_
      refine zb_iload_n X dX11_layAll_40 rfl 1 rfl ?_
      refine zb_putI X 0 (by decide) 11 [3, 4, 5, 6, 7, 8, 9, 10, 11, 0, 12, 0, 0, 0, 0, 0, 0, 0, 0, 0, 0, 0, 0, 13, 14, 15, 16, 17, 0, 18, 19, 20, 21, 0, 0, 0, 22, 23, 24, 25, 0, 0, 26, 27, 28, 29, 0, 0, 0, 30, 0] rfl (C := RX11) (Tt := TX11) (N := 51) rfl kX11_layAll_1 tyX11 tyX11_ok nmX11 33 (by decide) rfl kX11_layAll_0 rfl rfl rfl rfl dX11_layAll_41 ?_
      refine zb_aload_n X dX11_layAll_44 rfl 0 rfl ?_
      refine zb_getR X 0 (by decide) 11 [3, 4, 5, 6, 7, 8, 9, 10, 11, 0, 12, 0, 0, 0, 0, 0, 0, 0, 0, 0, 0, 0, 0, 13, 14, 15, 16, 17, 0, 18, 19, 20, 21, 0, 0, 0, 22, 23, 24, 25, 0, 0, 26, 27, 28, 29, 0, 0, 0, 30, 0] rfl (C := RX11) (Tt := TX11) (N := 51) rfl kX11_layAll_1 30 (by decide) 17 rfl kX11_layAll_6 rfl dX11_layAll_45 ?_
      refine zb_iconst X (0 : Int32) dX11_layAll_48 (by decide) ?_
      obtain ⟨hz, h⟩ := h
      refine zb_iald X 17 (by decide) 1 48 0 0 rfl (Or.inl rfl) 0 rfl hz dX11_layAll_49 (a2 17 0) rfl ?_
      refine zb_istore_n X (lv' := [(2, .int (a2 17 0)), (0, .ref (ad 0)), (1, .int x1)]) dX11_layAll_50 rfl (by decide) rfl ?_
      refine zb_iconst X (0 : Int32) dX11_layAll_51 (by decide) ?_
      refine zb_istore_n X (lv' := [(3, .int (0 : Int32)), (2, .int (a2 17 0)), (0, .ref (ad 0)), (1, .int x1)]) dX11_layAll_52 rfl (by decide) rfl ?_
      refine zb_iconst X (0 : Int32) dX11_layAll_53 (by decide) ?_
      refine zb_istore X (lv' := [(4, .int (0 : Int32)), (3, .int (0 : Int32)), (2, .int (a2 17 0)), (0, .ref (ad 0)), (1, .int x1)]) dX11_layAll_54 (by decide) rfl ?_
      refine zb_sub [3, 4, 2, 1, 0] rfl ?_
      exact hK56 x1 (a2 17 0) (0 : Int32) (0 : Int32) (up2 a2 0 33 x1) h
    · have h := h.2 c3
      refine zb_goto X 147 dX11_layAll_36 (by decide) ?_
      refine zb_sub [0, 1] rfl ?_
      exact tX11_layAll_147 X hR hK21 hK56 hK86 x1 a2 h
set_option maxRecDepth 20000 in
theorem tX11_layAll_56 {G : zG} {Z : zC}  {ad ln : Nat → Nat} (X : zX G Z cX11_layAll 5 RX11 wsX11_layAll) {K21 : Int32 → (Nat → Nat → Int32) → Prop} {K56 : Int32 → Int32 → Int32 → Int32 → (Nat → Nat → Int32) → Prop} {K86 : Int32 → Int32 → Int32 → Int32 → (Nat → Nat → Int32) → Prop} {post : Int32 → (Nat → Nat → Int32) → Prop} (hR : zRi G Z rmX11_layAll 5 zTR ad ln cX11_layAll .boolean post) (hK21 : ∀ x1 : Int32, ∀ al, K21 x1 al → zB G Z rmX11_layAll 5 zTR ad ln 0 0 21 [(0, .ref (ad 0)), (1, .int x1)] [] al) (hK56 : ∀ x1 x2 x3 x4 : Int32, ∀ al, K56 x1 x2 x3 x4 al → zB G Z rmX11_layAll 5 zTR ad ln 0 0 56 [(0, .ref (ad 0)), (1, .int x1), (2, .int x2), (3, .int x3), (4, .int x4)] [] al) (hK86 : ∀ x1 x2 x3 x4 : Int32, ∀ al, K86 x1 x2 x3 x4 al → zB G Z rmX11_layAll 5 zTR ad ln 0 0 86 [(0, .ref (ad 0)), (1, .int x1), (2, .int x2), (3, .int x3), (4, .int x4)] [] al) (x1 x2 x3 x4 : Int32) (al : Nat → Nat → Int32) (h : vcX11_layAll_56 G  ad ln K21 K56 K86 post x1 x2 x3 x4 al) : zB G Z rmX11_layAll 5 zTR ad ln 0 0 56 [(0, .ref (ad 0)), (1, .int x1), (2, .int x2), (3, .int x3), (4, .int x4)] [] al := by
  unfold vcX11_layAll_56 at h
  refine zb_iload X dX11_layAll_56 4 rfl ?_
  refine zb_aload_n X dX11_layAll_58 rfl 0 rfl ?_
  refine zb_getI X 0 (by decide) 11 [3, 4, 5, 6, 7, 8, 9, 10, 11, 0, 12, 0, 0, 0, 0, 0, 0, 0, 0, 0, 0, 0, 0, 13, 14, 15, 16, 17, 0, 18, 19, 20, 21, 0, 0, 0, 22, 23, 24, 25, 0, 0, 26, 27, 28, 29, 0, 0, 0, 30, 0] rfl (C := RX11) (Tt := TX11) (N := 51) rfl kX11_layAll_1 9 (by decide) rfl kX11_layAll_7 rfl dX11_layAll_59 (al 0 9) rfl ?_
  refine zb_icmp_ge X 83 dX11_layAll_62 (by decide) (fun c1 => ?_) (fun c1 => ?_)
  · have h := h.1 c1
    refine zb_iconst X (0 : Int32) dX11_layAll_83 (by decide) ?_
    refine zb_istore X (lv' := [(4, .int (0 : Int32)), (0, .ref (ad 0)), (1, .int x1), (2, .int x2), (3, .int x3)]) dX11_layAll_84 (by decide) rfl ?_
    refine zb_sub [1, 2, 3, 4, 0] rfl ?_
    exact hK86 x1 x2 x3 (0 : Int32) al h
  · have h := h.2 c1
    refine zb_iload_n X dX11_layAll_65 rfl 2 rfl ?_
    refine zb_aload_n X dX11_layAll_66 rfl 0 rfl ?_
    refine zb_getR X 0 (by decide) 11 [3, 4, 5, 6, 7, 8, 9, 10, 11, 0, 12, 0, 0, 0, 0, 0, 0, 0, 0, 0, 0, 0, 0, 13, 14, 15, 16, 17, 0, 18, 19, 20, 21, 0, 0, 0, 22, 23, 24, 25, 0, 0, 26, 27, 28, 29, 0, 0, 0, 30, 0] rfl (C := RX11) (Tt := TX11) (N := 51) rfl kX11_layAll_1 30 (by decide) 17 rfl kX11_layAll_6 rfl dX11_layAll_67 ?_
    refine zb_iload X dX11_layAll_70 4 rfl ?_
    obtain ⟨hz, h⟩ := h
    refine zb_iald X 17 (by decide) 1 48 0 0 rfl (Or.inl rfl) x4.toNatClampNeg rfl hz dX11_layAll_72 (al 17 x4.toNatClampNeg) rfl ?_
    refine zb_mmin X kX11_layAll_8 kX11_layAll_9 kX11_layAll_4 kX11_layAll_10 ⟨⟨Nat.le_of_ble_eq_true rfl, Nat.le_of_ble_eq_true rfl⟩, Nat.le_of_ble_eq_true rfl, Nat.le_of_ble_eq_true rfl⟩ dX11_layAll_73 ?_
    refine zb_istore_n X (lv' := [(2, .int (if (al 17 x4.toNatClampNeg) < x2 then (al 17 x4.toNatClampNeg) else x2)), (0, .ref (ad 0)), (1, .int x1), (3, .int x3), (4, .int x4)]) dX11_layAll_76 rfl (by decide) rfl ?_
    refine zb_iinc X (lv' := [(4, .int (x4 + (1 : Int32))), (2, .int (if (al 17 x4.toNatClampNeg) < x2 then (al 17 x4.toNatClampNeg) else x2)), (0, .ref (ad 0)), (1, .int x1), (3, .int x3)]) (x4 + (1 : Int32)) dX11_layAll_77 4 rfl rfl (by decide) rfl ?_
    refine zb_goto X 56 dX11_layAll_80 (by decide) ?_
    refine zb_sub [2, 3, 1, 4, 0] rfl ?_
    exact hK56 x1 (if (al 17 x4.toNatClampNeg) < x2 then (al 17 x4.toNatClampNeg) else x2) x3 (x4 + (1 : Int32)) al h
set_option maxRecDepth 20000 in
theorem tX11_layAll_86 {G : zG} {Z : zC}  {ad ln : Nat → Nat} (X : zX G Z cX11_layAll 5 RX11 wsX11_layAll) {K21 : Int32 → (Nat → Nat → Int32) → Prop} {K56 : Int32 → Int32 → Int32 → Int32 → (Nat → Nat → Int32) → Prop} {K86 : Int32 → Int32 → Int32 → Int32 → (Nat → Nat → Int32) → Prop} {post : Int32 → (Nat → Nat → Int32) → Prop} (hR : zRi G Z rmX11_layAll 5 zTR ad ln cX11_layAll .boolean post) (hK21 : ∀ x1 : Int32, ∀ al, K21 x1 al → zB G Z rmX11_layAll 5 zTR ad ln 0 0 21 [(0, .ref (ad 0)), (1, .int x1)] [] al) (hK56 : ∀ x1 x2 x3 x4 : Int32, ∀ al, K56 x1 x2 x3 x4 al → zB G Z rmX11_layAll 5 zTR ad ln 0 0 56 [(0, .ref (ad 0)), (1, .int x1), (2, .int x2), (3, .int x3), (4, .int x4)] [] al) (hK86 : ∀ x1 x2 x3 x4 : Int32, ∀ al, K86 x1 x2 x3 x4 al → zB G Z rmX11_layAll 5 zTR ad ln 0 0 86 [(0, .ref (ad 0)), (1, .int x1), (2, .int x2), (3, .int x3), (4, .int x4)] [] al) (x1 x2 x3 x4 : Int32) (al : Nat → Nat → Int32) (h : vcX11_layAll_86 G  ad ln K21 K56 K86 post x1 x2 x3 x4 al) : zB G Z rmX11_layAll 5 zTR ad ln 0 0 86 [(0, .ref (ad 0)), (1, .int x1), (2, .int x2), (3, .int x3), (4, .int x4)] [] al := by
  unfold vcX11_layAll_86 at h
  refine zb_iload X dX11_layAll_86 4 rfl ?_
  refine zb_aload_n X dX11_layAll_88 rfl 0 rfl ?_
  refine zb_getI X 0 (by decide) 11 [3, 4, 5, 6, 7, 8, 9, 10, 11, 0, 12, 0, 0, 0, 0, 0, 0, 0, 0, 0, 0, 0, 0, 13, 14, 15, 16, 17, 0, 18, 19, 20, 21, 0, 0, 0, 22, 23, 24, 25, 0, 0, 26, 27, 28, 29, 0, 0, 0, 30, 0] rfl (C := RX11) (Tt := TX11) (N := 51) rfl kX11_layAll_1 9 (by decide) rfl kX11_layAll_7 rfl dX11_layAll_89 (al 0 9) rfl ?_
  refine zb_icmp_ge X 124 dX11_layAll_92 (by decide) (fun c1 => ?_) (fun c1 => ?_)
  · have h := h.1 c1
    refine zb_aload_n X dX11_layAll_124 rfl 0 rfl ?_
    refine zb_iload_n X dX11_layAll_125 rfl 3 rfl ?_
    refine zb_iload_n X dX11_layAll_126 rfl 1 rfl ?_
    obtain ⟨hz, h⟩ := h
    refine zb_idiv X dX11_layAll_127 hz ?_
    refine zb_iconst X (1 : Int32) dX11_layAll_128 (by decide) ?_
    refine zb_iadd X dX11_layAll_129 ?_
    refine zb_putI X 0 (by decide) 11 [3, 4, 5, 6, 7, 8, 9, 10, 11, 0, 12, 0, 0, 0, 0, 0, 0, 0, 0, 0, 0, 0, 0, 13, 14, 15, 16, 17, 0, 18, 19, 20, 21, 0, 0, 0, 22, 23, 24, 25, 0, 0, 26, 27, 28, 29, 0, 0, 0, 30, 0] rfl (C := RX11) (Tt := TX11) (N := 51) rfl kX11_layAll_1 tyX11 tyX11_ok nmX11 35 (by decide) rfl kX11_layAll_11 rfl rfl rfl rfl dX11_layAll_130 ?_
    refine zb_aload_n X dX11_layAll_133 rfl 0 rfl ?_
    refine zb_callVi (n := 0) X 0 (by decide) 11 [3, 4, 5, 6, 7, 8, 9, 10, 11, 0, 12, 0, 0, 0, 0, 0, 0, 0, 0, 0, 0, 0, 0, 13, 14, 15, 16, 17, 0, 18, 19, 20, 21, 0, 0, 0, 22, 23, 24, 25, 0, 0, 26, 27, 28, 29, 0, 0, 0, 30, 0] rfl (C := RX11) (Tt := TX11) (N := 51) rfl h gX11_layAll_X11_spans rfl (by decide +kernel) (by decide) rfl rfl (Nat.le_of_ble_eq_true rfl) dX11_layAll_134 (kc' := 0) (ks' := 0) rfl rfl (fun q2 a2 h => ?_)
    refine zb_if_eq X 142 dX11_layAll_137 (by decide) (fun c3 => ?_) (fun c3 => ?_)
    · have h := h.1 c3
      refine zb_aload_n X dX11_layAll_142 rfl 0 rfl ?_
      refine zb_iconst X (0 : Int32) dX11_layAll_143 (by decide) ?_
      refine zb_putI X 0 (by decide) 11 [3, 4, 5, 6, 7, 8, 9, 10, 11, 0, 12, 0, 0, 0, 0, 0, 0, 0, 0, 0, 0, 0, 0, 13, 14, 15, 16, 17, 0, 18, 19, 20, 21, 0, 0, 0, 22, 23, 24, 25, 0, 0, 26, 27, 28, 29, 0, 0, 0, 30, 0] rfl (C := RX11) (Tt := TX11) (N := 51) rfl kX11_layAll_1 tyX11 tyX11_ok nmX11 33 (by decide) rfl kX11_layAll_0 rfl rfl rfl rfl dX11_layAll_144 ?_
      refine zb_sub [0, 1] rfl ?_
      exact tX11_layAll_147 X hR hK21 hK56 hK86 x1 (up2 a2 0 33 (0 : Int32)) h
    · have h := h.2 c3
      refine zb_iconst X (1 : Int32) dX11_layAll_140 (by decide) ?_
      exact hR 141 _ _ _ dX11_layAll_141 rfl h
  · have h := h.2 c1
    refine zb_aload_n X dX11_layAll_95 rfl 0 rfl ?_
    refine zb_getR X 0 (by decide) 11 [3, 4, 5, 6, 7, 8, 9, 10, 11, 0, 12, 0, 0, 0, 0, 0, 0, 0, 0, 0, 0, 0, 0, 13, 14, 15, 16, 17, 0, 18, 19, 20, 21, 0, 0, 0, 22, 23, 24, 25, 0, 0, 26, 27, 28, 29, 0, 0, 0, 30, 0] rfl (C := RX11) (Tt := TX11) (N := 51) rfl kX11_layAll_1 30 (by decide) 17 rfl kX11_layAll_6 rfl dX11_layAll_96 ?_
    refine zb_iload X dX11_layAll_99 4 rfl ?_
    refine zb_dup2 X dX11_layAll_101 rfl rfl ?_
    obtain ⟨hz, h⟩ := h
    refine zb_iald X 17 (by decide) 1 48 0 0 rfl (Or.inl rfl) x4.toNatClampNeg rfl hz dX11_layAll_102 (al 17 x4.toNatClampNeg) rfl ?_
    refine zb_iload_n X dX11_layAll_103 rfl 2 rfl ?_
    refine zb_isub X dX11_layAll_104 ?_
    obtain ⟨hz, h⟩ := h
    refine zb_iast X 17 (by decide) 1 48 0 0 rfl (Or.inl rfl) x4.toNatClampNeg rfl hz dX11_layAll_105 ?_
    refine zb_iload_n X dX11_layAll_106 rfl 3 rfl ?_
    refine zb_aload_n X dX11_layAll_107 rfl 0 rfl ?_
    refine zb_getR X 0 (by decide) 11 [3, 4, 5, 6, 7, 8, 9, 10, 11, 0, 12, 0, 0, 0, 0, 0, 0, 0, 0, 0, 0, 0, 0, 13, 14, 15, 16, 17, 0, 18, 19, 20, 21, 0, 0, 0, 22, 23, 24, 25, 0, 0, 26, 27, 28, 29, 0, 0, 0, 30, 0] rfl (C := RX11) (Tt := TX11) (N := 51) rfl kX11_layAll_1 30 (by decide) 17 rfl kX11_layAll_6 rfl dX11_layAll_108 ?_
    refine zb_iload X dX11_layAll_111 4 rfl ?_
    obtain ⟨hz, h⟩ := h
    refine zb_iald X 17 (by decide) 1 48 0 0 rfl (Or.inl rfl) x4.toNatClampNeg rfl hz dX11_layAll_113 ((al 17 x4.toNatClampNeg) - x2) (by simp [up2]) ?_
    refine zb_mmax X kX11_layAll_2 kX11_layAll_3 kX11_layAll_4 kX11_layAll_5 ⟨⟨Nat.le_of_ble_eq_true rfl, Nat.le_of_ble_eq_true rfl⟩, Nat.le_of_ble_eq_true rfl, Nat.le_of_ble_eq_true rfl⟩ dX11_layAll_114 ?_
    refine zb_istore_n X (lv' := [(3, .int (if x3 < ((al 17 x4.toNatClampNeg) - x2) then ((al 17 x4.toNatClampNeg) - x2) else x3)), (0, .ref (ad 0)), (1, .int x1), (2, .int x2), (4, .int x4)]) dX11_layAll_117 rfl (by decide) rfl ?_
    refine zb_iinc X (lv' := [(4, .int (x4 + (1 : Int32))), (3, .int (if x3 < ((al 17 x4.toNatClampNeg) - x2) then ((al 17 x4.toNatClampNeg) - x2) else x3)), (0, .ref (ad 0)), (1, .int x1), (2, .int x2)]) (x4 + (1 : Int32)) dX11_layAll_118 4 rfl rfl (by decide) rfl ?_
    refine zb_goto X 86 dX11_layAll_121 (by decide) ?_
    refine zb_sub [2, 3, 4, 1, 0] rfl ?_
    exact hK86 x1 x2 (if x3 < ((al 17 x4.toNatClampNeg) - x2) then ((al 17 x4.toNatClampNeg) - x2) else x3) (x4 + (1 : Int32)) (up2 al 17 x4.toNatClampNeg ((al 17 x4.toNatClampNeg) - x2)) h
theorem uX11_layAll_0 {G : zG} {Z : zC}  {ad ln : Nat → Nat} (X : zX G Z cX11_layAll 5 RX11 wsX11_layAll) {post : Int32 → (Nat → Nat → Int32) → Prop} (hR : zRi G Z rmX11_layAll 5 zTR ad ln cX11_layAll .boolean post) (al : Nat → Nat → Int32) (h : vcX11_layAll_0 G  ad ln (BX11_layAll_21 G Z  ad ln) (BX11_layAll_56 G Z  ad ln) (BX11_layAll_86 G Z  ad ln) post  al) : zB G Z rmX11_layAll 5 zTR ad ln 0 0 0 [(0, .ref (ad 0))] [] al := tX11_layAll_0 X hR (fun _ _ h => h) (fun _ _ _ _ _ h => h) (fun _ _ _ _ _ h => h)  al h
theorem uX11_layAll_147 {G : zG} {Z : zC}  {ad ln : Nat → Nat} (X : zX G Z cX11_layAll 5 RX11 wsX11_layAll) {post : Int32 → (Nat → Nat → Int32) → Prop} (hR : zRi G Z rmX11_layAll 5 zTR ad ln cX11_layAll .boolean post) (x1 : Int32) (al : Nat → Nat → Int32) (h : vcX11_layAll_147 G  ad ln (BX11_layAll_21 G Z  ad ln) (BX11_layAll_56 G Z  ad ln) (BX11_layAll_86 G Z  ad ln) post x1 al) : zB G Z rmX11_layAll 5 zTR ad ln 0 0 147 [(0, .ref (ad 0)), (1, .int x1)] [] al := tX11_layAll_147 X hR (fun _ _ h => h) (fun _ _ _ _ _ h => h) (fun _ _ _ _ _ h => h) x1 al h
theorem uX11_layAll_21 {G : zG} {Z : zC}  {ad ln : Nat → Nat} (X : zX G Z cX11_layAll 5 RX11 wsX11_layAll) {post : Int32 → (Nat → Nat → Int32) → Prop} (hR : zRi G Z rmX11_layAll 5 zTR ad ln cX11_layAll .boolean post) (x1 : Int32) (al : Nat → Nat → Int32) (h : vcX11_layAll_21 G  ad ln (BX11_layAll_21 G Z  ad ln) (BX11_layAll_56 G Z  ad ln) (BX11_layAll_86 G Z  ad ln) post x1 al) : zB G Z rmX11_layAll 5 zTR ad ln 0 0 21 [(0, .ref (ad 0)), (1, .int x1)] [] al := tX11_layAll_21 X hR (fun _ _ h => h) (fun _ _ _ _ _ h => h) (fun _ _ _ _ _ h => h) x1 al h
theorem uX11_layAll_56 {G : zG} {Z : zC}  {ad ln : Nat → Nat} (X : zX G Z cX11_layAll 5 RX11 wsX11_layAll) {post : Int32 → (Nat → Nat → Int32) → Prop} (hR : zRi G Z rmX11_layAll 5 zTR ad ln cX11_layAll .boolean post) (x1 x2 x3 x4 : Int32) (al : Nat → Nat → Int32) (h : vcX11_layAll_56 G  ad ln (BX11_layAll_21 G Z  ad ln) (BX11_layAll_56 G Z  ad ln) (BX11_layAll_86 G Z  ad ln) post x1 x2 x3 x4 al) : zB G Z rmX11_layAll 5 zTR ad ln 0 0 56 [(0, .ref (ad 0)), (1, .int x1), (2, .int x2), (3, .int x3), (4, .int x4)] [] al := tX11_layAll_56 X hR (fun _ _ h => h) (fun _ _ _ _ _ h => h) (fun _ _ _ _ _ h => h) x1 x2 x3 x4 al h
theorem uX11_layAll_86 {G : zG} {Z : zC}  {ad ln : Nat → Nat} (X : zX G Z cX11_layAll 5 RX11 wsX11_layAll) {post : Int32 → (Nat → Nat → Int32) → Prop} (hR : zRi G Z rmX11_layAll 5 zTR ad ln cX11_layAll .boolean post) (x1 x2 x3 x4 : Int32) (al : Nat → Nat → Int32) (h : vcX11_layAll_86 G  ad ln (BX11_layAll_21 G Z  ad ln) (BX11_layAll_56 G Z  ad ln) (BX11_layAll_86 G Z  ad ln) post x1 x2 x3 x4 al) : zB G Z rmX11_layAll 5 zTR ad ln 0 0 86 [(0, .ref (ad 0)), (1, .int x1), (2, .int x2), (3, .int x3), (4, .int x4)] [] al := tX11_layAll_86 X hR (fun _ _ h => h) (fun _ _ _ _ _ h => h) (fun _ _ _ _ _ h => h) x1 x2 x3 x4 al h
