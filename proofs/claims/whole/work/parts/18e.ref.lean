abbrev rmX11_thrown : Room := { frames := 0, cells := 0, slots := 0, locals := 0 }
theorem kX11_thrown_0 : Cond.fieldLink RX11 308 RX11 "thrown" "I" ∈ wsX11_thrown := by decide +kernel
theorem kX11_thrown_1 : zIn RX11 TX11 51 wsX11_thrown := by decide +kernel
def vcX11_thrown_0 (G : zG)  (ad ln : Nat → Nat)  (post : Int32 → (Nat → Nat → Int32) → Prop) (al : Nat → Nat → Int32) : Prop :=
  post (al 0 50) al
set_option maxRecDepth 20000 in
theorem tX11_thrown_0 {G : zG} {Z : zC}  {ad ln : Nat → Nat} (X : zX G Z cX11_thrown 1 RX11 wsX11_thrown)  {post : Int32 → (Nat → Nat → Int32) → Prop} (hR : zRi G Z rmX11_thrown 1 zTR ad ln cX11_thrown .int post)  (al : Nat → Nat → Int32) (h : vcX11_thrown_0 G  ad ln  post  al) : zB G Z rmX11_thrown 1 zTR ad ln 0 0 0 [(0, .ref (ad 0))] [] al := by
  unfold vcX11_thrown_0 at h
  refine zb_aload_n X dX11_thrown_0 rfl 0 rfl ?_
  refine zb_getI X 0 (by decide) 11 [3, 4, 5, 6, 7, 8, 9, 10, 11, 0, 12, 0, 0, 0, 0, 0, 0, 0, 0, 0, 0, 0, 0, 13, 14, 15, 16, 17, 0, 18, 19, 20, 21, 0, 0, 0, 22, 23, 24, 25, 0, 0, 26, 27, 28, 29, 0, 0, 0, 30, 0] rfl (C := RX11) (Tt := TX11) (N := 51) rfl kX11_thrown_1 50 (by decide) rfl kX11_thrown_0 rfl dX11_thrown_1 (al 0 50) rfl ?_
  exact hR 4 _ _ _ dX11_thrown_4 rfl h

abbrev rmX11_no : Room := { frames := 0, cells := 0, slots := 0, locals := 0 }
theorem kX11_no_0 : Cond.fieldLink RX11 308 RX11 "thrown" "I" ∈ wsX11_no := by decide +kernel
theorem kX11_no_1 : zIn RX11 TX11 51 wsX11_no := by decide +kernel
def vcX11_no_0 (G : zG)  (ad ln : Nat → Nat) (p1 : Int32)  (post : Int32 → (Nat → Nat → Int32) → Prop) (al : Nat → Nat → Int32) : Prop :=
  post (0 : Int32) (up2 al 0 50 p1)
set_option maxRecDepth 20000 in
theorem tX11_no_0 {G : zG} {Z : zC}  {ad ln : Nat → Nat} (X : zX G Z cX11_no 2 RX11 wsX11_no) (p1 : Int32)  {post : Int32 → (Nat → Nat → Int32) → Prop} (hR : zRi G Z rmX11_no 2 zTR ad ln cX11_no .int post)  (al : Nat → Nat → Int32) (h : vcX11_no_0 G  ad ln p1  post  al) : zB G Z rmX11_no 2 zTR ad ln 0 0 0 [(0, .ref (ad 0)), (1, .int p1)] [] al := by
  unfold vcX11_no_0 at h
  refine zb_aload_n X dX11_no_0 rfl 0 rfl ?_
  refine zb_iload_n X dX11_no_1 rfl 1 rfl ?_
  refine zb_putI X 0 (by decide) 11 [3, 4, 5, 6, 7, 8, 9, 10, 11, 0, 12, 0, 0, 0, 0, 0, 0, 0, 0, 0, 0, 0, 0, 13, 14, 15, 16, 17, 0, 18, 19, 20, 21, 0, 0, 0, 22, 23, 24, 25, 0, 0, 26, 27, 28, 29, 0, 0, 0, 30, 0] rfl (C := RX11) (Tt := TX11) (N := 51) rfl kX11_no_1 tyX11 tyX11_ok nmX11 50 (by decide) rfl kX11_no_0 rfl rfl rfl rfl dX11_no_2 ?_
  refine zb_iconst X (0 : Int32) dX11_no_5 (by decide) ?_
  exact hR 6 _ _ _ dX11_no_6 rfl h

abbrev rmX11_away : Room := { frames := 0, cells := 0, slots := 0, locals := 0 }
theorem kX11_away_0 : Cond.fieldLink RX11 216 RX11 "distance" "I" ∈ wsX11_away := by decide +kernel
theorem kX11_away_1 : zIn RX11 TX11 51 wsX11_away := by decide +kernel
theorem kX11_away_2 : Cond.fieldLink RX11 316 RX11 "ran" "Z" ∈ wsX11_away := by decide +kernel
def vcX11_away_0 (G : zG)  (ad ln : Nat → Nat)  (post : (Nat → Nat → Int32) → Prop) (al : Nat → Nat → Int32) : Prop :=
  post (up2 (up2 al 0 33 (0 : Int32)) 0 47 (0 : Int32))
set_option maxRecDepth 20000 in
theorem tX11_away_0 {G : zG} {Z : zC}  {ad ln : Nat → Nat} (X : zX G Z cX11_away 1 RX11 wsX11_away)  {post : (Nat → Nat → Int32) → Prop} (hR : zRv G Z rmX11_away 1 zTR ad ln cX11_away post)  (al : Nat → Nat → Int32) (h : vcX11_away_0 G  ad ln  post  al) : zB G Z rmX11_away 1 zTR ad ln 0 0 0 [(0, .ref (ad 0))] [] al := by
  unfold vcX11_away_0 at h
  refine zb_aload_n X dX11_away_0 rfl 0 rfl ?_
  refine zb_iconst X (0 : Int32) dX11_away_1 (by decide) ?_
  refine zb_putI X 0 (by decide) 11 [3, 4, 5, 6, 7, 8, 9, 10, 11, 0, 12, 0, 0, 0, 0, 0, 0, 0, 0, 0, 0, 0, 0, 13, 14, 15, 16, 17, 0, 18, 19, 20, 21, 0, 0, 0, 22, 23, 24, 25, 0, 0, 26, 27, 28, 29, 0, 0, 0, 30, 0] rfl (C := RX11) (Tt := TX11) (N := 51) rfl kX11_away_1 tyX11 tyX11_ok nmX11 33 (by decide) rfl kX11_away_0 rfl rfl rfl rfl dX11_away_2 ?_
  refine zb_aload_n X dX11_away_5 rfl 0 rfl ?_
  refine zb_iconst X (0 : Int32) dX11_away_6 (by decide) ?_
  refine zb_putI X 0 (by decide) 11 [3, 4, 5, 6, 7, 8, 9, 10, 11, 0, 12, 0, 0, 0, 0, 0, 0, 0, 0, 0, 0, 0, 0, 13, 14, 15, 16, 17, 0, 18, 19, 20, 21, 0, 0, 0, 22, 23, 24, 25, 0, 0, 26, 27, 28, 29, 0, 0, 0, 30, 0] rfl (C := RX11) (Tt := TX11) (N := 51) rfl kX11_away_1 tyX11 tyX11_ok nmX11 47 (by decide) rfl kX11_away_2 rfl rfl rfl rfl dX11_away_7 ?_
  exact hR 10 _ _ dX11_away_10 h

abbrev rmX11_end : Room := { frames := 1, cells := 0, slots := 0, locals := 21 }
theorem kX11_end_0 : Cond.fieldLink RX11 308 RX11 "thrown" "I" ∈ wsX11_end := by decide +kernel
theorem kX11_end_1 : zIn RX11 TX11 51 wsX11_end := by decide +kernel
theorem kX11_end_2 : Cond.fieldLink RX11 19 RX11 "size" "I" ∈ wsX11_end := by decide +kernel
def vcX11_end_17 (G : zG)  (ad ln : Nat → Nat) (p1 : Int32)  (post : Int32 → (Nat → Nat → Int32) → Prop) (al : Nat → Nat → Int32) : Prop :=
  zMi G yX11_no wsX11_no rmX11_no zTR ad ln [.ref (ad 0), .int (1 : Int32)] al (fun q1 a1 => post q1 a1)
def vcX11_end_0 (G : zG)  (ad ln : Nat → Nat) (p1 : Int32)  (post : Int32 → (Nat → Nat → Int32) → Prop) (al : Nat → Nat → Int32) : Prop :=
  (p1 < 0 → vcX11_end_17 G  ad ln p1  post  (up2 al 0 50 (0 : Int32))) ∧ (¬ p1 < 0 → (p1 ≤ (al 0 11) → post p1 (up2 (up2 al 0 50 (0 : Int32)) 0 11 p1)) ∧ (¬ p1 ≤ (al 0 11) → vcX11_end_17 G  ad ln p1  post  (up2 al 0 50 (0 : Int32))))
set_option maxRecDepth 20000 in
theorem tX11_end_17 {G : zG} {Z : zC}  {ad ln : Nat → Nat} (X : zX G Z cX11_end 2 RX11 wsX11_end) (p1 : Int32)  {post : Int32 → (Nat → Nat → Int32) → Prop} (hR : zRi G Z rmX11_end 2 zTR ad ln cX11_end .int post)  (al : Nat → Nat → Int32) (h : vcX11_end_17 G  ad ln p1  post  al) : zB G Z rmX11_end 2 zTR ad ln 0 0 17 [(0, .ref (ad 0))] [] al := by
  unfold vcX11_end_17 at h
  refine zb_aload_n X dX11_end_17 rfl 0 rfl ?_
  refine zb_iconst X (1 : Int32) dX11_end_18 (by decide) ?_
  refine zb_callVi (n := 1) X 0 (by decide) 11 [3, 4, 5, 6, 7, 8, 9, 10, 11, 0, 12, 0, 0, 0, 0, 0, 0, 0, 0, 0, 0, 0, 0, 13, 14, 15, 16, 17, 0, 18, 19, 20, 21, 0, 0, 0, 22, 23, 24, 25, 0, 0, 26, 27, 28, 29, 0, 0, 0, 30, 0] rfl (C := RX11) (Tt := TX11) (N := 51) rfl h gX11_end_X11_no rfl (by decide +kernel) (by decide) rfl rfl (Nat.le_of_ble_eq_true rfl) dX11_end_19 (kc' := 0) (ks' := 0) rfl rfl (fun q1 a1 h => ?_)
  exact hR 22 _ _ _ dX11_end_22 rfl h
set_option maxRecDepth 20000 in
theorem tX11_end_0 {G : zG} {Z : zC}  {ad ln : Nat → Nat} (X : zX G Z cX11_end 2 RX11 wsX11_end) (p1 : Int32)  {post : Int32 → (Nat → Nat → Int32) → Prop} (hR : zRi G Z rmX11_end 2 zTR ad ln cX11_end .int post)  (al : Nat → Nat → Int32) (h : vcX11_end_0 G  ad ln p1  post  al) : zB G Z rmX11_end 2 zTR ad ln 0 0 0 [(0, .ref (ad 0)), (1, .int p1)] [] al := by
  unfold vcX11_end_0 at h
  refine zb_aload_n X dX11_end_0 rfl 0 rfl ?_
  refine zb_iconst X (0 : Int32) dX11_end_1 (by decide) ?_
  refine zb_putI X 0 (by decide) 11 [3, 4, 5, 6, 7, 8, 9, 10, 11, 0, 12, 0, 0, 0, 0, 0, 0, 0, 0, 0, 0, 0, 0, 13, 14, 15, 16, 17, 0, 18, 19, 20, 21, 0, 0, 0, 22, 23, 24, 25, 0, 0, 26, 27, 28, 29, 0, 0, 0, 30, 0] rfl (C := RX11) (Tt := TX11) (N := 51) rfl kX11_end_1 tyX11 tyX11_ok nmX11 50 (by decide) rfl kX11_end_0 rfl rfl rfl rfl dX11_end_2 ?_
  refine zb_iload_n X dX11_end_5 rfl 1 rfl ?_
  refine zb_if_lt X 17 dX11_end_6 (by decide) (fun c1 => ?_) (fun c1 => ?_)
  · have h := h.1 c1
    refine zb_sub [0] rfl ?_
    exact tX11_end_17 X p1 hR   (up2 al 0 50 (0 : Int32)) h
  · have h := h.2 c1
    refine zb_iload_n X dX11_end_9 rfl 1 rfl ?_
    refine zb_aload_n X dX11_end_10 rfl 0 rfl ?_
    refine zb_getI X 0 (by decide) 11 [3, 4, 5, 6, 7, 8, 9, 10, 11, 0, 12, 0, 0, 0, 0, 0, 0, 0, 0, 0, 0, 0, 0, 13, 14, 15, 16, 17, 0, 18, 19, 20, 21, 0, 0, 0, 22, 23, 24, 25, 0, 0, 26, 27, 28, 29, 0, 0, 0, 30, 0] rfl (C := RX11) (Tt := TX11) (N := 51) rfl kX11_end_1 11 (by decide) rfl kX11_end_2 rfl dX11_end_11 (al 0 11) rfl ?_
    refine zb_icmp_le X 23 dX11_end_14 (by decide) (fun c2 => ?_) (fun c2 => ?_)
    · have h := h.1 c2
      refine zb_aload_n X dX11_end_23 rfl 0 rfl ?_
      refine zb_iload_n X dX11_end_24 rfl 1 rfl ?_
      refine zb_putI X 0 (by decide) 11 [3, 4, 5, 6, 7, 8, 9, 10, 11, 0, 12, 0, 0, 0, 0, 0, 0, 0, 0, 0, 0, 0, 0, 13, 14, 15, 16, 17, 0, 18, 19, 20, 21, 0, 0, 0, 22, 23, 24, 25, 0, 0, 26, 27, 28, 29, 0, 0, 0, 30, 0] rfl (C := RX11) (Tt := TX11) (N := 51) rfl kX11_end_1 tyX11 tyX11_ok nmX11 11 (by decide) rfl kX11_end_2 rfl rfl rfl rfl dX11_end_25 ?_
      refine zb_iload_n X dX11_end_28 rfl 1 rfl ?_
      exact hR 29 _ _ _ dX11_end_29 rfl h
    · have h := h.2 c2
      refine zb_sub [0] rfl ?_
      exact tX11_end_17 X p1 hR   (up2 al 0 50 (0 : Int32)) h

abbrev rmX11_word_ : Room := { frames := 0, cells := 0, slots := 0, locals := 0 }
theorem kX11_word__0 : Cond.fieldLink RX11 23 RX11 "tape" "[B" ∈ wsX11_word_ := by decide +kernel
theorem kX11_word__1 : zIn RX11 TX11 51 wsX11_word_ := by decide +kernel
abbrev BX11_word__2 (G : zG) (Z : zC)  (ad ln : Nat → Nat) (p1 : Int32) (p2 : Int32) (x3 : Int32) (al : Nat → Nat → Int32) : Prop := zB G Z rmX11_word_ 4 zTR ad ln 0 0 2 [(0, .ref (ad 0)), (1, .int p1), (2, .int p2), (3, .int x3)] [] al
def vcX11_word__0 (G : zG)  (ad ln : Nat → Nat) (p1 : Int32) (p2 : Int32) (K2 : Int32 → (Nat → Nat → Int32) → Prop) (post : (Nat → Nat → Int32) → Prop) (al : Nat → Nat → Int32) : Prop :=
  K2 (0 : Int32) al
def vcX11_word__2 (G : zG)  (ad ln : Nat → Nat) (p1 : Int32) (p2 : Int32) (K2 : Int32 → (Nat → Nat → Int32) → Prop) (post : (Nat → Nat → Int32) → Prop) (x3 : Int32) (al : Nat → Nat → Int32) : Prop :=
  ((4 : Int32) ≤ x3 → post al) ∧ (¬ (4 : Int32) ≤ x3 → (vp_in (p2 + x3) 4096 ∧ K2 (x3 + (1 : Int32)) (up2 al 10 ((p2 + x3).toNatClampNeg) (((p1 >>> (((24 : Int32) - ((8 : Int32) * x3)) &&& 31)).toInt8.toInt32).toInt8.toInt32))))
set_option maxRecDepth 20000 in
theorem tX11_word__0 {G : zG} {Z : zC}  {ad ln : Nat → Nat} (X : zX G Z cX11_word_ 4 RX11 wsX11_word_) (p1 : Int32) (p2 : Int32) {K2 : Int32 → (Nat → Nat → Int32) → Prop} {post : (Nat → Nat → Int32) → Prop} (hR : zRv G Z rmX11_word_ 4 zTR ad ln cX11_word_ post) (hK2 : ∀ x3 : Int32, ∀ al, K2 x3 al → zB G Z rmX11_word_ 4 zTR ad ln 0 0 2 [(0, .ref (ad 0)), (1, .int p1), (2, .int p2), (3, .int x3)] [] al) (al : Nat → Nat → Int32) (h : vcX11_word__0 G  ad ln p1 p2 K2 post  al) : zB G Z rmX11_word_ 4 zTR ad ln 0 0 0 [(0, .ref (ad 0)), (1, .int p1), (2, .int p2)] [] al := by
  unfold vcX11_word__0 at h
  refine zb_iconst X (0 : Int32) dX11_word__0 (by decide) ?_
  refine zb_istore_n X (lv' := [(3, .int (0 : Int32)), (0, .ref (ad 0)), (1, .int p1), (2, .int p2)]) dX11_word__1 rfl (by decide) rfl ?_
  refine zb_sub [1, 2, 3, 0] rfl ?_
  exact hK2 (0 : Int32) al h
set_option maxRecDepth 20000 in
theorem tX11_word__2 {G : zG} {Z : zC}  {ad ln : Nat → Nat} (X : zX G Z cX11_word_ 4 RX11 wsX11_word_) (p1 : Int32) (p2 : Int32) {K2 : Int32 → (Nat → Nat → Int32) → Prop} {post : (Nat → Nat → Int32) → Prop} (hR : zRv G Z rmX11_word_ 4 zTR ad ln cX11_word_ post) (hK2 : ∀ x3 : Int32, ∀ al, K2 x3 al → zB G Z rmX11_word_ 4 zTR ad ln 0 0 2 [(0, .ref (ad 0)), (1, .int p1), (2, .int p2), (3, .int x3)] [] al) (x3 : Int32) (al : Nat → Nat → Int32) (h : vcX11_word__2 G  ad ln p1 p2 K2 post x3 al) : zB G Z rmX11_word_ 4 zTR ad ln 0 0 2 [(0, .ref (ad 0)), (1, .int p1), (2, .int p2), (3, .int x3)] [] al := by
  unfold vcX11_word__2 at h
  refine zb_iload_n X dX11_word__2 rfl 3 rfl ?_
  refine zb_iconst X (4 : Int32) dX11_word__3 (by decide) ?_
  refine zb_icmp_ge X 31 dX11_word__4 (by decide) (fun c1 => ?_) (fun c1 => ?_)
  · have h := h.1 c1
    exact hR 31 _ _ dX11_word__31 h
  · have h := h.2 c1
    refine zb_aload_n X dX11_word__7 rfl 0 rfl ?_
    refine zb_getR X 0 (by decide) 11 [3, 4, 5, 6, 7, 8, 9, 10, 11, 0, 12, 0, 0, 0, 0, 0, 0, 0, 0, 0, 0, 0, 0, 13, 14, 15, 16, 17, 0, 18, 19, 20, 21, 0, 0, 0, 22, 23, 24, 25, 0, 0, 26, 27, 28, 29, 0, 0, 0, 30, 0] rfl (C := RX11) (Tt := TX11) (N := 51) rfl kX11_word__1 10 (by decide) 10 rfl kX11_word__0 rfl dX11_word__8 ?_
    refine zb_iload_n X dX11_word__11 rfl 2 rfl ?_
    refine zb_iload_n X dX11_word__12 rfl 3 rfl ?_
    refine zb_iadd X dX11_word__13 ?_
    refine zb_iload_n X dX11_word__14 rfl 1 rfl ?_
    refine zb_bipush X (24 : Int32) dX11_word__15 (by decide) ?_
    refine zb_bipush X (8 : Int32) dX11_word__17 (by decide) ?_
    refine zb_iload_n X dX11_word__19 rfl 3 rfl ?_
    refine zb_imul X dX11_word__20 ?_
    refine zb_isub X dX11_word__21 ?_
    refine zb_ishr X dX11_word__22 ?_
    refine zb_i2b X dX11_word__23 ?_
    obtain ⟨hz, h⟩ := h
    refine zb_bast X 10 (by decide) 4096 0 0 rfl ((p2 + x3).toNatClampNeg) rfl hz dX11_word__24 ?_
    refine zb_iinc X (lv' := [(3, .int (x3 + (1 : Int32))), (0, .ref (ad 0)), (1, .int p1), (2, .int p2)]) (x3 + (1 : Int32)) dX11_word__25 3 rfl rfl (by decide) rfl ?_
    refine zb_goto X 2 dX11_word__28 (by decide) ?_
    refine zb_sub [1, 2, 3, 0] rfl ?_
    exact hK2 (x3 + (1 : Int32)) (up2 al 10 ((p2 + x3).toNatClampNeg) (((p1 >>> (((24 : Int32) - ((8 : Int32) * x3)) &&& 31)).toInt8.toInt32).toInt8.toInt32)) h
theorem uX11_word__0 {G : zG} {Z : zC}  {ad ln : Nat → Nat} (X : zX G Z cX11_word_ 4 RX11 wsX11_word_) (p1 : Int32) (p2 : Int32) {post : (Nat → Nat → Int32) → Prop} (hR : zRv G Z rmX11_word_ 4 zTR ad ln cX11_word_ post) (al : Nat → Nat → Int32) (h : vcX11_word__0 G  ad ln p1 p2 (BX11_word__2 G Z  ad ln p1 p2) post  al) : zB G Z rmX11_word_ 4 zTR ad ln 0 0 0 [(0, .ref (ad 0)), (1, .int p1), (2, .int p2)] [] al := tX11_word__0 X p1 p2 hR (fun _ _ h => h)  al h
theorem uX11_word__2 {G : zG} {Z : zC}  {ad ln : Nat → Nat} (X : zX G Z cX11_word_ 4 RX11 wsX11_word_) (p1 : Int32) (p2 : Int32) {post : (Nat → Nat → Int32) → Prop} (hR : zRv G Z rmX11_word_ 4 zTR ad ln cX11_word_ post) (x3 : Int32) (al : Nat → Nat → Int32) (h : vcX11_word__2 G  ad ln p1 p2 (BX11_word__2 G Z  ad ln p1 p2) post x3 al) : zB G Z rmX11_word_ 4 zTR ad ln 0 0 2 [(0, .ref (ad 0)), (1, .int p1), (2, .int p2), (3, .int x3)] [] al := tX11_word__2 X p1 p2 hR (fun _ _ h => h) x3 al h

abbrev rmX11_feed : Room := { frames := 1, cells := 0, slots := 0, locals := 23 }
theorem kX11_feed_0 : Cond.fieldLink RX11 308 RX11 "thrown" "I" ∈ wsX11_feed := by decide +kernel
theorem kX11_feed_1 : zIn RX11 TX11 51 wsX11_feed := by decide +kernel
theorem kX11_feed_2 : Cond.fieldLink RX11 19 RX11 "size" "I" ∈ wsX11_feed := by decide +kernel
def vcX11_feed_0 (G : zG)  (ad ln : Nat → Nat) (p1 : Int32) (p2 : Int32) (p3 : Int32) (p4 : Int32) (p5 : Int32)  (post : Int32 → (Nat → Nat → Int32) → Prop) (al : Nat → Nat → Int32) : Prop :=
  (((al 0 11) + (20 : Int32)) ≤ (4096 : Int32) → zMv G yX11_word_ wsX11_word_ rmX11_word_ zTR ad ln [.ref (ad 0), .int p1, .int (al 0 11)] (up2 al 0 50 (0 : Int32)) (fun a2 => zMv G yX11_word_ wsX11_word_ rmX11_word_ zTR ad ln [.ref (ad 0), .int p2, .int ((a2 0 11) + (4 : Int32))] a2 (fun a3 => zMv G yX11_word_ wsX11_word_ rmX11_word_ zTR ad ln [.ref (ad 0), .int p3, .int ((a3 0 11) + (8 : Int32))] a3 (fun a4 => zMv G yX11_word_ wsX11_word_ rmX11_word_ zTR ad ln [.ref (ad 0), .int p4, .int ((a4 0 11) + (12 : Int32))] a4 (fun a5 => zMv G yX11_word_ wsX11_word_ rmX11_word_ zTR ad ln [.ref (ad 0), .int p5, .int ((a5 0 11) + (16 : Int32))] a5 (fun a6 => post ((a6 0 11) + (20 : Int32)) (up2 a6 0 11 ((a6 0 11) + (20 : Int32))))))))) ∧ (¬ ((al 0 11) + (20 : Int32)) ≤ (4096 : Int32) → zMi G yX11_no wsX11_no rmX11_no zTR ad ln [.ref (ad 0), .int (1 : Int32)] (up2 al 0 50 (0 : Int32)) (fun q2 a2 => post q2 a2))
set_option maxRecDepth 20000 in
theorem tX11_feed_0 {G : zG} {Z : zC}  {ad ln : Nat → Nat} (X : zX G Z cX11_feed 6 RX11 wsX11_feed) (p1 : Int32) (p2 : Int32) (p3 : Int32) (p4 : Int32) (p5 : Int32)  {post : Int32 → (Nat → Nat → Int32) → Prop} (hR : zRi G Z rmX11_feed 6 zTR ad ln cX11_feed .int post)  (al : Nat → Nat → Int32) (h : vcX11_feed_0 G  ad ln p1 p2 p3 p4 p5  post  al) : zB G Z rmX11_feed 6 zTR ad ln 0 0 0 [(0, .ref (ad 0)), (1, .int p1), (2, .int p2), (3, .int p3), (4, .int p4), (5, .int p5)] [] al := by
  unfold vcX11_feed_0 at h
  refine zb_aload_n X dX11_feed_0 rfl 0 rfl ?_
  refine zb_iconst X (0 : Int32) dX11_feed_1 (by decide) ?_
  refine zb_putI X 0 (by decide) 11 [3, 4, 5, 6, 7, 8, 9, 10, 11, 0, 12, 0, 0, 0, 0, 0, 0, 0, 0, 0, 0, 0, 0, 13, 14, 15, 16, 17, 0, 18, 19, 20, 21, 0, 0, 0, 22, 23, 24, 25, 0, 0, 26, 27, 28, 29, 0, 0, 0, 30, 0] rfl (C := RX11) (Tt := TX11) (N := 51) rfl kX11_feed_1 tyX11 tyX11_ok nmX11 50 (by decide) rfl kX11_feed_0 rfl rfl rfl rfl dX11_feed_2 ?_
  refine zb_aload_n X dX11_feed_5 rfl 0 rfl ?_
  refine zb_getI X 0 (by decide) 11 [3, 4, 5, 6, 7, 8, 9, 10, 11, 0, 12, 0, 0, 0, 0, 0, 0, 0, 0, 0, 0, 0, 0, 13, 14, 15, 16, 17, 0, 18, 19, 20, 21, 0, 0, 0, 22, 23, 24, 25, 0, 0, 26, 27, 28, 29, 0, 0, 0, 30, 0] rfl (C := RX11) (Tt := TX11) (N := 51) rfl kX11_feed_1 11 (by decide) rfl kX11_feed_2 rfl dX11_feed_6 (al 0 11) rfl ?_
  refine zb_bipush X (20 : Int32) dX11_feed_9 (by decide) ?_
  refine zb_iadd X dX11_feed_11 ?_
  refine zb_sipush X (4096 : Int32) dX11_feed_12 (by decide) ?_
  refine zb_icmp_le X 24 dX11_feed_15 (by decide) (fun c1 => ?_) (fun c1 => ?_)
  · have h := h.1 c1
    refine zb_aload_n X dX11_feed_24 rfl 0 rfl ?_
    refine zb_iload_n X dX11_feed_25 rfl 1 rfl ?_
    refine zb_aload_n X dX11_feed_26 rfl 0 rfl ?_
    refine zb_getI X 0 (by decide) 11 [3, 4, 5, 6, 7, 8, 9, 10, 11, 0, 12, 0, 0, 0, 0, 0, 0, 0, 0, 0, 0, 0, 0, 13, 14, 15, 16, 17, 0, 18, 19, 20, 21, 0, 0, 0, 22, 23, 24, 25, 0, 0, 26, 27, 28, 29, 0, 0, 0, 30, 0] rfl (C := RX11) (Tt := TX11) (N := 51) rfl kX11_feed_1 11 (by decide) rfl kX11_feed_2 rfl dX11_feed_27 (al 0 11) rfl ?_
    refine zb_callVv (n := 2) X 0 (by decide) 11 [3, 4, 5, 6, 7, 8, 9, 10, 11, 0, 12, 0, 0, 0, 0, 0, 0, 0, 0, 0, 0, 0, 0, 13, 14, 15, 16, 17, 0, 18, 19, 20, 21, 0, 0, 0, 22, 23, 24, 25, 0, 0, 26, 27, 28, 29, 0, 0, 0, 30, 0] rfl (C := RX11) (Tt := TX11) (N := 51) rfl h gX11_feed_X11_word_ rfl (by decide +kernel) (by decide) rfl rfl (Nat.le_of_ble_eq_true rfl) dX11_feed_30 (kc' := 0) (ks' := 0) rfl rfl (fun a2 h => ?_)
    refine zb_aload_n X dX11_feed_33 rfl 0 rfl ?_
    refine zb_iload_n X dX11_feed_34 rfl 2 rfl ?_
    refine zb_aload_n X dX11_feed_35 rfl 0 rfl ?_
    refine zb_getI X 0 (by decide) 11 [3, 4, 5, 6, 7, 8, 9, 10, 11, 0, 12, 0, 0, 0, 0, 0, 0, 0, 0, 0, 0, 0, 0, 13, 14, 15, 16, 17, 0, 18, 19, 20, 21, 0, 0, 0, 22, 23, 24, 25, 0, 0, 26, 27, 28, 29, 0, 0, 0, 30, 0] rfl (C := RX11) (Tt := TX11) (N := 51) rfl kX11_feed_1 11 (by decide) rfl kX11_feed_2 rfl dX11_feed_36 (a2 0 11) rfl ?_
    refine zb_iconst X (4 : Int32) dX11_feed_39 (by decide) ?_
    refine zb_iadd X dX11_feed_40 ?_
    refine zb_callVv (n := 2) X 0 (by decide) 11 [3, 4, 5, 6, 7, 8, 9, 10, 11, 0, 12, 0, 0, 0, 0, 0, 0, 0, 0, 0, 0, 0, 0, 13, 14, 15, 16, 17, 0, 18, 19, 20, 21, 0, 0, 0, 22, 23, 24, 25, 0, 0, 26, 27, 28, 29, 0, 0, 0, 30, 0] rfl (C := RX11) (Tt := TX11) (N := 51) rfl h gX11_feed_X11_word_ rfl (by decide +kernel) (by decide) rfl rfl (Nat.le_of_ble_eq_true rfl) dX11_feed_41 (kc' := 0) (ks' := 0) rfl rfl (fun a3 h => ?_)
    refine zb_aload_n X dX11_feed_44 rfl 0 rfl ?_
    refine zb_iload_n X dX11_feed_45 rfl 3 rfl ?_
    refine zb_aload_n X dX11_feed_46 rfl 0 rfl ?_
    refine zb_getI X 0 (by decide) 11 [3, 4, 5, 6, 7, 8, 9, 10, 11, 0, 12, 0, 0, 0, 0, 0, 0, 0, 0, 0, 0, 0, 0, 13, 14, 15, 16, 17, 0, 18, 19, 20, 21, 0, 0, 0, 22, 23, 24, 25, 0, 0, 26, 27, 28, 29, 0, 0, 0, 30, 0] rfl (C := RX11) (Tt := TX11) (N := 51) rfl kX11_feed_1 11 (by decide) rfl kX11_feed_2 rfl dX11_feed_47 (a3 0 11) rfl ?_
    refine zb_bipush X (8 : Int32) dX11_feed_50 (by decide) ?_
    refine zb_iadd X dX11_feed_52 ?_
    refine zb_callVv (n := 2) X 0 (by decide) 11 [3, 4, 5, 6, 7, 8, 9, 10, 11, 0, 12, 0, 0, 0, 0, 0, 0, 0, 0, 0, 0, 0, 0, 13, 14, 15, 16, 17, 0, 18, 19, 20, 21, 0, 0, 0, 22, 23, 24, 25, 0, 0, 26, 27, 28, 29, 0, 0, 0, 30, 0] rfl (C := RX11) (Tt := TX11) (N := 51) rfl h gX11_feed_X11_word_ rfl (by decide +kernel) (by decide) rfl rfl (Nat.le_of_ble_eq_true rfl) dX11_feed_53 (kc' := 0) (ks' := 0) rfl rfl (fun a4 h => ?_)
    refine zb_aload_n X dX11_feed_56 rfl 0 rfl ?_
    refine zb_iload X dX11_feed_57 4 rfl ?_
    refine zb_aload_n X dX11_feed_59 rfl 0 rfl ?_
    refine zb_getI X 0 (by decide) 11 [3, 4, 5, 6, 7, 8, 9, 10, 11, 0, 12, 0, 0, 0, 0, 0, 0, 0, 0, 0, 0, 0, 0, 13, 14, 15, 16, 17, 0, 18, 19, 20, 21, 0, 0, 0, 22, 23, 24, 25, 0, 0, 26, 27, 28, 29, 0, 0, 0, 30, 0] rfl (C := RX11) (Tt := TX11) (N := 51) rfl kX11_feed_1 11 (by decide) rfl kX11_feed_2 rfl dX11_feed_60 (a4 0 11) rfl ?_
    refine zb_bipush X (12 : Int32) dX11_feed_63 (by decide) ?_
    refine zb_iadd X dX11_feed_65 ?_
    refine zb_callVv (n := 2) X 0 (by decide) 11 [3, 4, 5, 6, 7, 8, 9, 10, 11, 0, 12, 0, 0, 0, 0, 0, 0, 0, 0, 0, 0, 0, 0, 13, 14, 15, 16, 17, 0, 18, 19, 20, 21, 0, 0, 0, 22, 23, 24, 25, 0, 0, 26, 27, 28, 29, 0, 0, 0, 30, 0] rfl (C := RX11) (Tt := TX11) (N := 51) rfl h gX11_feed_X11_word_ rfl (by decide +kernel) (by decide) rfl rfl (Nat.le_of_ble_eq_true rfl) dX11_feed_66 (kc' := 0) (ks' := 0) rfl rfl (fun a5 h => ?_)
    refine zb_aload_n X dX11_feed_69 rfl 0 rfl ?_
    refine zb_iload X dX11_feed_70 5 rfl ?_
    refine zb_aload_n X dX11_feed_72 rfl 0 rfl ?_
    refine zb_getI X 0 (by decide) 11 [3, 4, 5, 6, 7, 8, 9, 10, 11, 0, 12, 0, 0, 0, 0, 0, 0, 0, 0, 0, 0, 0, 0, 13, 14, 15, 16, 17, 0, 18, 19, 20, 21, 0, 0, 0, 22, 23, 24, 25, 0, 0, 26, 27, 28, 29, 0, 0, 0, 30, 0] rfl (C := RX11) (Tt := TX11) (N := 51) rfl kX11_feed_1 11 (by decide) rfl kX11_feed_2 rfl dX11_feed_73 (a5 0 11) rfl ?_
    refine zb_bipush X (16 : Int32) dX11_feed_76 (by decide) ?_
    refine zb_iadd X dX11_feed_78 ?_
    refine zb_callVv (n := 2) X 0 (by decide) 11 [3, 4, 5, 6, 7, 8, 9, 10, 11, 0, 12, 0, 0, 0, 0, 0, 0, 0, 0, 0, 0, 0, 0, 13, 14, 15, 16, 17, 0, 18, 19, 20, 21, 0, 0, 0, 22, 23, 24, 25, 0, 0, 26, 27, 28, 29, 0, 0, 0, 30, 0] rfl (C := RX11) (Tt := TX11) (N := 51) rfl h gX11_feed_X11_word_ rfl (by decide +kernel) (by decide) rfl rfl (Nat.le_of_ble_eq_true rfl) dX11_feed_79 (kc' := 0) (ks' := 0) rfl rfl (fun a6 h => ?_)
    refine zb_aload_n X dX11_feed_82 rfl 0 rfl ?_
    refine zb_dup X dX11_feed_83 rfl ?_
    refine zb_getI X 0 (by decide) 11 [3, 4, 5, 6, 7, 8, 9, 10, 11, 0, 12, 0, 0, 0, 0, 0, 0, 0, 0, 0, 0, 0, 0, 13, 14, 15, 16, 17, 0, 18, 19, 20, 21, 0, 0, 0, 22, 23, 24, 25, 0, 0, 26, 27, 28, 29, 0, 0, 0, 30, 0] rfl (C := RX11) (Tt := TX11) (N := 51) rfl kX11_feed_1 11 (by decide) rfl kX11_feed_2 rfl dX11_feed_84 (a6 0 11) rfl ?_
    refine zb_bipush X (20 : Int32) dX11_feed_87 (by decide) ?_
    refine zb_iadd X dX11_feed_89 ?_
    refine zb_putI X 0 (by decide) 11 [3, 4, 5, 6, 7, 8, 9, 10, 11, 0, 12, 0, 0, 0, 0, 0, 0, 0, 0, 0, 0, 0, 0, 13, 14, 15, 16, 17, 0, 18, 19, 20, 21, 0, 0, 0, 22, 23, 24, 25, 0, 0, 26, 27, 28, 29, 0, 0, 0, 30, 0] rfl (C := RX11) (Tt := TX11) (N := 51) rfl kX11_feed_1 tyX11 tyX11_ok nmX11 11 (by decide) rfl kX11_feed_2 rfl rfl rfl rfl dX11_feed_90 ?_
    refine zb_aload_n X dX11_feed_93 rfl 0 rfl ?_
    refine zb_getI X 0 (by decide) 11 [3, 4, 5, 6, 7, 8, 9, 10, 11, 0, 12, 0, 0, 0, 0, 0, 0, 0, 0, 0, 0, 0, 0, 13, 14, 15, 16, 17, 0, 18, 19, 20, 21, 0, 0, 0, 22, 23, 24, 25, 0, 0, 26, 27, 28, 29, 0, 0, 0, 30, 0] rfl (C := RX11) (Tt := TX11) (N := 51) rfl kX11_feed_1 11 (by decide) rfl kX11_feed_2 rfl dX11_feed_94 ((a6 0 11) + (20 : Int32)) rfl ?_
    exact hR 97 _ _ _ dX11_feed_97 rfl h
  · have h := h.2 c1
    refine zb_aload_n X dX11_feed_18 rfl 0 rfl ?_
    refine zb_iconst X (1 : Int32) dX11_feed_19 (by decide) ?_
    refine zb_callVi (n := 1) X 0 (by decide) 11 [3, 4, 5, 6, 7, 8, 9, 10, 11, 0, 12, 0, 0, 0, 0, 0, 0, 0, 0, 0, 0, 0, 0, 13, 14, 15, 16, 17, 0, 18, 19, 20, 21, 0, 0, 0, 22, 23, 24, 25, 0, 0, 26, 27, 28, 29, 0, 0, 0, 30, 0] rfl (C := RX11) (Tt := TX11) (N := 51) rfl h gX11_feed_X11_no rfl (by decide +kernel) (by decide) rfl rfl (Nat.le_of_ble_eq_true rfl) dX11_feed_20 (kc' := 0) (ks' := 0) rfl rfl (fun q2 a2 h => ?_)
    exact hR 23 _ _ _ dX11_feed_23 rfl h

abbrev rmX11_set : Room := { frames := 1, cells := 0, slots := 0, locals := 21 }
theorem kX11_set_0 : Cond.fieldLink RX11 308 RX11 "thrown" "I" ∈ wsX11_set := by decide +kernel
theorem kX11_set_1 : zIn RX11 TX11 51 wsX11_set := by decide +kernel
theorem kX11_set_2 : Cond.fieldLink RX11 163 RX11 "units" "I" ∈ wsX11_set := by decide +kernel
theorem kX11_set_3 : Cond.fieldLink RX11 166 RX11 "places" "I" ∈ wsX11_set := by decide +kernel
theorem kX11_set_4 : Cond.fieldLink RX11 169 RX11 "stars" "I" ∈ wsX11_set := by decide +kernel
theorem kX11_set_5 : Cond.fieldLink RX11 160 RX11 "width" "I" ∈ wsX11_set := by decide +kernel
theorem kX11_set_6 : Cond.fieldLink RX11 157 RX11 "rounds" "I" ∈ wsX11_set := by decide +kernel
theorem kX11_set_7 : Cond.fieldLink RX11 113 RX11 "times" "[I" ∈ wsX11_set := by decide +kernel
def vcX11_set_15 (G : zG)  (ad ln : Nat → Nat) (p1 : Int32) (p2 : Int32)  (post : Int32 → (Nat → Nat → Int32) → Prop) (al : Nat → Nat → Int32) : Prop :=
  zMi G yX11_no wsX11_no rmX11_no zTR ad ln [.ref (ad 0), .int (1 : Int32)] al (fun q1 a1 => post q1 a1)
def vcX11_set_66 (G : zG)  (ad ln : Nat → Nat) (p1 : Int32) (p2 : Int32)  (post : Int32 → (Nat → Nat → Int32) → Prop) (al : Nat → Nat → Int32) : Prop :=
  zMi G yX11_no wsX11_no rmX11_no zTR ad ln [.ref (ad 0), .int (1 : Int32)] al (fun q1 a1 => post q1 a1)
def vcX11_set_55 (G : zG)  (ad ln : Nat → Nat) (p1 : Int32) (p2 : Int32)  (post : Int32 → (Nat → Nat → Int32) → Prop) (s0 : Int32) (al : Nat → Nat → Int32) : Prop :=
  (p2 < (1 : Int32) → vcX11_set_66 G  ad ln p1 p2  post  al) ∧ (¬ p2 < (1 : Int32) → (p2 ≤ s0 → zMv G yX11_away wsX11_away rmX11_away zTR ad ln [.ref (ad 0)] al (fun a3 => (p1 = (4 : Int32) → post (a3 0 20) (up2 a3 0 20 p2)) ∧ (¬ p1 = (4 : Int32) → (p1 = (5 : Int32) → post (a3 0 21) (up2 a3 0 21 p2)) ∧ (¬ p1 = (5 : Int32) → (p1 = (6 : Int32) → post (a3 0 22) (up2 a3 0 22 p2)) ∧ (¬ p1 = (6 : Int32) → (p1 = (7 : Int32) → post (a3 0 19) (up2 a3 0 19 p2)) ∧ (¬ p1 = (7 : Int32) → (p1 = (8 : Int32) → post (a3 0 18) (up2 a3 0 18 p2)) ∧ (¬ p1 = (8 : Int32) → (vp_in p1 4 ∧ vp_in p1 4 ∧ post (a3 11 p1.toNatClampNeg) (up2 a3 11 p1.toNatClampNeg p2))))))))) ∧ (¬ p2 ≤ s0 → vcX11_set_66 G  ad ln p1 p2  post  al))
def vcX11_set_0 (G : zG)  (ad ln : Nat → Nat) (p1 : Int32) (p2 : Int32)  (post : Int32 → (Nat → Nat → Int32) → Prop) (al : Nat → Nat → Int32) : Prop :=
  (p1 < 0 → vcX11_set_15 G  ad ln p1 p2  post  (up2 al 0 50 (0 : Int32))) ∧ (¬ p1 < 0 → (p1 ≤ (8 : Int32) → ((4 : Int32) ≤ p1 → ((7 : Int32) ≤ p1 → (¬ p1 = (7 : Int32) → vcX11_set_55 G  ad ln p1 p2  post (64 : Int32) (up2 al 0 50 (0 : Int32))) ∧ (p1 = (7 : Int32) → vcX11_set_55 G  ad ln p1 p2  post (16 : Int32) (up2 al 0 50 (0 : Int32)))) ∧ (¬ (7 : Int32) ≤ p1 → vcX11_set_55 G  ad ln p1 p2  post (8 : Int32) (up2 al 0 50 (0 : Int32)))) ∧ (¬ (4 : Int32) ≤ p1 → vcX11_set_55 G  ad ln p1 p2  post (20 : Int32) (up2 al 0 50 (0 : Int32)))) ∧ (¬ p1 ≤ (8 : Int32) → vcX11_set_15 G  ad ln p1 p2  post  (up2 al 0 50 (0 : Int32))))
set_option maxRecDepth 20000 in
theorem tX11_set_15 {G : zG} {Z : zC}  {ad ln : Nat → Nat} (X : zX G Z cX11_set 5 RX11 wsX11_set) (p1 : Int32) (p2 : Int32)  {post : Int32 → (Nat → Nat → Int32) → Prop} (hR : zRi G Z rmX11_set 5 zTR ad ln cX11_set .int post)  (al : Nat → Nat → Int32) (h : vcX11_set_15 G  ad ln p1 p2  post  al) : zB G Z rmX11_set 5 zTR ad ln 0 0 15 [(0, .ref (ad 0))] [] al := by
  unfold vcX11_set_15 at h
  refine zb_aload_n X dX11_set_15 rfl 0 rfl ?_
  refine zb_iconst X (1 : Int32) dX11_set_16 (by decide) ?_
  refine zb_callVi (n := 1) X 0 (by decide) 11 [3, 4, 5, 6, 7, 8, 9, 10, 11, 0, 12, 0, 0, 0, 0, 0, 0, 0, 0, 0, 0, 0, 0, 13, 14, 15, 16, 17, 0, 18, 19, 20, 21, 0, 0, 0, 22, 23, 24, 25, 0, 0, 26, 27, 28, 29, 0, 0, 0, 30, 0] rfl (C := RX11) (Tt := TX11) (N := 51) rfl h gX11_set_X11_no rfl (by decide +kernel) (by decide) rfl rfl (Nat.le_of_ble_eq_true rfl) dX11_set_17 (kc' := 0) (ks' := 0) rfl rfl (fun q1 a1 h => ?_)
  exact hR 20 _ _ _ dX11_set_20 rfl h
set_option maxRecDepth 20000 in
theorem tX11_set_66 {G : zG} {Z : zC}  {ad ln : Nat → Nat} (X : zX G Z cX11_set 5 RX11 wsX11_set) (p1 : Int32) (p2 : Int32)  {post : Int32 → (Nat → Nat → Int32) → Prop} (hR : zRi G Z rmX11_set 5 zTR ad ln cX11_set .int post)  (al : Nat → Nat → Int32) (h : vcX11_set_66 G  ad ln p1 p2  post  al) : zB G Z rmX11_set 5 zTR ad ln 0 0 66 [(0, .ref (ad 0))] [] al := by
  unfold vcX11_set_66 at h
  refine zb_aload_n X dX11_set_66 rfl 0 rfl ?_
  refine zb_iconst X (1 : Int32) dX11_set_67 (by decide) ?_
  refine zb_callVi (n := 1) X 0 (by decide) 11 [3, 4, 5, 6, 7, 8, 9, 10, 11, 0, 12, 0, 0, 0, 0, 0, 0, 0, 0, 0, 0, 0, 0, 13, 14, 15, 16, 17, 0, 18, 19, 20, 21, 0, 0, 0, 22, 23, 24, 25, 0, 0, 26, 27, 28, 29, 0, 0, 0, 30, 0] rfl (C := RX11) (Tt := TX11) (N := 51) rfl h gX11_set_X11_no rfl (by decide +kernel) (by decide) rfl rfl (Nat.le_of_ble_eq_true rfl) dX11_set_68 (kc' := 0) (ks' := 0) rfl rfl (fun q1 a1 h => ?_)
  exact hR 71 _ _ _ dX11_set_71 rfl h
set_option maxRecDepth 20000 in
theorem tX11_set_55 {G : zG} {Z : zC}  {ad ln : Nat → Nat} (X : zX G Z cX11_set 5 RX11 wsX11_set) (p1 : Int32) (p2 : Int32)  {post : Int32 → (Nat → Nat → Int32) → Prop} (hR : zRi G Z rmX11_set 5 zTR ad ln cX11_set .int post)  (s0 : Int32) (al : Nat → Nat → Int32) (h : vcX11_set_55 G  ad ln p1 p2  post s0 al) : zB G Z rmX11_set 5 zTR ad ln 0 0 55 [(0, .ref (ad 0)), (1, .int p1), (2, .int p2)] [.int s0] al := by
  unfold vcX11_set_55 at h
  refine zb_istore_n X (lv' := [(3, .int s0), (0, .ref (ad 0)), (1, .int p1), (2, .int p2)]) dX11_set_55 rfl (by decide) rfl ?_
  refine zb_iload_n X dX11_set_56 rfl 3 rfl ?_
  refine zb_iconst X (1 : Int32) dX11_set_57 (by decide) ?_
  refine zb_icmp_lt X 66 dX11_set_58 (by decide) (fun c1 => ?_) (fun c1 => ?_)
  · have h := h.1 c1
    refine zb_sub [1] rfl ?_
    exact tX11_set_66 X p1 p2 hR   al h
  · have h := h.2 c1
    refine zb_iload_n X dX11_set_61 rfl 3 rfl ?_
    refine zb_iload_n X dX11_set_62 rfl 0 rfl ?_
    refine zb_icmp_le X 72 dX11_set_63 (by decide) (fun c2 => ?_) (fun c2 => ?_)
    · have h := h.1 c2
      refine zb_aload_n X dX11_set_72 rfl 1 rfl ?_
      refine zb_callVv (n := 0) X 0 (by decide) 11 [3, 4, 5, 6, 7, 8, 9, 10, 11, 0, 12, 0, 0, 0, 0, 0, 0, 0, 0, 0, 0, 0, 0, 13, 14, 15, 16, 17, 0, 18, 19, 20, 21, 0, 0, 0, 22, 23, 24, 25, 0, 0, 26, 27, 28, 29, 0, 0, 0, 30, 0] rfl (C := RX11) (Tt := TX11) (N := 51) rfl h gX11_set_X11_away rfl (by decide +kernel) (by decide) rfl rfl (Nat.le_of_ble_eq_true rfl) dX11_set_73 (kc' := 0) (ks' := 0) rfl rfl (fun a3 h => ?_)
      refine zb_iload_n X dX11_set_76 rfl 2 rfl ?_
      by_cases c4 : p1 = (4 : Int32)
      · have h := h.1 c4
        refine zb_tabIn X 112 dX11_set_77 (by rw [c4]; decide) (by rw [c4]; decide) (by rw [c4]; rfl) (by decide) ?_
        refine zb_aload_n X dX11_set_112 rfl 1 rfl ?_
        refine zb_getI X 0 (by decide) 11 [3, 4, 5, 6, 7, 8, 9, 10, 11, 0, 12, 0, 0, 0, 0, 0, 0, 0, 0, 0, 0, 0, 0, 13, 14, 15, 16, 17, 0, 18, 19, 20, 21, 0, 0, 0, 22, 23, 24, 25, 0, 0, 26, 27, 28, 29, 0, 0, 0, 30, 0] rfl (C := RX11) (Tt := TX11) (N := 51) rfl kX11_set_1 20 (by decide) rfl kX11_set_2 rfl dX11_set_113 (a3 0 20) rfl ?_
        refine zb_istore X (lv' := [(4, .int (a3 0 20)), (3, .int s0), (0, .ref (ad 0)), (1, .int p1), (2, .int p2)]) dX11_set_116 (by decide) rfl ?_
        refine zb_aload_n X dX11_set_118 rfl 2 rfl ?_
        refine zb_iload_n X dX11_set_119 rfl 4 rfl ?_
        refine zb_putI X 0 (by decide) 11 [3, 4, 5, 6, 7, 8, 9, 10, 11, 0, 12, 0, 0, 0, 0, 0, 0, 0, 0, 0, 0, 0, 0, 13, 14, 15, 16, 17, 0, 18, 19, 20, 21, 0, 0, 0, 22, 23, 24, 25, 0, 0, 26, 27, 28, 29, 0, 0, 0, 30, 0] rfl (C := RX11) (Tt := TX11) (N := 51) rfl kX11_set_1 tyX11 tyX11_ok nmX11 20 (by decide) rfl kX11_set_2 rfl rfl rfl rfl dX11_set_120 ?_
        refine zb_iload X dX11_set_123 0 rfl ?_
        exact hR 125 _ _ _ dX11_set_125 rfl h
      have h := h.2 c4
      by_cases c5 : p1 = (5 : Int32)
      · have h := h.1 c5
        refine zb_tabIn X 126 dX11_set_77 (by rw [c5]; decide) (by rw [c5]; decide) (by rw [c5]; rfl) (by decide) ?_
        refine zb_aload_n X dX11_set_126 rfl 1 rfl ?_
        refine zb_getI X 0 (by decide) 11 [3, 4, 5, 6, 7, 8, 9, 10, 11, 0, 12, 0, 0, 0, 0, 0, 0, 0, 0, 0, 0, 0, 0, 13, 14, 15, 16, 17, 0, 18, 19, 20, 21, 0, 0, 0, 22, 23, 24, 25, 0, 0, 26, 27, 28, 29, 0, 0, 0, 30, 0] rfl (C := RX11) (Tt := TX11) (N := 51) rfl kX11_set_1 21 (by decide) rfl kX11_set_3 rfl dX11_set_127 (a3 0 21) rfl ?_
        refine zb_istore X (lv' := [(4, .int (a3 0 21)), (3, .int s0), (0, .ref (ad 0)), (1, .int p1), (2, .int p2)]) dX11_set_130 (by decide) rfl ?_
        refine zb_aload_n X dX11_set_132 rfl 2 rfl ?_
        refine zb_iload_n X dX11_set_133 rfl 4 rfl ?_
        refine zb_putI X 0 (by decide) 11 [3, 4, 5, 6, 7, 8, 9, 10, 11, 0, 12, 0, 0, 0, 0, 0, 0, 0, 0, 0, 0, 0, 0, 13, 14, 15, 16, 17, 0, 18, 19, 20, 21, 0, 0, 0, 22, 23, 24, 25, 0, 0, 26, 27, 28, 29, 0, 0, 0, 30, 0] rfl (C := RX11) (Tt := TX11) (N := 51) rfl kX11_set_1 tyX11 tyX11_ok nmX11 21 (by decide) rfl kX11_set_3 rfl rfl rfl rfl dX11_set_134 ?_
        refine zb_iload X dX11_set_137 0 rfl ?_
        exact hR 139 _ _ _ dX11_set_139 rfl h
      have h := h.2 c5
      by_cases c6 : p1 = (6 : Int32)
      · have h := h.1 c6
        refine zb_tabIn X 140 dX11_set_77 (by rw [c6]; decide) (by rw [c6]; decide) (by rw [c6]; rfl) (by decide) ?_
        refine zb_aload_n X dX11_set_140 rfl 1 rfl ?_
        refine zb_getI X 0 (by decide) 11 [3, 4, 5, 6, 7, 8, 9, 10, 11, 0, 12, 0, 0, 0, 0, 0, 0, 0, 0, 0, 0, 0, 0, 13, 14, 15, 16, 17, 0, 18, 19, 20, 21, 0, 0, 0, 22, 23, 24, 25, 0, 0, 26, 27, 28, 29, 0, 0, 0, 30, 0] rfl (C := RX11) (Tt := TX11) (N := 51) rfl kX11_set_1 22 (by decide) rfl kX11_set_4 rfl dX11_set_141 (a3 0 22) rfl ?_
        refine zb_istore X (lv' := [(4, .int (a3 0 22)), (3, .int s0), (0, .ref (ad 0)), (1, .int p1), (2, .int p2)]) dX11_set_144 (by decide) rfl ?_
        refine zb_aload_n X dX11_set_146 rfl 2 rfl ?_
        refine zb_iload_n X dX11_set_147 rfl 4 rfl ?_
        refine zb_putI X 0 (by decide) 11 [3, 4, 5, 6, 7, 8, 9, 10, 11, 0, 12, 0, 0, 0, 0, 0, 0, 0, 0, 0, 0, 0, 0, 13, 14, 15, 16, 17, 0, 18, 19, 20, 21, 0, 0, 0, 22, 23, 24, 25, 0, 0, 26, 27, 28, 29, 0, 0, 0, 30, 0] rfl (C := RX11) (Tt := TX11) (N := 51) rfl kX11_set_1 tyX11 tyX11_ok nmX11 22 (by decide) rfl kX11_set_4 rfl rfl rfl rfl dX11_set_148 ?_
        refine zb_iload X dX11_set_151 0 rfl ?_
        exact hR 153 _ _ _ dX11_set_153 rfl h
      have h := h.2 c6
      by_cases c7 : p1 = (7 : Int32)
      · have h := h.1 c7
        refine zb_tabIn X 154 dX11_set_77 (by rw [c7]; decide) (by rw [c7]; decide) (by rw [c7]; rfl) (by decide) ?_
        refine zb_aload_n X dX11_set_154 rfl 1 rfl ?_
        refine zb_getI X 0 (by decide) 11 [3, 4, 5, 6, 7, 8, 9, 10, 11, 0, 12, 0, 0, 0, 0, 0, 0, 0, 0, 0, 0, 0, 0, 13, 14, 15, 16, 17, 0, 18, 19, 20, 21, 0, 0, 0, 22, 23, 24, 25, 0, 0, 26, 27, 28, 29, 0, 0, 0, 30, 0] rfl (C := RX11) (Tt := TX11) (N := 51) rfl kX11_set_1 19 (by decide) rfl kX11_set_5 rfl dX11_set_155 (a3 0 19) rfl ?_
        refine zb_istore X (lv' := [(4, .int (a3 0 19)), (3, .int s0), (0, .ref (ad 0)), (1, .int p1), (2, .int p2)]) dX11_set_158 (by decide) rfl ?_
        refine zb_aload_n X dX11_set_160 rfl 2 rfl ?_
        refine zb_iload_n X dX11_set_161 rfl 4 rfl ?_
        refine zb_putI X 0 (by decide) 11 [3, 4, 5, 6, 7, 8, 9, 10, 11, 0, 12, 0, 0, 0, 0, 0, 0, 0, 0, 0, 0, 0, 0, 13, 14, 15, 16, 17, 0, 18, 19, 20, 21, 0, 0, 0, 22, 23, 24, 25, 0, 0, 26, 27, 28, 29, 0, 0, 0, 30, 0] rfl (C := RX11) (Tt := TX11) (N := 51) rfl kX11_set_1 tyX11 tyX11_ok nmX11 19 (by decide) rfl kX11_set_5 rfl rfl rfl rfl dX11_set_162 ?_
        refine zb_iload X dX11_set_165 0 rfl ?_
        exact hR 167 _ _ _ dX11_set_167 rfl h
      have h := h.2 c7
      by_cases c8 : p1 = (8 : Int32)
      · have h := h.1 c8
        refine zb_tabIn X 168 dX11_set_77 (by rw [c8]; decide) (by rw [c8]; decide) (by rw [c8]; rfl) (by decide) ?_
        refine zb_aload_n X dX11_set_168 rfl 1 rfl ?_
        refine zb_getI X 0 (by decide) 11 [3, 4, 5, 6, 7, 8, 9, 10, 11, 0, 12, 0, 0, 0, 0, 0, 0, 0, 0, 0, 0, 0, 0, 13, 14, 15, 16, 17, 0, 18, 19, 20, 21, 0, 0, 0, 22, 23, 24, 25, 0, 0, 26, 27, 28, 29, 0, 0, 0, 30, 0] rfl (C := RX11) (Tt := TX11) (N := 51) rfl kX11_set_1 18 (by decide) rfl kX11_set_6 rfl dX11_set_169 (a3 0 18) rfl ?_
        refine zb_istore X (lv' := [(4, .int (a3 0 18)), (3, .int s0), (0, .ref (ad 0)), (1, .int p1), (2, .int p2)]) dX11_set_172 (by decide) rfl ?_
        refine zb_aload_n X dX11_set_174 rfl 2 rfl ?_
        refine zb_iload_n X dX11_set_175 rfl 4 rfl ?_
        refine zb_putI X 0 (by decide) 11 [3, 4, 5, 6, 7, 8, 9, 10, 11, 0, 12, 0, 0, 0, 0, 0, 0, 0, 0, 0, 0, 0, 0, 13, 14, 15, 16, 17, 0, 18, 19, 20, 21, 0, 0, 0, 22, 23, 24, 25, 0, 0, 26, 27, 28, 29, 0, 0, 0, 30, 0] rfl (C := RX11) (Tt := TX11) (N := 51) rfl kX11_set_1 tyX11 tyX11_ok nmX11 18 (by decide) rfl kX11_set_6 rfl rfl rfl rfl dX11_set_176 ?_
        refine zb_iload X dX11_set_179 0 rfl ?_
        exact hR 181 _ _ _ dX11_set_181 rfl h
      have h := h.2 c8
      refine zb_tabOut X 182 dX11_set_77 (by have e0 := zne_int c4; have e1 := zne_int c5; have e2 := zne_int c6; have e3 := zne_int c7; have e4 := zne_int c8; rw [show (4 : Int32).toInt = 4 from by decide] at e0; rw [show (5 : Int32).toInt = 5 from by decide] at e1; rw [show (6 : Int32).toInt = 6 from by decide] at e2; rw [show (7 : Int32).toInt = 7 from by decide] at e3; rw [show (8 : Int32).toInt = 8 from by decide] at e4; omega) (by decide) ?_
      refine zb_aload_n X dX11_set_182 rfl 1 rfl ?_
      refine zb_getR X 0 (by decide) 11 [3, 4, 5, 6, 7, 8, 9, 10, 11, 0, 12, 0, 0, 0, 0, 0, 0, 0, 0, 0, 0, 0, 0, 13, 14, 15, 16, 17, 0, 18, 19, 20, 21, 0, 0, 0, 22, 23, 24, 25, 0, 0, 26, 27, 28, 29, 0, 0, 0, 30, 0] rfl (C := RX11) (Tt := TX11) (N := 51) rfl kX11_set_1 23 (by decide) 11 rfl kX11_set_7 rfl dX11_set_183 ?_
      refine zb_iload_n X dX11_set_186 rfl 2 rfl ?_
      obtain ⟨hz, h⟩ := h
      refine zb_iald X 11 (by decide) 1 4 0 0 rfl (Or.inl rfl) p1.toNatClampNeg rfl hz dX11_set_187 (a3 11 p1.toNatClampNeg) rfl ?_
      refine zb_istore X (lv' := [(4, .int (a3 11 p1.toNatClampNeg)), (3, .int s0), (0, .ref (ad 0)), (1, .int p1), (2, .int p2)]) dX11_set_188 (by decide) rfl ?_
      refine zb_aload_n X dX11_set_190 rfl 2 rfl ?_
      refine zb_getR X 0 (by decide) 11 [3, 4, 5, 6, 7, 8, 9, 10, 11, 0, 12, 0, 0, 0, 0, 0, 0, 0, 0, 0, 0, 0, 0, 13, 14, 15, 16, 17, 0, 18, 19, 20, 21, 0, 0, 0, 22, 23, 24, 25, 0, 0, 26, 27, 28, 29, 0, 0, 0, 30, 0] rfl (C := RX11) (Tt := TX11) (N := 51) rfl kX11_set_1 23 (by decide) 11 rfl kX11_set_7 rfl dX11_set_191 ?_
      refine zb_iload_n X dX11_set_194 rfl 3 rfl ?_
      refine zb_iload_n X dX11_set_195 rfl 4 rfl ?_
      obtain ⟨hz, h⟩ := h
      refine zb_iast X 11 (by decide) 1 4 0 0 rfl (Or.inl rfl) p1.toNatClampNeg rfl hz dX11_set_196 ?_
      refine zb_iload X dX11_set_197 0 rfl ?_
      exact hR 199 _ _ _ dX11_set_199 rfl h
    · have h := h.2 c2
      refine zb_sub [1] rfl ?_
      exact tX11_set_66 X p1 p2 hR   al h
set_option maxRecDepth 20000 in
theorem tX11_set_0 {G : zG} {Z : zC}  {ad ln : Nat → Nat} (X : zX G Z cX11_set 5 RX11 wsX11_set) (p1 : Int32) (p2 : Int32)  {post : Int32 → (Nat → Nat → Int32) → Prop} (hR : zRi G Z rmX11_set 5 zTR ad ln cX11_set .int post)  (al : Nat → Nat → Int32) (h : vcX11_set_0 G  ad ln p1 p2  post  al) : zB G Z rmX11_set 5 zTR ad ln 0 0 0 [(0, .ref (ad 0)), (1, .int p1), (2, .int p2)] [] al := by
  unfold vcX11_set_0 at h
  refine zb_aload_n X dX11_set_0 rfl 0 rfl ?_
  refine zb_iconst X (0 : Int32) dX11_set_1 (by decide) ?_
  refine zb_putI X 0 (by decide) 11 [3, 4, 5, 6, 7, 8, 9, 10, 11, 0, 12, 0, 0, 0, 0, 0, 0, 0, 0, 0, 0, 0, 0, 13, 14, 15, 16, 17, 0, 18, 19, 20, 21, 0, 0, 0, 22, 23, 24, 25, 0, 0, 26, 27, 28, 29, 0, 0, 0, 30, 0] rfl (C := RX11) (Tt := TX11) (N := 51) rfl kX11_set_1 tyX11 tyX11_ok nmX11 50 (by decide) rfl kX11_set_0 rfl rfl rfl rfl dX11_set_2 ?_
  refine zb_iload_n X dX11_set_5 rfl 1 rfl ?_
  refine zb_if_lt X 15 dX11_set_6 (by decide) (fun c1 => ?_) (fun c1 => ?_)
  · have h := h.1 c1
    refine zb_sub [0] rfl ?_
    exact tX11_set_15 X p1 p2 hR   (up2 al 0 50 (0 : Int32)) h
  · have h := h.2 c1
    refine zb_iload_n X dX11_set_9 rfl 1 rfl ?_
    refine zb_bipush X (8 : Int32) dX11_set_10 (by decide) ?_
    refine zb_icmp_le X 21 dX11_set_12 (by decide) (fun c2 => ?_) (fun c2 => ?_)
    · have h := h.1 c2
      refine zb_iload_n X dX11_set_21 rfl 1 rfl ?_
      refine zb_iconst X (4 : Int32) dX11_set_22 (by decide) ?_
      refine zb_icmp_ge X 31 dX11_set_23 (by decide) (fun c3 => ?_) (fun c3 => ?_)
      · have h := h.1 c3
        refine zb_iload_n X dX11_set_31 rfl 1 rfl ?_
        refine zb_bipush X (7 : Int32) dX11_set_32 (by decide) ?_
        refine zb_icmp_ge X 42 dX11_set_34 (by decide) (fun c4 => ?_) (fun c4 => ?_)
        · have h := h.1 c4
          refine zb_iload_n X dX11_set_42 rfl 1 rfl ?_
          refine zb_bipush X (7 : Int32) dX11_set_43 (by decide) ?_
          refine zb_icmp_ne X 53 dX11_set_45 (by decide) (fun c5 => ?_) (fun c5 => ?_)
          · have h := h.1 c5
            refine zb_bipush X (64 : Int32) dX11_set_53 (by decide) ?_
            refine zb_sub [0, 1, 2] rfl ?_
            exact tX11_set_55 X p1 p2 hR  (64 : Int32) (up2 al 0 50 (0 : Int32)) h
          · have h := h.2 c5
            refine zb_bipush X (16 : Int32) dX11_set_48 (by decide) ?_
            refine zb_goto X 55 dX11_set_50 (by decide) ?_
            refine zb_sub [0, 1, 2] rfl ?_
            exact tX11_set_55 X p1 p2 hR  (16 : Int32) (up2 al 0 50 (0 : Int32)) h
        · have h := h.2 c4
          refine zb_bipush X (8 : Int32) dX11_set_37 (by decide) ?_
          refine zb_goto X 55 dX11_set_39 (by decide) ?_
          refine zb_sub [0, 1, 2] rfl ?_
          exact tX11_set_55 X p1 p2 hR  (8 : Int32) (up2 al 0 50 (0 : Int32)) h
      · have h := h.2 c3
        refine zb_bipush X (20 : Int32) dX11_set_26 (by decide) ?_
        refine zb_goto X 55 dX11_set_28 (by decide) ?_
        refine zb_sub [0, 1, 2] rfl ?_
        exact tX11_set_55 X p1 p2 hR  (20 : Int32) (up2 al 0 50 (0 : Int32)) h
    · have h := h.2 c2
      refine zb_sub [0] rfl ?_
      exact tX11_set_15 X p1 p2 hR   (up2 al 0 50 (0 : Int32)) h

abbrev rmX11_begin : Room := { frames := 1, cells := 0, slots := 0, locals := 21 }
theorem kX11_begin_0 : Cond.fieldLink RX11 308 RX11 "thrown" "I" ∈ wsX11_begin := by decide +kernel
theorem kX11_begin_1 : zIn RX11 TX11 51 wsX11_begin := by decide +kernel
theorem kX11_begin_2 : Cond.fieldLink RX11 271 RX11 "begins" "[I" ∈ wsX11_begin := by decide +kernel
theorem kX11_begin_3 : Cond.fieldLink RX11 316 RX11 "ran" "Z" ∈ wsX11_begin := by decide +kernel
def vcX11_begin_15 (G : zG)  (ad ln : Nat → Nat) (p1 : Int32) (p2 : Int32)  (post : Int32 → (Nat → Nat → Int32) → Prop) (al : Nat → Nat → Int32) : Prop :=
  zMi G yX11_no wsX11_no rmX11_no zTR ad ln [.ref (ad 0), .int (1 : Int32)] al (fun q1 a1 => post q1 a1)
def vcX11_begin_0 (G : zG)  (ad ln : Nat → Nat) (p1 : Int32) (p2 : Int32)  (post : Int32 → (Nat → Nat → Int32) → Prop) (al : Nat → Nat → Int32) : Prop :=
  (p1 < 0 → vcX11_begin_15 G  ad ln p1 p2  post  (up2 al 0 50 (0 : Int32))) ∧ (¬ p1 < 0 → (p1 ≤ (31 : Int32) → (vp_in p1 32 ∧ vp_in p1 32 ∧ post (al 24 p1.toNatClampNeg) (up2 (up2 (up2 al 0 50 (0 : Int32)) 24 p1.toNatClampNeg p2) 0 47 (0 : Int32)))) ∧ (¬ p1 ≤ (31 : Int32) → vcX11_begin_15 G  ad ln p1 p2  post  (up2 al 0 50 (0 : Int32))))
set_option maxRecDepth 20000 in
theorem tX11_begin_15 {G : zG} {Z : zC}  {ad ln : Nat → Nat} (X : zX G Z cX11_begin 4 RX11 wsX11_begin) (p1 : Int32) (p2 : Int32)  {post : Int32 → (Nat → Nat → Int32) → Prop} (hR : zRi G Z rmX11_begin 4 zTR ad ln cX11_begin .int post)  (al : Nat → Nat → Int32) (h : vcX11_begin_15 G  ad ln p1 p2  post  al) : zB G Z rmX11_begin 4 zTR ad ln 0 0 15 [(0, .ref (ad 0))] [] al := by
  unfold vcX11_begin_15 at h
  refine zb_aload_n X dX11_begin_15 rfl 0 rfl ?_
  refine zb_iconst X (1 : Int32) dX11_begin_16 (by decide) ?_
  refine zb_callVi (n := 1) X 0 (by decide) 11 [3, 4, 5, 6, 7, 8, 9, 10, 11, 0, 12, 0, 0, 0, 0, 0, 0, 0, 0, 0, 0, 0, 0, 13, 14, 15, 16, 17, 0, 18, 19, 20, 21, 0, 0, 0, 22, 23, 24, 25, 0, 0, 26, 27, 28, 29, 0, 0, 0, 30, 0] rfl (C := RX11) (Tt := TX11) (N := 51) rfl h gX11_begin_X11_no rfl (by decide +kernel) (by decide) rfl rfl (Nat.le_of_ble_eq_true rfl) dX11_begin_17 (kc' := 0) (ks' := 0) rfl rfl (fun q1 a1 h => ?_)
  exact hR 20 _ _ _ dX11_begin_20 rfl h
set_option maxRecDepth 20000 in
theorem tX11_begin_0 {G : zG} {Z : zC}  {ad ln : Nat → Nat} (X : zX G Z cX11_begin 4 RX11 wsX11_begin) (p1 : Int32) (p2 : Int32)  {post : Int32 → (Nat → Nat → Int32) → Prop} (hR : zRi G Z rmX11_begin 4 zTR ad ln cX11_begin .int post)  (al : Nat → Nat → Int32) (h : vcX11_begin_0 G  ad ln p1 p2  post  al) : zB G Z rmX11_begin 4 zTR ad ln 0 0 0 [(0, .ref (ad 0)), (1, .int p1), (2, .int p2)] [] al := by
  unfold vcX11_begin_0 at h
  refine zb_aload_n X dX11_begin_0 rfl 0 rfl ?_
  refine zb_iconst X (0 : Int32) dX11_begin_1 (by decide) ?_
  refine zb_putI X 0 (by decide) 11 [3, 4, 5, 6, 7, 8, 9, 10, 11, 0, 12, 0, 0, 0, 0, 0, 0, 0, 0, 0, 0, 0, 0, 13, 14, 15, 16, 17, 0, 18, 19, 20, 21, 0, 0, 0, 22, 23, 24, 25, 0, 0, 26, 27, 28, 29, 0, 0, 0, 30, 0] rfl (C := RX11) (Tt := TX11) (N := 51) rfl kX11_begin_1 tyX11 tyX11_ok nmX11 50 (by decide) rfl kX11_begin_0 rfl rfl rfl rfl dX11_begin_2 ?_
  refine zb_iload_n X dX11_begin_5 rfl 1 rfl ?_
  refine zb_if_lt X 15 dX11_begin_6 (by decide) (fun c1 => ?_) (fun c1 => ?_)
  · have h := h.1 c1
    refine zb_sub [0] rfl ?_
    exact tX11_begin_15 X p1 p2 hR   (up2 al 0 50 (0 : Int32)) h
  · have h := h.2 c1
    refine zb_iload_n X dX11_begin_9 rfl 1 rfl ?_
    refine zb_bipush X (31 : Int32) dX11_begin_10 (by decide) ?_
    refine zb_icmp_le X 21 dX11_begin_12 (by decide) (fun c2 => ?_) (fun c2 => ?_)
    · have h := h.1 c2
      refine zb_aload_n X dX11_begin_21 rfl 0 rfl ?_
      refine zb_getR X 0 (by decide) 11 [3, 4, 5, 6, 7, 8, 9, 10, 11, 0, 12, 0, 0, 0, 0, 0, 0, 0, 0, 0, 0, 0, 0, 13, 14, 15, 16, 17, 0, 18, 19, 20, 21, 0, 0, 0, 22, 23, 24, 25, 0, 0, 26, 27, 28, 29, 0, 0, 0, 30, 0] rfl (C := RX11) (Tt := TX11) (N := 51) rfl kX11_begin_1 42 (by decide) 24 rfl kX11_begin_2 rfl dX11_begin_22 ?_
      refine zb_iload_n X dX11_begin_25 rfl 1 rfl ?_
      obtain ⟨hz, h⟩ := h
      refine zb_iald X 24 (by decide) 1 32 0 0 rfl (Or.inl rfl) p1.toNatClampNeg rfl hz dX11_begin_26 (al 24 p1.toNatClampNeg) rfl ?_
      refine zb_istore_n X (lv' := [(3, .int (al 24 p1.toNatClampNeg)), (0, .ref (ad 0)), (1, .int p1), (2, .int p2)]) dX11_begin_27 rfl (by decide) rfl ?_
      refine zb_aload_n X dX11_begin_28 rfl 1 rfl ?_
      refine zb_getR X 0 (by decide) 11 [3, 4, 5, 6, 7, 8, 9, 10, 11, 0, 12, 0, 0, 0, 0, 0, 0, 0, 0, 0, 0, 0, 0, 13, 14, 15, 16, 17, 0, 18, 19, 20, 21, 0, 0, 0, 22, 23, 24, 25, 0, 0, 26, 27, 28, 29, 0, 0, 0, 30, 0] rfl (C := RX11) (Tt := TX11) (N := 51) rfl kX11_begin_1 42 (by decide) 24 rfl kX11_begin_2 rfl dX11_begin_29 ?_
      refine zb_iload_n X dX11_begin_32 rfl 2 rfl ?_
      refine zb_iload_n X dX11_begin_33 rfl 3 rfl ?_
      obtain ⟨hz, h⟩ := h
      refine zb_iast X 24 (by decide) 1 32 0 0 rfl (Or.inl rfl) p1.toNatClampNeg rfl hz dX11_begin_34 ?_
      refine zb_aload_n X dX11_begin_35 rfl 1 rfl ?_
      refine zb_iconst X (0 : Int32) dX11_begin_36 (by decide) ?_
      refine zb_putI X 0 (by decide) 11 [3, 4, 5, 6, 7, 8, 9, 10, 11, 0, 12, 0, 0, 0, 0, 0, 0, 0, 0, 0, 0, 0, 0, 13, 14, 15, 16, 17, 0, 18, 19, 20, 21, 0, 0, 0, 22, 23, 24, 25, 0, 0, 26, 27, 28, 29, 0, 0, 0, 30, 0] rfl (C := RX11) (Tt := TX11) (N := 51) rfl kX11_begin_1 tyX11 tyX11_ok nmX11 47 (by decide) rfl kX11_begin_3 rfl rfl rfl rfl dX11_begin_37 ?_
      refine zb_iload_n X dX11_begin_40 rfl 0 rfl ?_
      exact hR 41 _ _ _ dX11_begin_41 rfl h
    · have h := h.2 c2
      refine zb_sub [0] rfl ?_
      exact tX11_begin_15 X p1 p2 hR   (up2 al 0 50 (0 : Int32)) h

abbrev rmX11_count : Room := { frames := 3, cells := 0, slots := 0, locals := 69 }
theorem kX11_count_0 : Cond.fieldLink RX11 308 RX11 "thrown" "I" ∈ wsX11_count := by decide +kernel
theorem kX11_count_1 : zIn RX11 TX11 51 wsX11_count := by decide +kernel
theorem kX11_count_2 : Cond.fieldLink RX11 216 RX11 "distance" "I" ∈ wsX11_count := by decide +kernel
theorem kX11_count_3 : Cond.fieldLink RX11 137 RX11 "rows" "I" ∈ wsX11_count := by decide +kernel
theorem kX11_count_4 : Cond.fieldLink RX11 323 RX11 "reason" "I" ∈ wsX11_count := by decide +kernel
theorem kX11_count_5 : Cond.fieldLink RX11 19 RX11 "size" "I" ∈ wsX11_count := by decide +kernel
theorem kX11_count_6 : Cond.fieldLink RX11 119 RX11 "waits" "I" ∈ wsX11_count := by decide +kernel
theorem kX11_count_7 : Cond.fieldLink RX11 330 RX11 "loop" "Z" ∈ wsX11_count := by decide +kernel
theorem kX11_count_8 : Cond.fieldLink RX11 228 RX11 "stages" "I" ∈ wsX11_count := by decide +kernel
theorem kX11_count_9 : Cond.fieldLink RX11 202 RX11 "tries" "I" ∈ wsX11_count := by decide +kernel
theorem kX11_count_10 : Cond.fieldLink RX11 249 RX11 "need" "I" ∈ wsX11_count := by decide +kernel
theorem kX11_count_11 : Cond.fieldLink RX11 255 RX11 "around" "I" ∈ wsX11_count := by decide +kernel
theorem kX11_count_12 : Cond.fieldLink RX11 189 RX11 "cycle" "[I" ∈ wsX11_count := by decide +kernel
theorem kX11_count_13 : Cond.methodLink RX11 134 Lib.Math.max.name ∈ wsX11_count := by decide +kernel
theorem kX11_count_14 : Cond.static Lib.Math.max.name ∈ wsX11_count := by decide +kernel
theorem kX11_count_15 : Cond.initialized "java/lang/Math" ∈ wsX11_count := by decide +kernel
theorem kX11_count_16 : Cond.code Lib.Math.max.name Lib.Math.max.code 2 (some .int) ∈ wsX11_count := by decide +kernel
abbrev BX11_count_176 (G : zG) (Z : zC)  (ad ln : Nat → Nat) (p1 : Int32) (x2 x3 x4 : Int32) (al : Nat → Nat → Int32) : Prop := zB G Z rmX11_count 5 zTR ad ln 0 0 176 [(0, .ref (ad 0)), (2, .int x2), (3, .int x3), (4, .int x4)] [] al
def vcX11_count_119 (G : zG)  (ad ln : Nat → Nat) (p1 : Int32) (K176 : Int32 → Int32 → Int32 → (Nat → Nat → Int32) → Prop) (post : Int32 → (Nat → Nat → Int32) → Prop) (s0 : Int32) (al : Nat → Nat → Int32) : Prop :=
  post s0 al
def vcX11_count_139 (G : zG)  (ad ln : Nat → Nat) (p1 : Int32) (K176 : Int32 → Int32 → Int32 → (Nat → Nat → Int32) → Prop) (post : Int32 → (Nat → Nat → Int32) → Prop) (s0 : Int32) (al : Nat → Nat → Int32) : Prop :=
  post s0 al
def vcX11_count_157 (G : zG)  (ad ln : Nat → Nat) (p1 : Int32) (K176 : Int32 → Int32 → Int32 → (Nat → Nat → Int32) → Prop) (post : Int32 → (Nat → Nat → Int32) → Prop) (s0 : Int32) (al : Nat → Nat → Int32) : Prop :=
  post s0 al
def vcX11_count_170 (G : zG)  (ad ln : Nat → Nat) (p1 : Int32) (K176 : Int32 → Int32 → Int32 → (Nat → Nat → Int32) → Prop) (post : Int32 → (Nat → Nat → Int32) → Prop) (s0 : Int32) (al : Nat → Nat → Int32) : Prop :=
  post s0 al
def vcX11_count_221 (G : zG)  (ad ln : Nat → Nat) (p1 : Int32) (K176 : Int32 → Int32 → Int32 → (Nat → Nat → Int32) → Prop) (post : Int32 → (Nat → Nat → Int32) → Prop) (s0 : Int32) (al : Nat → Nat → Int32) : Prop :=
  post s0 al
def vcX11_count_234 (G : zG)  (ad ln : Nat → Nat) (p1 : Int32) (K176 : Int32 → Int32 → Int32 → (Nat → Nat → Int32) → Prop) (post : Int32 → (Nat → Nat → Int32) → Prop) (s0 : Int32) (al : Nat → Nat → Int32) : Prop :=
  post s0 al
def vcX11_count_17 (G : zG)  (ad ln : Nat → Nat) (p1 : Int32) (K176 : Int32 → Int32 → Int32 → (Nat → Nat → Int32) → Prop) (post : Int32 → (Nat → Nat → Int32) → Prop) (s0 : Int32) (al : Nat → Nat → Int32) : Prop :=
  (p1 = (0 : Int32) → post (al 0 9) al) ∧ (¬ p1 = (0 : Int32) → (p1 = (1 : Int32) → post (al 0 48) al) ∧ (¬ p1 = (1 : Int32) → (p1 = (2 : Int32) → post (al 0 11) al) ∧ (¬ p1 = (2 : Int32) → (p1 = (3 : Int32) → zMv G yX11_findWaits wsX11_findWaits rmX11_findWaits zTR ad ln [.ref (ad 0)] al (fun a5 => post (a5 0 28) a5)) ∧ (¬ p1 = (3 : Int32) → (p1 = (4 : Int32) → ((al 0 46) = 0 → vcX11_count_119 G  ad ln p1 K176 post (0 : Int32) al) ∧ (¬ (al 0 46) = 0 → zMi G yX11_leastByUnits wsX11_leastByUnits rmX11_leastByUnits zTR ad ln [.ref (ad 0)] al (fun q7 a7 => vcX11_count_119 G  ad ln p1 K176 post q7 a7))) ∧ (¬ p1 = (4 : Int32) → (p1 = (5 : Int32) → zMv G yX11_findWaits wsX11_findWaits rmX11_findWaits zTR ad ln [.ref (ad 0)] al (fun a7 => ((a7 0 46) = 0 → vcX11_count_139 G  ad ln p1 K176 post (0 : Int32) a7) ∧ (¬ (a7 0 46) = 0 → zMi G yX11_leastByCircles wsX11_leastByCircles rmX11_leastByCircles zTR ad ln [.ref (ad 0)] a7 (fun q9 a9 => vcX11_count_139 G  ad ln p1 K176 post q9 a9)))) ∧ (¬ p1 = (5 : Int32) → (p1 = (6 : Int32) → post (al 0 33) al) ∧ (¬ p1 = (6 : Int32) → (p1 = (7 : Int32) → (s0 = 0 → vcX11_count_157 G  ad ln p1 K176 post (0 : Int32) al) ∧ (¬ s0 = 0 → vcX11_count_157 G  ad ln p1 K176 post (al 0 35) al)) ∧ (¬ p1 = (7 : Int32) → (p1 = (8 : Int32) → (s0 = 0 → vcX11_count_170 G  ad ln p1 K176 post (0 : Int32) al) ∧ (¬ s0 = 0 → vcX11_count_170 G  ad ln p1 K176 post (al 0 34) al)) ∧ (¬ p1 = (8 : Int32) → (p1 = (9 : Int32) → K176 s0 (0 : Int32) (0 : Int32) al) ∧ (¬ p1 = (9 : Int32) → (p1 = (10 : Int32) → (s0 = 0 → vcX11_count_221 G  ad ln p1 K176 post (0 : Int32) al) ∧ (¬ s0 = 0 → vcX11_count_221 G  ad ln p1 K176 post (al 0 40) al)) ∧ (¬ p1 = (10 : Int32) → (p1 = (11 : Int32) → (s0 = 0 → vcX11_count_234 G  ad ln p1 K176 post (0 : Int32) al) ∧ (¬ s0 = 0 → vcX11_count_234 G  ad ln p1 K176 post (al 0 41) al)) ∧ (¬ p1 = (11 : Int32) → zMi G yX11_no wsX11_no rmX11_no zTR ad ln [.ref (ad 0), .int (1 : Int32)] al (fun q14 a14 => post q14 a14)))))))))))))
def vcX11_count_0 (G : zG)  (ad ln : Nat → Nat) (p1 : Int32) (K176 : Int32 → Int32 → Int32 → (Nat → Nat → Int32) → Prop) (post : Int32 → (Nat → Nat → Int32) → Prop) (al : Nat → Nat → Int32) : Prop :=
  ((al 0 33) ≤ 0 → vcX11_count_17 G  ad ln p1 K176 post (0 : Int32) (up2 al 0 50 (0 : Int32))) ∧ (¬ (al 0 33) ≤ 0 → vcX11_count_17 G  ad ln p1 K176 post (1 : Int32) (up2 al 0 50 (0 : Int32)))
def vcX11_count_207 (G : zG)  (ad ln : Nat → Nat) (p1 : Int32) (K176 : Int32 → Int32 → Int32 → (Nat → Nat → Int32) → Prop) (post : Int32 → (Nat → Nat → Int32) → Prop) (x3 : Int32) (al : Nat → Nat → Int32) : Prop :=
  post x3 al
def vcX11_count_176 (G : zG)  (ad ln : Nat → Nat) (p1 : Int32) (K176 : Int32 → Int32 → Int32 → (Nat → Nat → Int32) → Prop) (post : Int32 → (Nat → Nat → Int32) → Prop) (x2 x3 x4 : Int32) (al : Nat → Nat → Int32) : Prop :=
  (x2 = 0 → vcX11_count_207 G  ad ln p1 K176 post x3 al) ∧ (¬ x2 = 0 → ((al 0 9) ≤ x4 → vcX11_count_207 G  ad ln p1 K176 post x3 al) ∧ (¬ (al 0 9) ≤ x4 → (vp_in x4 48 ∧ K176 x2 (if x3 < (al 17 x4.toNatClampNeg) then (al 17 x4.toNatClampNeg) else x3) (x4 + (1 : Int32)) al)))
set_option maxRecDepth 20000 in
theorem tX11_count_119 {G : zG} {Z : zC}  {ad ln : Nat → Nat} (X : zX G Z cX11_count 5 RX11 wsX11_count) (p1 : Int32) {K176 : Int32 → Int32 → Int32 → (Nat → Nat → Int32) → Prop} {post : Int32 → (Nat → Nat → Int32) → Prop} (hR : zRi G Z rmX11_count 5 zTR ad ln cX11_count .int post) (hK176 : ∀ x2 x3 x4 : Int32, ∀ al, K176 x2 x3 x4 al → zB G Z rmX11_count 5 zTR ad ln 0 0 176 [(0, .ref (ad 0)), (2, .int x2), (3, .int x3), (4, .int x4)] [] al) (s0 : Int32) (al : Nat → Nat → Int32) (h : vcX11_count_119 G  ad ln p1 K176 post s0 al) : zB G Z rmX11_count 5 zTR ad ln 0 0 119 [] [.int s0] al := by
  unfold vcX11_count_119 at h
  exact hR 119 _ _ _ dX11_count_119 rfl h
set_option maxRecDepth 20000 in
theorem tX11_count_139 {G : zG} {Z : zC}  {ad ln : Nat → Nat} (X : zX G Z cX11_count 5 RX11 wsX11_count) (p1 : Int32) {K176 : Int32 → Int32 → Int32 → (Nat → Nat → Int32) → Prop} {post : Int32 → (Nat → Nat → Int32) → Prop} (hR : zRi G Z rmX11_count 5 zTR ad ln cX11_count .int post) (hK176 : ∀ x2 x3 x4 : Int32, ∀ al, K176 x2 x3 x4 al → zB G Z rmX11_count 5 zTR ad ln 0 0 176 [(0, .ref (ad 0)), (2, .int x2), (3, .int x3), (4, .int x4)] [] al) (s0 : Int32) (al : Nat → Nat → Int32) (h : vcX11_count_139 G  ad ln p1 K176 post s0 al) : zB G Z rmX11_count 5 zTR ad ln 0 0 139 [] [.int s0] al := by
  unfold vcX11_count_139 at h
  exact hR 139 _ _ _ dX11_count_139 rfl h
set_option maxRecDepth 20000 in
theorem tX11_count_157 {G : zG} {Z : zC}  {ad ln : Nat → Nat} (X : zX G Z cX11_count 5 RX11 wsX11_count) (p1 : Int32) {K176 : Int32 → Int32 → Int32 → (Nat → Nat → Int32) → Prop} {post : Int32 → (Nat → Nat → Int32) → Prop} (hR : zRi G Z rmX11_count 5 zTR ad ln cX11_count .int post) (hK176 : ∀ x2 x3 x4 : Int32, ∀ al, K176 x2 x3 x4 al → zB G Z rmX11_count 5 zTR ad ln 0 0 176 [(0, .ref (ad 0)), (2, .int x2), (3, .int x3), (4, .int x4)] [] al) (s0 : Int32) (al : Nat → Nat → Int32) (h : vcX11_count_157 G  ad ln p1 K176 post s0 al) : zB G Z rmX11_count 5 zTR ad ln 0 0 157 [] [.int s0] al := by
  unfold vcX11_count_157 at h
  exact hR 157 _ _ _ dX11_count_157 rfl h
set_option maxRecDepth 20000 in
theorem tX11_count_170 {G : zG} {Z : zC}  {ad ln : Nat → Nat} (X : zX G Z cX11_count 5 RX11 wsX11_count) (p1 : Int32) {K176 : Int32 → Int32 → Int32 → (Nat → Nat → Int32) → Prop} {post : Int32 → (Nat → Nat → Int32) → Prop} (hR : zRi G Z rmX11_count 5 zTR ad ln cX11_count .int post) (hK176 : ∀ x2 x3 x4 : Int32, ∀ al, K176 x2 x3 x4 al → zB G Z rmX11_count 5 zTR ad ln 0 0 176 [(0, .ref (ad 0)), (2, .int x2), (3, .int x3), (4, .int x4)] [] al) (s0 : Int32) (al : Nat → Nat → Int32) (h : vcX11_count_170 G  ad ln p1 K176 post s0 al) : zB G Z rmX11_count 5 zTR ad ln 0 0 170 [] [.int s0] al := by
  unfold vcX11_count_170 at h
  exact hR 170 _ _ _ dX11_count_170 rfl h
set_option maxRecDepth 20000 in
theorem tX11_count_221 {G : zG} {Z : zC}  {ad ln : Nat → Nat} (X : zX G Z cX11_count 5 RX11 wsX11_count) (p1 : Int32) {K176 : Int32 → Int32 → Int32 → (Nat → Nat → Int32) → Prop} {post : Int32 → (Nat → Nat → Int32) → Prop} (hR : zRi G Z rmX11_count 5 zTR ad ln cX11_count .int post) (hK176 : ∀ x2 x3 x4 : Int32, ∀ al, K176 x2 x3 x4 al → zB G Z rmX11_count 5 zTR ad ln 0 0 176 [(0, .ref (ad 0)), (2, .int x2), (3, .int x3), (4, .int x4)] [] al) (s0 : Int32) (al : Nat → Nat → Int32) (h : vcX11_count_221 G  ad ln p1 K176 post s0 al) : zB G Z rmX11_count 5 zTR ad ln 0 0 221 [] [.int s0] al := by
  unfold vcX11_count_221 at h
  exact hR 221 _ _ _ dX11_count_221 rfl h
set_option maxRecDepth 20000 in
theorem tX11_count_234 {G : zG} {Z : zC}  {ad ln : Nat → Nat} (X : zX G Z cX11_count 5 RX11 wsX11_count) (p1 : Int32) {K176 : Int32 → Int32 → Int32 → (Nat → Nat → Int32) → Prop} {post : Int32 → (Nat → Nat → Int32) → Prop} (hR : zRi G Z rmX11_count 5 zTR ad ln cX11_count .int post) (hK176 : ∀ x2 x3 x4 : Int32, ∀ al, K176 x2 x3 x4 al → zB G Z rmX11_count 5 zTR ad ln 0 0 176 [(0, .ref (ad 0)), (2, .int x2), (3, .int x3), (4, .int x4)] [] al) (s0 : Int32) (al : Nat → Nat → Int32) (h : vcX11_count_234 G  ad ln p1 K176 post s0 al) : zB G Z rmX11_count 5 zTR ad ln 0 0 234 [] [.int s0] al := by
  unfold vcX11_count_234 at h
  exact hR 234 _ _ _ dX11_count_234 rfl h
set_option maxRecDepth 20000 in
theorem tX11_count_17 {G : zG} {Z : zC}  {ad ln : Nat → Nat} (X : zX G Z cX11_count 5 RX11 wsX11_count) (p1 : Int32) {K176 : Int32 → Int32 → Int32 → (Nat → Nat → Int32) → Prop} {post : Int32 → (Nat → Nat → Int32) → Prop} (hR : zRi G Z rmX11_count 5 zTR ad ln cX11_count .int post) (hK176 : ∀ x2 x3 x4 : Int32, ∀ al, K176 x2 x3 x4 al → zB G Z rmX11_count 5 zTR ad ln 0 0 176 [(0, .ref (ad 0)), (2, .int x2), (3, .int x3), (4, .int x4)] [] al) (s0 : Int32) (al : Nat → Nat → Int32) (h : vcX11_count_17 G  ad ln p1 K176 post s0 al) : zB G Z rmX11_count 5 zTR ad ln 0 0 17 [(0, .ref (ad 0)), (1, .int p1)] [.int s0] al := by
  unfold vcX11_count_17 at h
  refine zb_istore_n X (lv' := [(2, .int s0), (0, .ref (ad 0)), (1, .int p1)]) dX11_count_17 rfl (by decide) rfl ?_
  refine zb_iload_n X dX11_count_18 rfl 2 rfl ?_
  by_cases c1 : p1 = (0 : Int32)
  · have h := h.1 c1
    refine zb_tabIn X 80 dX11_count_19 (by rw [c1]; decide) (by rw [c1]; decide) (by rw [c1]; rfl) (by decide) ?_
    refine zb_aload_n X dX11_count_80 rfl 1 rfl ?_
    refine zb_getI X 0 (by decide) 11 [3, 4, 5, 6, 7, 8, 9, 10, 11, 0, 12, 0, 0, 0, 0, 0, 0, 0, 0, 0, 0, 0, 0, 13, 14, 15, 16, 17, 0, 18, 19, 20, 21, 0, 0, 0, 22, 23, 24, 25, 0, 0, 26, 27, 28, 29, 0, 0, 0, 30, 0] rfl (C := RX11) (Tt := TX11) (N := 51) rfl kX11_count_1 9 (by decide) rfl kX11_count_3 rfl dX11_count_81 (al 0 9) rfl ?_
    exact hR 84 _ _ _ dX11_count_84 rfl h
  have h := h.2 c1
  by_cases c2 : p1 = (1 : Int32)
  · have h := h.1 c2
    refine zb_tabIn X 85 dX11_count_19 (by rw [c2]; decide) (by rw [c2]; decide) (by rw [c2]; rfl) (by decide) ?_
    refine zb_aload_n X dX11_count_85 rfl 1 rfl ?_
    refine zb_getI X 0 (by decide) 11 [3, 4, 5, 6, 7, 8, 9, 10, 11, 0, 12, 0, 0, 0, 0, 0, 0, 0, 0, 0, 0, 0, 0, 13, 14, 15, 16, 17, 0, 18, 19, 20, 21, 0, 0, 0, 22, 23, 24, 25, 0, 0, 26, 27, 28, 29, 0, 0, 0, 30, 0] rfl (C := RX11) (Tt := TX11) (N := 51) rfl kX11_count_1 48 (by decide) rfl kX11_count_4 rfl dX11_count_86 (al 0 48) rfl ?_
    exact hR 89 _ _ _ dX11_count_89 rfl h
  have h := h.2 c2
  by_cases c3 : p1 = (2 : Int32)
  · have h := h.1 c3
    refine zb_tabIn X 90 dX11_count_19 (by rw [c3]; decide) (by rw [c3]; decide) (by rw [c3]; rfl) (by decide) ?_
    refine zb_aload_n X dX11_count_90 rfl 1 rfl ?_
    refine zb_getI X 0 (by decide) 11 [3, 4, 5, 6, 7, 8, 9, 10, 11, 0, 12, 0, 0, 0, 0, 0, 0, 0, 0, 0, 0, 0, 0, 13, 14, 15, 16, 17, 0, 18, 19, 20, 21, 0, 0, 0, 22, 23, 24, 25, 0, 0, 26, 27, 28, 29, 0, 0, 0, 30, 0] rfl (C := RX11) (Tt := TX11) (N := 51) rfl kX11_count_1 11 (by decide) rfl kX11_count_5 rfl dX11_count_91 (al 0 11) rfl ?_
    exact hR 94 _ _ _ dX11_count_94 rfl h
  have h := h.2 c3
  by_cases c4 : p1 = (3 : Int32)
  · have h := h.1 c4
    refine zb_tabIn X 95 dX11_count_19 (by rw [c4]; decide) (by rw [c4]; decide) (by rw [c4]; rfl) (by decide) ?_
    refine zb_aload_n X dX11_count_95 rfl 1 rfl ?_
    refine zb_callVv (n := 0) X 0 (by decide) 11 [3, 4, 5, 6, 7, 8, 9, 10, 11, 0, 12, 0, 0, 0, 0, 0, 0, 0, 0, 0, 0, 0, 0, 13, 14, 15, 16, 17, 0, 18, 19, 20, 21, 0, 0, 0, 22, 23, 24, 25, 0, 0, 26, 27, 28, 29, 0, 0, 0, 30, 0] rfl (C := RX11) (Tt := TX11) (N := 51) rfl h gX11_count_X11_findWaits rfl (by decide +kernel) (by decide) rfl rfl (Nat.le_of_ble_eq_true rfl) dX11_count_96 (kc' := 0) (ks' := 0) rfl rfl (fun a5 h => ?_)
    refine zb_aload_n X dX11_count_99 rfl 1 rfl ?_
    refine zb_getI X 0 (by decide) 11 [3, 4, 5, 6, 7, 8, 9, 10, 11, 0, 12, 0, 0, 0, 0, 0, 0, 0, 0, 0, 0, 0, 0, 13, 14, 15, 16, 17, 0, 18, 19, 20, 21, 0, 0, 0, 22, 23, 24, 25, 0, 0, 26, 27, 28, 29, 0, 0, 0, 30, 0] rfl (C := RX11) (Tt := TX11) (N := 51) rfl kX11_count_1 28 (by decide) rfl kX11_count_6 rfl dX11_count_100 (a5 0 28) rfl ?_
    exact hR 103 _ _ _ dX11_count_103 rfl h
  have h := h.2 c4
  by_cases c5 : p1 = (4 : Int32)
  · have h := h.1 c5
    refine zb_tabIn X 104 dX11_count_19 (by rw [c5]; decide) (by rw [c5]; decide) (by rw [c5]; rfl) (by decide) ?_
    refine zb_aload_n X dX11_count_104 rfl 1 rfl ?_
    refine zb_getI X 0 (by decide) 11 [3, 4, 5, 6, 7, 8, 9, 10, 11, 0, 12, 0, 0, 0, 0, 0, 0, 0, 0, 0, 0, 0, 0, 13, 14, 15, 16, 17, 0, 18, 19, 20, 21, 0, 0, 0, 22, 23, 24, 25, 0, 0, 26, 27, 28, 29, 0, 0, 0, 30, 0] rfl (C := RX11) (Tt := TX11) (N := 51) rfl kX11_count_1 46 (by decide) rfl kX11_count_7 rfl dX11_count_105 (al 0 46) rfl ?_
    refine zb_if_eq X 118 dX11_count_108 (by decide) (fun c6 => ?_) (fun c6 => ?_)
    · have h := h.1 c6
      refine zb_iconst X (0 : Int32) dX11_count_118 (by decide) ?_
      refine zb_sub [] rfl ?_
      exact tX11_count_119 X p1 hR hK176 (0 : Int32) al h
    · have h := h.2 c6
      refine zb_aload_n X dX11_count_111 rfl 1 rfl ?_
      refine zb_callVi (n := 0) X 0 (by decide) 11 [3, 4, 5, 6, 7, 8, 9, 10, 11, 0, 12, 0, 0, 0, 0, 0, 0, 0, 0, 0, 0, 0, 0, 13, 14, 15, 16, 17, 0, 18, 19, 20, 21, 0, 0, 0, 22, 23, 24, 25, 0, 0, 26, 27, 28, 29, 0, 0, 0, 30, 0] rfl (C := RX11) (Tt := TX11) (N := 51) rfl h gX11_count_X11_leastByUnits rfl (by decide +kernel) (by decide) rfl rfl (Nat.le_of_ble_eq_true rfl) dX11_count_112 (kc' := 0) (ks' := 0) rfl rfl (fun q7 a7 h => ?_)
      refine zb_goto X 119 dX11_count_115 (by decide) ?_
      refine zb_sub [] rfl ?_
      exact tX11_count_119 X p1 hR hK176 q7 a7 h
  have h := h.2 c5
  by_cases c6 : p1 = (5 : Int32)
  · have h := h.1 c6
    refine zb_tabIn X 120 dX11_count_19 (by rw [c6]; decide) (by rw [c6]; decide) (by rw [c6]; rfl) (by decide) ?_
    refine zb_aload_n X dX11_count_120 rfl 1 rfl ?_
    refine zb_callVv (n := 0) X 0 (by decide) 11 [3, 4, 5, 6, 7, 8, 9, 10, 11, 0, 12, 0, 0, 0, 0, 0, 0, 0, 0, 0, 0, 0, 0, 13, 14, 15, 16, 17, 0, 18, 19, 20, 21, 0, 0, 0, 22, 23, 24, 25, 0, 0, 26, 27, 28, 29, 0, 0, 0, 30, 0] rfl (C := RX11) (Tt := TX11) (N := 51) rfl h gX11_count_X11_findWaits rfl (by decide +kernel) (by decide) rfl rfl (Nat.le_of_ble_eq_true rfl) dX11_count_121 (kc' := 0) (ks' := 0) rfl rfl (fun a7 h => ?_)
    refine zb_aload_n X dX11_count_124 rfl 1 rfl ?_
    refine zb_getI X 0 (by decide) 11 [3, 4, 5, 6, 7, 8, 9, 10, 11, 0, 12, 0, 0, 0, 0, 0, 0, 0, 0, 0, 0, 0, 0, 13, 14, 15, 16, 17, 0, 18, 19, 20, 21, 0, 0, 0, 22, 23, 24, 25, 0, 0, 26, 27, 28, 29, 0, 0, 0, 30, 0] rfl (C := RX11) (Tt := TX11) (N := 51) rfl kX11_count_1 46 (by decide) rfl kX11_count_7 rfl dX11_count_125 (a7 0 46) rfl ?_
    refine zb_if_eq X 138 dX11_count_128 (by decide) (fun c8 => ?_) (fun c8 => ?_)
    · have h := h.1 c8
      refine zb_iconst X (0 : Int32) dX11_count_138 (by decide) ?_
      refine zb_sub [] rfl ?_
      exact tX11_count_139 X p1 hR hK176 (0 : Int32) a7 h
    · have h := h.2 c8
      refine zb_aload_n X dX11_count_131 rfl 1 rfl ?_
      refine zb_callVi (n := 0) X 0 (by decide) 11 [3, 4, 5, 6, 7, 8, 9, 10, 11, 0, 12, 0, 0, 0, 0, 0, 0, 0, 0, 0, 0, 0, 0, 13, 14, 15, 16, 17, 0, 18, 19, 20, 21, 0, 0, 0, 22, 23, 24, 25, 0, 0, 26, 27, 28, 29, 0, 0, 0, 30, 0] rfl (C := RX11) (Tt := TX11) (N := 51) rfl h gX11_count_X11_leastByCircles rfl (by decide +kernel) (by decide) rfl rfl (Nat.le_of_ble_eq_true rfl) dX11_count_132 (kc' := 0) (ks' := 0) rfl rfl (fun q9 a9 h => ?_)
      refine zb_goto X 139 dX11_count_135 (by decide) ?_
      refine zb_sub [] rfl ?_
      exact tX11_count_139 X p1 hR hK176 q9 a9 h
  have h := h.2 c6
  by_cases c7 : p1 = (6 : Int32)
  · have h := h.1 c7
    refine zb_tabIn X 140 dX11_count_19 (by rw [c7]; decide) (by rw [c7]; decide) (by rw [c7]; rfl) (by decide) ?_
    refine zb_aload_n X dX11_count_140 rfl 1 rfl ?_
    refine zb_getI X 0 (by decide) 11 [3, 4, 5, 6, 7, 8, 9, 10, 11, 0, 12, 0, 0, 0, 0, 0, 0, 0, 0, 0, 0, 0, 0, 13, 14, 15, 16, 17, 0, 18, 19, 20, 21, 0, 0, 0, 22, 23, 24, 25, 0, 0, 26, 27, 28, 29, 0, 0, 0, 30, 0] rfl (C := RX11) (Tt := TX11) (N := 51) rfl kX11_count_1 33 (by decide) rfl kX11_count_2 rfl dX11_count_141 (al 0 33) rfl ?_
    exact hR 144 _ _ _ dX11_count_144 rfl h
  have h := h.2 c7
  by_cases c8 : p1 = (7 : Int32)
  · have h := h.1 c8
    refine zb_tabIn X 145 dX11_count_19 (by rw [c8]; decide) (by rw [c8]; decide) (by rw [c8]; rfl) (by decide) ?_
    refine zb_iload_n X dX11_count_145 rfl 0 rfl ?_
    refine zb_if_eq X 156 dX11_count_146 (by decide) (fun c9 => ?_) (fun c9 => ?_)
    · have h := h.1 c9
      refine zb_iconst X (0 : Int32) dX11_count_156 (by decide) ?_
      refine zb_sub [] rfl ?_
      exact tX11_count_157 X p1 hR hK176 (0 : Int32) al h
    · have h := h.2 c9
      refine zb_aload_n X dX11_count_149 rfl 1 rfl ?_
      refine zb_getI X 0 (by decide) 11 [3, 4, 5, 6, 7, 8, 9, 10, 11, 0, 12, 0, 0, 0, 0, 0, 0, 0, 0, 0, 0, 0, 0, 13, 14, 15, 16, 17, 0, 18, 19, 20, 21, 0, 0, 0, 22, 23, 24, 25, 0, 0, 26, 27, 28, 29, 0, 0, 0, 30, 0] rfl (C := RX11) (Tt := TX11) (N := 51) rfl kX11_count_1 35 (by decide) rfl kX11_count_8 rfl dX11_count_150 (al 0 35) rfl ?_
      refine zb_goto X 157 dX11_count_153 (by decide) ?_
      refine zb_sub [] rfl ?_
      exact tX11_count_157 X p1 hR hK176 (al 0 35) al h
  have h := h.2 c8
  by_cases c9 : p1 = (8 : Int32)
  · have h := h.1 c9
    refine zb_tabIn X 158 dX11_count_19 (by rw [c9]; decide) (by rw [c9]; decide) (by rw [c9]; rfl) (by decide) ?_
    refine zb_iload_n X dX11_count_158 rfl 0 rfl ?_
    refine zb_if_eq X 169 dX11_count_159 (by decide) (fun c10 => ?_) (fun c10 => ?_)
    · have h := h.1 c10
      refine zb_iconst X (0 : Int32) dX11_count_169 (by decide) ?_
      refine zb_sub [] rfl ?_
      exact tX11_count_170 X p1 hR hK176 (0 : Int32) al h
    · have h := h.2 c10
      refine zb_aload_n X dX11_count_162 rfl 1 rfl ?_
      refine zb_getI X 0 (by decide) 11 [3, 4, 5, 6, 7, 8, 9, 10, 11, 0, 12, 0, 0, 0, 0, 0, 0, 0, 0, 0, 0, 0, 0, 13, 14, 15, 16, 17, 0, 18, 19, 20, 21, 0, 0, 0, 22, 23, 24, 25, 0, 0, 26, 27, 28, 29, 0, 0, 0, 30, 0] rfl (C := RX11) (Tt := TX11) (N := 51) rfl kX11_count_1 34 (by decide) rfl kX11_count_9 rfl dX11_count_163 (al 0 34) rfl ?_
      refine zb_goto X 170 dX11_count_166 (by decide) ?_
      refine zb_sub [] rfl ?_
      exact tX11_count_170 X p1 hR hK176 (al 0 34) al h
  have h := h.2 c9
  by_cases c10 : p1 = (9 : Int32)
  · have h := h.1 c10
    refine zb_tabIn X 171 dX11_count_19 (by rw [c10]; decide) (by rw [c10]; decide) (by rw [c10]; rfl) (by decide) ?_
    refine zb_iconst X (0 : Int32) dX11_count_171 (by decide) ?_
    refine zb_istore_n X (lv' := [(3, .int (0 : Int32)), (2, .int s0), (0, .ref (ad 0)), (1, .int p1)]) dX11_count_172 rfl (by decide) rfl ?_
    refine zb_iconst X (0 : Int32) dX11_count_173 (by decide) ?_
    refine zb_istore X (lv' := [(4, .int (0 : Int32)), (3, .int (0 : Int32)), (2, .int s0), (0, .ref (ad 0)), (1, .int p1)]) dX11_count_174 (by decide) rfl ?_
    refine zb_sub [3, 2, 1, 0] rfl ?_
    exact hK176 s0 (0 : Int32) (0 : Int32) al h
  have h := h.2 c10
  by_cases c11 : p1 = (10 : Int32)
  · have h := h.1 c11
    refine zb_tabIn X 209 dX11_count_19 (by rw [c11]; decide) (by rw [c11]; decide) (by rw [c11]; rfl) (by decide) ?_
    refine zb_iload_n X dX11_count_209 rfl 0 rfl ?_
    refine zb_if_eq X 220 dX11_count_210 (by decide) (fun c12 => ?_) (fun c12 => ?_)
    · have h := h.1 c12
      refine zb_iconst X (0 : Int32) dX11_count_220 (by decide) ?_
      refine zb_sub [] rfl ?_
      exact tX11_count_221 X p1 hR hK176 (0 : Int32) al h
    · have h := h.2 c12
      refine zb_aload_n X dX11_count_213 rfl 1 rfl ?_
      refine zb_getI X 0 (by decide) 11 [3, 4, 5, 6, 7, 8, 9, 10, 11, 0, 12, 0, 0, 0, 0, 0, 0, 0, 0, 0, 0, 0, 0, 13, 14, 15, 16, 17, 0, 18, 19, 20, 21, 0, 0, 0, 22, 23, 24, 25, 0, 0, 26, 27, 28, 29, 0, 0, 0, 30, 0] rfl (C := RX11) (Tt := TX11) (N := 51) rfl kX11_count_1 40 (by decide) rfl kX11_count_10 rfl dX11_count_214 (al 0 40) rfl ?_
      refine zb_goto X 221 dX11_count_217 (by decide) ?_
      refine zb_sub [] rfl ?_
      exact tX11_count_221 X p1 hR hK176 (al 0 40) al h
  have h := h.2 c11
  by_cases c12 : p1 = (11 : Int32)
  · have h := h.1 c12
    refine zb_tabIn X 222 dX11_count_19 (by rw [c12]; decide) (by rw [c12]; decide) (by rw [c12]; rfl) (by decide) ?_
    refine zb_iload_n X dX11_count_222 rfl 0 rfl ?_
    refine zb_if_eq X 233 dX11_count_223 (by decide) (fun c13 => ?_) (fun c13 => ?_)
    · have h := h.1 c13
      refine zb_iconst X (0 : Int32) dX11_count_233 (by decide) ?_
      refine zb_sub [] rfl ?_
      exact tX11_count_234 X p1 hR hK176 (0 : Int32) al h
    · have h := h.2 c13
      refine zb_aload_n X dX11_count_226 rfl 1 rfl ?_
      refine zb_getI X 0 (by decide) 11 [3, 4, 5, 6, 7, 8, 9, 10, 11, 0, 12, 0, 0, 0, 0, 0, 0, 0, 0, 0, 0, 0, 0, 13, 14, 15, 16, 17, 0, 18, 19, 20, 21, 0, 0, 0, 22, 23, 24, 25, 0, 0, 26, 27, 28, 29, 0, 0, 0, 30, 0] rfl (C := RX11) (Tt := TX11) (N := 51) rfl kX11_count_1 41 (by decide) rfl kX11_count_11 rfl dX11_count_227 (al 0 41) rfl ?_
      refine zb_goto X 234 dX11_count_230 (by decide) ?_
      refine zb_sub [] rfl ?_
      exact tX11_count_234 X p1 hR hK176 (al 0 41) al h
  have h := h.2 c12
  refine zb_tabOut X 235 dX11_count_19 (by have e0 := zne_int c1; have e1 := zne_int c2; have e2 := zne_int c3; have e3 := zne_int c4; have e4 := zne_int c5; have e5 := zne_int c6; have e6 := zne_int c7; have e7 := zne_int c8; have e8 := zne_int c9; have e9 := zne_int c10; have e10 := zne_int c11; have e11 := zne_int c12; rw [show (0 : Int32).toInt = 0 from by decide] at e0; rw [show (1 : Int32).toInt = 1 from by decide] at e1; rw [show (2 : Int32).toInt = 2 from by decide] at e2; rw [show (3 : Int32).toInt = 3 from by decide] at e3; rw [show (4 : Int32).toInt = 4 from by decide] at e4; rw [show (5 : Int32).toInt = 5 from by decide] at e5; rw [show (6 : Int32).toInt = 6 from by decide] at e6; rw [show (7 : Int32).toInt = 7 from by decide] at e7; rw [show (8 : Int32).toInt = 8 from by decide] at e8; rw [show (9 : Int32).toInt = 9 from by decide] at e9; rw [show (10 : Int32).toInt = 10 from by decide] at e10; rw [show (11 : Int32).toInt = 11 from by decide] at e11; omega) (by decide) ?_
  refine zb_aload_n X dX11_count_235 rfl 1 rfl ?_
  refine zb_iconst X (1 : Int32) dX11_count_236 (by decide) ?_
  refine zb_callVi (n := 1) X 0 (by decide) 11 [3, 4, 5, 6, 7, 8, 9, 10, 11, 0, 12, 0, 0, 0, 0, 0, 0, 0, 0, 0, 0, 0, 0, 13, 14, 15, 16, 17, 0, 18, 19, 20, 21, 0, 0, 0, 22, 23, 24, 25, 0, 0, 26, 27, 28, 29, 0, 0, 0, 30, 0] rfl (C := RX11) (Tt := TX11) (N := 51) rfl h gX11_count_X11_no rfl (by decide +kernel) (by decide) rfl rfl (Nat.le_of_ble_eq_true rfl) dX11_count_237 (kc' := 0) (ks' := 0) rfl rfl (fun q14 a14 h => ?_)
  exact hR 240 _ _ _ dX11_count_240 rfl h
set_option maxRecDepth 20000 in
theorem tX11_count_0 {G : zG} {Z : zC}  {ad ln : Nat → Nat} (X : zX G Z cX11_count 5 RX11 wsX11_count) (p1 : Int32) {K176 : Int32 → Int32 → Int32 → (Nat → Nat → Int32) → Prop} {post : Int32 → (Nat → Nat → Int32) → Prop} (hR : zRi G Z rmX11_count 5 zTR ad ln cX11_count .int post) (hK176 : ∀ x2 x3 x4 : Int32, ∀ al, K176 x2 x3 x4 al → zB G Z rmX11_count 5 zTR ad ln 0 0 176 [(0, .ref (ad 0)), (2, .int x2), (3, .int x3), (4, .int x4)] [] al) (al : Nat → Nat → Int32) (h : vcX11_count_0 G  ad ln p1 K176 post  al) : zB G Z rmX11_count 5 zTR ad ln 0 0 0 [(0, .ref (ad 0)), (1, .int p1)] [] al := by
  unfold vcX11_count_0 at h
  refine zb_aload_n X dX11_count_0 rfl 0 rfl ?_
  refine zb_iconst X (0 : Int32) dX11_count_1 (by decide) ?_
  refine zb_putI X 0 (by decide) 11 [3, 4, 5, 6, 7, 8, 9, 10, 11, 0, 12, 0, 0, 0, 0, 0, 0, 0, 0, 0, 0, 0, 0, 13, 14, 15, 16, 17, 0, 18, 19, 20, 21, 0, 0, 0, 22, 23, 24, 25, 0, 0, 26, 27, 28, 29, 0, 0, 0, 30, 0] rfl (C := RX11) (Tt := TX11) (N := 51) rfl kX11_count_1 tyX11 tyX11_ok nmX11 50 (by decide) rfl kX11_count_0 rfl rfl rfl rfl dX11_count_2 ?_
  refine zb_aload_n X dX11_count_5 rfl 0 rfl ?_
  refine zb_getI X 0 (by decide) 11 [3, 4, 5, 6, 7, 8, 9, 10, 11, 0, 12, 0, 0, 0, 0, 0, 0, 0, 0, 0, 0, 0, 0, 13, 14, 15, 16, 17, 0, 18, 19, 20, 21, 0, 0, 0, 22, 23, 24, 25, 0, 0, 26, 27, 28, 29, 0, 0, 0, 30, 0] rfl (C := RX11) (Tt := TX11) (N := 51) rfl kX11_count_1 33 (by decide) rfl kX11_count_2 rfl dX11_count_6 (al 0 33) rfl ?_
  refine zb_if_le X 16 dX11_count_9 (by decide) (fun c1 => ?_) (fun c1 => ?_)
  · have h := h.1 c1
    refine zb_iconst X (0 : Int32) dX11_count_16 (by decide) ?_
    refine zb_sub [0, 1] rfl ?_
    exact tX11_count_17 X p1 hR hK176 (0 : Int32) (up2 al 0 50 (0 : Int32)) h
  · have h := h.2 c1
    refine zb_iconst X (1 : Int32) dX11_count_12 (by decide) ?_
    refine zb_goto X 17 dX11_count_13 (by decide) ?_
    refine zb_sub [0, 1] rfl ?_
    exact tX11_count_17 X p1 hR hK176 (1 : Int32) (up2 al 0 50 (0 : Int32)) h
set_option maxRecDepth 20000 in
theorem tX11_count_207 {G : zG} {Z : zC}  {ad ln : Nat → Nat} (X : zX G Z cX11_count 5 RX11 wsX11_count) (p1 : Int32) {K176 : Int32 → Int32 → Int32 → (Nat → Nat → Int32) → Prop} {post : Int32 → (Nat → Nat → Int32) → Prop} (hR : zRi G Z rmX11_count 5 zTR ad ln cX11_count .int post) (hK176 : ∀ x2 x3 x4 : Int32, ∀ al, K176 x2 x3 x4 al → zB G Z rmX11_count 5 zTR ad ln 0 0 176 [(0, .ref (ad 0)), (2, .int x2), (3, .int x3), (4, .int x4)] [] al) (x3 : Int32) (al : Nat → Nat → Int32) (h : vcX11_count_207 G  ad ln p1 K176 post x3 al) : zB G Z rmX11_count 5 zTR ad ln 0 0 207 [(3, .int x3)] [] al := by
  unfold vcX11_count_207 at h
  refine zb_iload_n X dX11_count_207 rfl 0 rfl ?_
  exact hR 208 _ _ _ dX11_count_208 rfl h
set_option maxRecDepth 20000 in
theorem tX11_count_176 {G : zG} {Z : zC}  {ad ln : Nat → Nat} (X : zX G Z cX11_count 5 RX11 wsX11_count) (p1 : Int32) {K176 : Int32 → Int32 → Int32 → (Nat → Nat → Int32) → Prop} {post : Int32 → (Nat → Nat → Int32) → Prop} (hR : zRi G Z rmX11_count 5 zTR ad ln cX11_count .int post) (hK176 : ∀ x2 x3 x4 : Int32, ∀ al, K176 x2 x3 x4 al → zB G Z rmX11_count 5 zTR ad ln 0 0 176 [(0, .ref (ad 0)), (2, .int x2), (3, .int x3), (4, .int x4)] [] al) (x2 x3 x4 : Int32) (al : Nat → Nat → Int32) (h : vcX11_count_176 G  ad ln p1 K176 post x2 x3 x4 al) : zB G Z rmX11_count 5 zTR ad ln 0 0 176 [(0, .ref (ad 0)), (2, .int x2), (3, .int x3), (4, .int x4)] [] al := by
  unfold vcX11_count_176 at h
  refine zb_iload_n X dX11_count_176 rfl 1 rfl ?_
  refine zb_if_eq X 207 dX11_count_177 (by decide) (fun c1 => ?_) (fun c1 => ?_)
  · have h := h.1 c1
    refine zb_sub [2] rfl ?_
    exact tX11_count_207 X p1 hR hK176 x3 al h
  · have h := h.2 c1
    refine zb_iload X dX11_count_180 3 rfl ?_
    refine zb_aload_n X dX11_count_182 rfl 0 rfl ?_
    refine zb_getI X 0 (by decide) 11 [3, 4, 5, 6, 7, 8, 9, 10, 11, 0, 12, 0, 0, 0, 0, 0, 0, 0, 0, 0, 0, 0, 0, 13, 14, 15, 16, 17, 0, 18, 19, 20, 21, 0, 0, 0, 22, 23, 24, 25, 0, 0, 26, 27, 28, 29, 0, 0, 0, 30, 0] rfl (C := RX11) (Tt := TX11) (N := 51) rfl kX11_count_1 9 (by decide) rfl kX11_count_3 rfl dX11_count_183 (al 0 9) rfl ?_
    refine zb_icmp_ge X 207 dX11_count_186 (by decide) (fun c2 => ?_) (fun c2 => ?_)
    · have h := h.1 c2
      refine zb_sub [2] rfl ?_
      exact tX11_count_207 X p1 hR hK176 x3 al h
    · have h := h.2 c2
      refine zb_iload_n X dX11_count_189 rfl 2 rfl ?_
      refine zb_aload_n X dX11_count_190 rfl 0 rfl ?_
      refine zb_getR X 0 (by decide) 11 [3, 4, 5, 6, 7, 8, 9, 10, 11, 0, 12, 0, 0, 0, 0, 0, 0, 0, 0, 0, 0, 0, 0, 13, 14, 15, 16, 17, 0, 18, 19, 20, 21, 0, 0, 0, 22, 23, 24, 25, 0, 0, 26, 27, 28, 29, 0, 0, 0, 30, 0] rfl (C := RX11) (Tt := TX11) (N := 51) rfl kX11_count_1 30 (by decide) 17 rfl kX11_count_12 rfl dX11_count_191 ?_
      refine zb_iload X dX11_count_194 3 rfl ?_
      obtain ⟨hz, h⟩ := h
      refine zb_iald X 17 (by decide) 1 48 0 0 rfl (Or.inl rfl) x4.toNatClampNeg rfl hz dX11_count_196 (al 17 x4.toNatClampNeg) rfl ?_
      refine zb_mmax X kX11_count_13 kX11_count_14 kX11_count_15 kX11_count_16 ⟨⟨Nat.le_of_ble_eq_true rfl, Nat.le_of_ble_eq_true rfl⟩, Nat.le_of_ble_eq_true rfl, Nat.le_of_ble_eq_true rfl⟩ dX11_count_197 ?_
      refine zb_istore_n X (lv' := [(3, .int (if x3 < (al 17 x4.toNatClampNeg) then (al 17 x4.toNatClampNeg) else x3)), (0, .ref (ad 0)), (2, .int x2), (4, .int x4)]) dX11_count_200 rfl (by decide) rfl ?_
      refine zb_iinc X (lv' := [(4, .int (x4 + (1 : Int32))), (3, .int (if x3 < (al 17 x4.toNatClampNeg) then (al 17 x4.toNatClampNeg) else x3)), (0, .ref (ad 0)), (2, .int x2)]) (x4 + (1 : Int32)) dX11_count_201 3 rfl rfl (by decide) rfl ?_
      refine zb_goto X 176 dX11_count_204 (by decide) ?_
      refine zb_sub [2, 3, 1, 0] rfl ?_
      exact hK176 x2 (if x3 < (al 17 x4.toNatClampNeg) then (al 17 x4.toNatClampNeg) else x3) (x4 + (1 : Int32)) al h
theorem uX11_count_119 {G : zG} {Z : zC}  {ad ln : Nat → Nat} (X : zX G Z cX11_count 5 RX11 wsX11_count) (p1 : Int32) {post : Int32 → (Nat → Nat → Int32) → Prop} (hR : zRi G Z rmX11_count 5 zTR ad ln cX11_count .int post) (s0 : Int32) (al : Nat → Nat → Int32) (h : vcX11_count_119 G  ad ln p1 (BX11_count_176 G Z  ad ln p1) post s0 al) : zB G Z rmX11_count 5 zTR ad ln 0 0 119 [] [.int s0] al := tX11_count_119 X p1 hR (fun _ _ _ _ h => h) s0 al h
theorem uX11_count_139 {G : zG} {Z : zC}  {ad ln : Nat → Nat} (X : zX G Z cX11_count 5 RX11 wsX11_count) (p1 : Int32) {post : Int32 → (Nat → Nat → Int32) → Prop} (hR : zRi G Z rmX11_count 5 zTR ad ln cX11_count .int post) (s0 : Int32) (al : Nat → Nat → Int32) (h : vcX11_count_139 G  ad ln p1 (BX11_count_176 G Z  ad ln p1) post s0 al) : zB G Z rmX11_count 5 zTR ad ln 0 0 139 [] [.int s0] al := tX11_count_139 X p1 hR (fun _ _ _ _ h => h) s0 al h
theorem uX11_count_157 {G : zG} {Z : zC}  {ad ln : Nat → Nat} (X : zX G Z cX11_count 5 RX11 wsX11_count) (p1 : Int32) {post : Int32 → (Nat → Nat → Int32) → Prop} (hR : zRi G Z rmX11_count 5 zTR ad ln cX11_count .int post) (s0 : Int32) (al : Nat → Nat → Int32) (h : vcX11_count_157 G  ad ln p1 (BX11_count_176 G Z  ad ln p1) post s0 al) : zB G Z rmX11_count 5 zTR ad ln 0 0 157 [] [.int s0] al := tX11_count_157 X p1 hR (fun _ _ _ _ h => h) s0 al h
theorem uX11_count_170 {G : zG} {Z : zC}  {ad ln : Nat → Nat} (X : zX G Z cX11_count 5 RX11 wsX11_count) (p1 : Int32) {post : Int32 → (Nat → Nat → Int32) → Prop} (hR : zRi G Z rmX11_count 5 zTR ad ln cX11_count .int post) (s0 : Int32) (al : Nat → Nat → Int32) (h : vcX11_count_170 G  ad ln p1 (BX11_count_176 G Z  ad ln p1) post s0 al) : zB G Z rmX11_count 5 zTR ad ln 0 0 170 [] [.int s0] al := tX11_count_170 X p1 hR (fun _ _ _ _ h => h) s0 al h
theorem uX11_count_221 {G : zG} {Z : zC}  {ad ln : Nat → Nat} (X : zX G Z cX11_count 5 RX11 wsX11_count) (p1 : Int32) {post : Int32 → (Nat → Nat → Int32) → Prop} (hR : zRi G Z rmX11_count 5 zTR ad ln cX11_count .int post) (s0 : Int32) (al : Nat → Nat → Int32) (h : vcX11_count_221 G  ad ln p1 (BX11_count_176 G Z  ad ln p1) post s0 al) : zB G Z rmX11_count 5 zTR ad ln 0 0 221 [] [.int s0] al := tX11_count_221 X p1 hR (fun _ _ _ _ h => h) s0 al h
theorem uX11_count_234 {G : zG} {Z : zC}  {ad ln : Nat → Nat} (X : zX G Z cX11_count 5 RX11 wsX11_count) (p1 : Int32) {post : Int32 → (Nat → Nat → Int32) → Prop} (hR : zRi G Z rmX11_count 5 zTR ad ln cX11_count .int post) (s0 : Int32) (al : Nat → Nat → Int32) (h : vcX11_count_234 G  ad ln p1 (BX11_count_176 G Z  ad ln p1) post s0 al) : zB G Z rmX11_count 5 zTR ad ln 0 0 234 [] [.int s0] al := tX11_count_234 X p1 hR (fun _ _ _ _ h => h) s0 al h
theorem uX11_count_17 {G : zG} {Z : zC}  {ad ln : Nat → Nat} (X : zX G Z cX11_count 5 RX11 wsX11_count) (p1 : Int32) {post : Int32 → (Nat → Nat → Int32) → Prop} (hR : zRi G Z rmX11_count 5 zTR ad ln cX11_count .int post) (s0 : Int32) (al : Nat → Nat → Int32) (h : vcX11_count_17 G  ad ln p1 (BX11_count_176 G Z  ad ln p1) post s0 al) : zB G Z rmX11_count 5 zTR ad ln 0 0 17 [(0, .ref (ad 0)), (1, .int p1)] [.int s0] al := tX11_count_17 X p1 hR (fun _ _ _ _ h => h) s0 al h
theorem uX11_count_0 {G : zG} {Z : zC}  {ad ln : Nat → Nat} (X : zX G Z cX11_count 5 RX11 wsX11_count) (p1 : Int32) {post : Int32 → (Nat → Nat → Int32) → Prop} (hR : zRi G Z rmX11_count 5 zTR ad ln cX11_count .int post) (al : Nat → Nat → Int32) (h : vcX11_count_0 G  ad ln p1 (BX11_count_176 G Z  ad ln p1) post  al) : zB G Z rmX11_count 5 zTR ad ln 0 0 0 [(0, .ref (ad 0)), (1, .int p1)] [] al := tX11_count_0 X p1 hR (fun _ _ _ _ h => h)  al h
theorem uX11_count_207 {G : zG} {Z : zC}  {ad ln : Nat → Nat} (X : zX G Z cX11_count 5 RX11 wsX11_count) (p1 : Int32) {post : Int32 → (Nat → Nat → Int32) → Prop} (hR : zRi G Z rmX11_count 5 zTR ad ln cX11_count .int post) (x3 : Int32) (al : Nat → Nat → Int32) (h : vcX11_count_207 G  ad ln p1 (BX11_count_176 G Z  ad ln p1) post x3 al) : zB G Z rmX11_count 5 zTR ad ln 0 0 207 [(3, .int x3)] [] al := tX11_count_207 X p1 hR (fun _ _ _ _ h => h) x3 al h
theorem uX11_count_176 {G : zG} {Z : zC}  {ad ln : Nat → Nat} (X : zX G Z cX11_count 5 RX11 wsX11_count) (p1 : Int32) {post : Int32 → (Nat → Nat → Int32) → Prop} (hR : zRi G Z rmX11_count 5 zTR ad ln cX11_count .int post) (x2 x3 x4 : Int32) (al : Nat → Nat → Int32) (h : vcX11_count_176 G  ad ln p1 (BX11_count_176 G Z  ad ln p1) post x2 x3 x4 al) : zB G Z rmX11_count 5 zTR ad ln 0 0 176 [(0, .ref (ad 0)), (2, .int x2), (3, .int x3), (4, .int x4)] [] al := tX11_count_176 X p1 hR (fun _ _ _ _ h => h) x2 x3 x4 al h

abbrev rmX11_delay : Room := { frames := 3, cells := 0, slots := 0, locals := 69 }
theorem kX11_delay_0 : Cond.fieldLink RX11 308 RX11 "thrown" "I" ∈ wsX11_delay := by decide +kernel
theorem kX11_delay_1 : zIn RX11 TX11 51 wsX11_delay := by decide +kernel
theorem kX11_delay_2 : Cond.fieldLink RX11 137 RX11 "rows" "I" ∈ wsX11_delay := by decide +kernel
theorem kX11_delay_3 : Cond.fieldLink RX11 119 RX11 "waits" "I" ∈ wsX11_delay := by decide +kernel
theorem kX11_delay_4 : Cond.fieldLink RX11 122 RX11 "waitX" "[I" ∈ wsX11_delay := by decide +kernel
theorem kX11_delay_5 : Cond.fieldLink RX11 125 RX11 "waitY" "[I" ∈ wsX11_delay := by decide +kernel
theorem kX11_delay_6 : Cond.fieldLink RX11 128 RX11 "waitD" "[I" ∈ wsX11_delay := by decide +kernel
theorem kX11_delay_7 : Cond.fieldLink RX11 131 RX11 "waitDelay" "[I" ∈ wsX11_delay := by decide +kernel
abbrev BX11_delay_42 (G : zG) (Z : zC)  (ad ln : Nat → Nat) (p1 : Int32) (p2 : Int32) (p3 : Int32) (x4 : Int32) (al : Nat → Nat → Int32) : Prop := zB G Z rmX11_delay 5 zTR ad ln 0 0 42 [(0, .ref (ad 0)), (1, .int p1), (2, .int p2), (3, .int p3), (4, .int x4)] [] al
def vcX11_delay_29 (G : zG)  (ad ln : Nat → Nat) (p1 : Int32) (p2 : Int32) (p3 : Int32) (K42 : Int32 → (Nat → Nat → Int32) → Prop) (post : Int32 → (Nat → Nat → Int32) → Prop) (al : Nat → Nat → Int32) : Prop :=
  zMi G yX11_no wsX11_no rmX11_no zTR ad ln [.ref (ad 0), .int (1 : Int32)] al (fun q1 a1 => post q1 a1)
def vcX11_delay_0 (G : zG)  (ad ln : Nat → Nat) (p1 : Int32) (p2 : Int32) (p3 : Int32) (K42 : Int32 → (Nat → Nat → Int32) → Prop) (post : Int32 → (Nat → Nat → Int32) → Prop) (al : Nat → Nat → Int32) : Prop :=
  (p1 < 0 → vcX11_delay_29 G  ad ln p1 p2 p3 K42 post  (up2 al 0 50 (0 : Int32))) ∧ (¬ p1 < 0 → ((al 0 9) ≤ p1 → vcX11_delay_29 G  ad ln p1 p2 p3 K42 post  (up2 al 0 50 (0 : Int32))) ∧ (¬ (al 0 9) ≤ p1 → (p2 < 0 → vcX11_delay_29 G  ad ln p1 p2 p3 K42 post  (up2 al 0 50 (0 : Int32))) ∧ (¬ p2 < 0 → (p2 < (al 0 9) → zMv G yX11_findWaits wsX11_findWaits rmX11_findWaits zTR ad ln [.ref (ad 0)] (up2 al 0 50 (0 : Int32)) (fun a5 => K42 (0 : Int32) a5)) ∧ (¬ p2 < (al 0 9) → vcX11_delay_29 G  ad ln p1 p2 p3 K42 post  (up2 al 0 50 (0 : Int32))))))
def vcX11_delay_92 (G : zG)  (ad ln : Nat → Nat) (p1 : Int32) (p2 : Int32) (p3 : Int32) (K42 : Int32 → (Nat → Nat → Int32) → Prop) (post : Int32 → (Nat → Nat → Int32) → Prop) (x4 : Int32) (al : Nat → Nat → Int32) : Prop :=
  K42 (x4 + (1 : Int32)) al
def vcX11_delay_42 (G : zG)  (ad ln : Nat → Nat) (p1 : Int32) (p2 : Int32) (p3 : Int32) (K42 : Int32 → (Nat → Nat → Int32) → Prop) (post : Int32 → (Nat → Nat → Int32) → Prop) (x4 : Int32) (al : Nat → Nat → Int32) : Prop :=
  ((al 0 28) ≤ x4 → zMi G yX11_no wsX11_no rmX11_no zTR ad ln [.ref (ad 0), .int (2 : Int32)] al (fun q2 a2 => post q2 a2)) ∧ (¬ (al 0 28) ≤ x4 → (vp_in x4 4608 ∧ (¬ (al 12 x4.toNatClampNeg) = p1 → vcX11_delay_92 G  ad ln p1 p2 p3 K42 post x4 al) ∧ ((al 12 x4.toNatClampNeg) = p1 → (vp_in x4 4608 ∧ (¬ (al 13 x4.toNatClampNeg) = p2 → vcX11_delay_92 G  ad ln p1 p2 p3 K42 post x4 al) ∧ ((al 13 x4.toNatClampNeg) = p2 → (vp_in x4 4608 ∧ (¬ (al 14 x4.toNatClampNeg) = p3 → vcX11_delay_92 G  ad ln p1 p2 p3 K42 post x4 al) ∧ ((al 14 x4.toNatClampNeg) = p3 → (vp_in x4 4608 ∧ post (al 15 x4.toNatClampNeg) al))))))))
set_option maxRecDepth 20000 in
theorem tX11_delay_29 {G : zG} {Z : zC}  {ad ln : Nat → Nat} (X : zX G Z cX11_delay 5 RX11 wsX11_delay) (p1 : Int32) (p2 : Int32) (p3 : Int32) {K42 : Int32 → (Nat → Nat → Int32) → Prop} {post : Int32 → (Nat → Nat → Int32) → Prop} (hR : zRi G Z rmX11_delay 5 zTR ad ln cX11_delay .int post) (hK42 : ∀ x4 : Int32, ∀ al, K42 x4 al → zB G Z rmX11_delay 5 zTR ad ln 0 0 42 [(0, .ref (ad 0)), (1, .int p1), (2, .int p2), (3, .int p3), (4, .int x4)] [] al) (al : Nat → Nat → Int32) (h : vcX11_delay_29 G  ad ln p1 p2 p3 K42 post  al) : zB G Z rmX11_delay 5 zTR ad ln 0 0 29 [(0, .ref (ad 0))] [] al := by
  unfold vcX11_delay_29 at h
  refine zb_aload_n X dX11_delay_29 rfl 0 rfl ?_
  refine zb_iconst X (1 : Int32) dX11_delay_30 (by decide) ?_
  refine zb_callVi (n := 1) X 0 (by decide) 11 [3, 4, 5, 6, 7, 8, 9, 10, 11, 0, 12, 0, 0, 0, 0, 0, 0, 0, 0, 0, 0, 0, 0, 13, 14, 15, 16, 17, 0, 18, 19, 20, 21, 0, 0, 0, 22, 23, 24, 25, 0, 0, 26, 27, 28, 29, 0, 0, 0, 30, 0] rfl (C := RX11) (Tt := TX11) (N := 51) rfl h gX11_delay_X11_no rfl (by decide +kernel) (by decide) rfl rfl (Nat.le_of_ble_eq_true rfl) dX11_delay_31 (kc' := 0) (ks' := 0) rfl rfl (fun q1 a1 h => ?_)
  exact hR 34 _ _ _ dX11_delay_34 rfl h
set_option maxRecDepth 20000 in
theorem tX11_delay_0 {G : zG} {Z : zC}  {ad ln : Nat → Nat} (X : zX G Z cX11_delay 5 RX11 wsX11_delay) (p1 : Int32) (p2 : Int32) (p3 : Int32) {K42 : Int32 → (Nat → Nat → Int32) → Prop} {post : Int32 → (Nat → Nat → Int32) → Prop} (hR : zRi G Z rmX11_delay 5 zTR ad ln cX11_delay .int post) (hK42 : ∀ x4 : Int32, ∀ al, K42 x4 al → zB G Z rmX11_delay 5 zTR ad ln 0 0 42 [(0, .ref (ad 0)), (1, .int p1), (2, .int p2), (3, .int p3), (4, .int x4)] [] al) (al : Nat → Nat → Int32) (h : vcX11_delay_0 G  ad ln p1 p2 p3 K42 post  al) : zB G Z rmX11_delay 5 zTR ad ln 0 0 0 [(0, .ref (ad 0)), (1, .int p1), (2, .int p2), (3, .int p3)] [] al := by
  unfold vcX11_delay_0 at h
  refine zb_aload_n X dX11_delay_0 rfl 0 rfl ?_
  refine zb_iconst X (0 : Int32) dX11_delay_1 (by decide) ?_
  refine zb_putI X 0 (by decide) 11 [3, 4, 5, 6, 7, 8, 9, 10, 11, 0, 12, 0, 0, 0, 0, 0, 0, 0, 0, 0, 0, 0, 0, 13, 14, 15, 16, 17, 0, 18, 19, 20, 21, 0, 0, 0, 22, 23, 24, 25, 0, 0, 26, 27, 28, 29, 0, 0, 0, 30, 0] rfl (C := RX11) (Tt := TX11) (N := 51) rfl kX11_delay_1 tyX11 tyX11_ok nmX11 50 (by decide) rfl kX11_delay_0 rfl rfl rfl rfl dX11_delay_2 ?_
  refine zb_iload_n X dX11_delay_5 rfl 1 rfl ?_
  refine zb_if_lt X 29 dX11_delay_6 (by decide) (fun c1 => ?_) (fun c1 => ?_)
  · have h := h.1 c1
    refine zb_sub [0] rfl ?_
    exact tX11_delay_29 X p1 p2 p3 hR hK42  (up2 al 0 50 (0 : Int32)) h
  · have h := h.2 c1
    refine zb_iload_n X dX11_delay_9 rfl 1 rfl ?_
    refine zb_aload_n X dX11_delay_10 rfl 0 rfl ?_
    refine zb_getI X 0 (by decide) 11 [3, 4, 5, 6, 7, 8, 9, 10, 11, 0, 12, 0, 0, 0, 0, 0, 0, 0, 0, 0, 0, 0, 0, 13, 14, 15, 16, 17, 0, 18, 19, 20, 21, 0, 0, 0, 22, 23, 24, 25, 0, 0, 26, 27, 28, 29, 0, 0, 0, 30, 0] rfl (C := RX11) (Tt := TX11) (N := 51) rfl kX11_delay_1 9 (by decide) rfl kX11_delay_2 rfl dX11_delay_11 (al 0 9) rfl ?_
    refine zb_icmp_ge X 29 dX11_delay_14 (by decide) (fun c2 => ?_) (fun c2 => ?_)
    · have h := h.1 c2
      refine zb_sub [0] rfl ?_
      exact tX11_delay_29 X p1 p2 p3 hR hK42  (up2 al 0 50 (0 : Int32)) h
    · have h := h.2 c2
      refine zb_iload_n X dX11_delay_17 rfl 2 rfl ?_
      refine zb_if_lt X 29 dX11_delay_18 (by decide) (fun c3 => ?_) (fun c3 => ?_)
      · have h := h.1 c3
        refine zb_sub [0] rfl ?_
        exact tX11_delay_29 X p1 p2 p3 hR hK42  (up2 al 0 50 (0 : Int32)) h
      · have h := h.2 c3
        refine zb_iload_n X dX11_delay_21 rfl 2 rfl ?_
        refine zb_aload_n X dX11_delay_22 rfl 0 rfl ?_
        refine zb_getI X 0 (by decide) 11 [3, 4, 5, 6, 7, 8, 9, 10, 11, 0, 12, 0, 0, 0, 0, 0, 0, 0, 0, 0, 0, 0, 0, 13, 14, 15, 16, 17, 0, 18, 19, 20, 21, 0, 0, 0, 22, 23, 24, 25, 0, 0, 26, 27, 28, 29, 0, 0, 0, 30, 0] rfl (C := RX11) (Tt := TX11) (N := 51) rfl kX11_delay_1 9 (by decide) rfl kX11_delay_2 rfl dX11_delay_23 (al 0 9) rfl ?_
        refine zb_icmp_lt X 35 dX11_delay_26 (by decide) (fun c4 => ?_) (fun c4 => ?_)
        · have h := h.1 c4
          refine zb_aload_n X dX11_delay_35 rfl 0 rfl ?_
          refine zb_callVv (n := 0) X 0 (by decide) 11 [3, 4, 5, 6, 7, 8, 9, 10, 11, 0, 12, 0, 0, 0, 0, 0, 0, 0, 0, 0, 0, 0, 0, 13, 14, 15, 16, 17, 0, 18, 19, 20, 21, 0, 0, 0, 22, 23, 24, 25, 0, 0, 26, 27, 28, 29, 0, 0, 0, 30, 0] rfl (C := RX11) (Tt := TX11) (N := 51) rfl h gX11_delay_X11_findWaits rfl (by decide +kernel) (by decide) rfl rfl (Nat.le_of_ble_eq_true rfl) dX11_delay_36 (kc' := 0) (ks' := 0) rfl rfl (fun a5 h => ?_)
          refine zb_iconst X (0 : Int32) dX11_delay_39 (by decide) ?_
          refine zb_istore X (lv' := [(4, .int (0 : Int32)), (0, .ref (ad 0)), (1, .int p1), (2, .int p2), (3, .int p3)]) dX11_delay_40 (by decide) rfl ?_
          refine zb_sub [1, 2, 3, 4, 0] rfl ?_
          exact hK42 (0 : Int32) a5 h
        · have h := h.2 c4
          refine zb_sub [0] rfl ?_
          exact tX11_delay_29 X p1 p2 p3 hR hK42  (up2 al 0 50 (0 : Int32)) h
set_option maxRecDepth 20000 in
theorem tX11_delay_92 {G : zG} {Z : zC}  {ad ln : Nat → Nat} (X : zX G Z cX11_delay 5 RX11 wsX11_delay) (p1 : Int32) (p2 : Int32) (p3 : Int32) {K42 : Int32 → (Nat → Nat → Int32) → Prop} {post : Int32 → (Nat → Nat → Int32) → Prop} (hR : zRi G Z rmX11_delay 5 zTR ad ln cX11_delay .int post) (hK42 : ∀ x4 : Int32, ∀ al, K42 x4 al → zB G Z rmX11_delay 5 zTR ad ln 0 0 42 [(0, .ref (ad 0)), (1, .int p1), (2, .int p2), (3, .int p3), (4, .int x4)] [] al) (x4 : Int32) (al : Nat → Nat → Int32) (h : vcX11_delay_92 G  ad ln p1 p2 p3 K42 post x4 al) : zB G Z rmX11_delay 5 zTR ad ln 0 0 92 [(0, .ref (ad 0)), (1, .int p1), (2, .int p2), (3, .int p3), (4, .int x4)] [] al := by
  unfold vcX11_delay_92 at h
  refine zb_iinc X (lv' := [(4, .int (x4 + (1 : Int32))), (0, .ref (ad 0)), (1, .int p1), (2, .int p2), (3, .int p3)]) (x4 + (1 : Int32)) dX11_delay_92 4 rfl rfl (by decide) rfl ?_
  refine zb_goto X 42 dX11_delay_95 (by decide) ?_
  refine zb_sub [1, 2, 3, 4, 0] rfl ?_
  exact hK42 (x4 + (1 : Int32)) al h
set_option maxRecDepth 20000 in
theorem tX11_delay_42 {G : zG} {Z : zC}  {ad ln : Nat → Nat} (X : zX G Z cX11_delay 5 RX11 wsX11_delay) (p1 : Int32) (p2 : Int32) (p3 : Int32) {K42 : Int32 → (Nat → Nat → Int32) → Prop} {post : Int32 → (Nat → Nat → Int32) → Prop} (hR : zRi G Z rmX11_delay 5 zTR ad ln cX11_delay .int post) (hK42 : ∀ x4 : Int32, ∀ al, K42 x4 al → zB G Z rmX11_delay 5 zTR ad ln 0 0 42 [(0, .ref (ad 0)), (1, .int p1), (2, .int p2), (3, .int p3), (4, .int x4)] [] al) (x4 : Int32) (al : Nat → Nat → Int32) (h : vcX11_delay_42 G  ad ln p1 p2 p3 K42 post x4 al) : zB G Z rmX11_delay 5 zTR ad ln 0 0 42 [(0, .ref (ad 0)), (1, .int p1), (2, .int p2), (3, .int p3), (4, .int x4)] [] al := by
  unfold vcX11_delay_42 at h
  refine zb_iload X dX11_delay_42 4 rfl ?_
  refine zb_aload_n X dX11_delay_44 rfl 0 rfl ?_
  refine zb_getI X 0 (by decide) 11 [3, 4, 5, 6, 7, 8, 9, 10, 11, 0, 12, 0, 0, 0, 0, 0, 0, 0, 0, 0, 0, 0, 0, 13, 14, 15, 16, 17, 0, 18, 19, 20, 21, 0, 0, 0, 22, 23, 24, 25, 0, 0, 26, 27, 28, 29, 0, 0, 0, 30, 0] rfl (C := RX11) (Tt := TX11) (N := 51) rfl kX11_delay_1 28 (by decide) rfl kX11_delay_3 rfl dX11_delay_45 (al 0 28) rfl ?_
  refine zb_icmp_ge X 98 dX11_delay_48 (by decide) (fun c1 => ?_) (fun c1 => ?_)
  · have h := h.1 c1
    refine zb_aload_n X dX11_delay_98 rfl 0 rfl ?_
    refine zb_iconst X (2 : Int32) dX11_delay_99 (by decide) ?_
    refine zb_callVi (n := 1) X 0 (by decide) 11 [3, 4, 5, 6, 7, 8, 9, 10, 11, 0, 12, 0, 0, 0, 0, 0, 0, 0, 0, 0, 0, 0, 0, 13, 14, 15, 16, 17, 0, 18, 19, 20, 21, 0, 0, 0, 22, 23, 24, 25, 0, 0, 26, 27, 28, 29, 0, 0, 0, 30, 0] rfl (C := RX11) (Tt := TX11) (N := 51) rfl h gX11_delay_X11_no rfl (by decide +kernel) (by decide) rfl rfl (Nat.le_of_ble_eq_true rfl) dX11_delay_100 (kc' := 0) (ks' := 0) rfl rfl (fun q2 a2 h => ?_)
    exact hR 103 _ _ _ dX11_delay_103 rfl h
  · have h := h.2 c1
    refine zb_aload_n X dX11_delay_51 rfl 0 rfl ?_
    refine zb_getR X 0 (by decide) 11 [3, 4, 5, 6, 7, 8, 9, 10, 11, 0, 12, 0, 0, 0, 0, 0, 0, 0, 0, 0, 0, 0, 0, 13, 14, 15, 16, 17, 0, 18, 19, 20, 21, 0, 0, 0, 22, 23, 24, 25, 0, 0, 26, 27, 28, 29, 0, 0, 0, 30, 0] rfl (C := RX11) (Tt := TX11) (N := 51) rfl kX11_delay_1 24 (by decide) 12 rfl kX11_delay_4 rfl dX11_delay_52 ?_
    refine zb_iload X dX11_delay_55 4 rfl ?_
    obtain ⟨hz, h⟩ := h
    refine zb_iald X 12 (by decide) 1 4608 0 0 rfl (Or.inl rfl) x4.toNatClampNeg rfl hz dX11_delay_57 (al 12 x4.toNatClampNeg) rfl ?_
    refine zb_iload_n X dX11_delay_58 rfl 1 rfl ?_
    refine zb_icmp_ne X 92 dX11_delay_59 (by decide) (fun c2 => ?_) (fun c2 => ?_)
    · have h := h.1 c2
      refine zb_sub [0, 1, 2, 3, 4] rfl ?_
      exact tX11_delay_92 X p1 p2 p3 hR hK42 x4 al h
    · have h := h.2 c2
      refine zb_aload_n X dX11_delay_62 rfl 0 rfl ?_
      refine zb_getR X 0 (by decide) 11 [3, 4, 5, 6, 7, 8, 9, 10, 11, 0, 12, 0, 0, 0, 0, 0, 0, 0, 0, 0, 0, 0, 0, 13, 14, 15, 16, 17, 0, 18, 19, 20, 21, 0, 0, 0, 22, 23, 24, 25, 0, 0, 26, 27, 28, 29, 0, 0, 0, 30, 0] rfl (C := RX11) (Tt := TX11) (N := 51) rfl kX11_delay_1 25 (by decide) 13 rfl kX11_delay_5 rfl dX11_delay_63 ?_
      refine zb_iload X dX11_delay_66 4 rfl ?_
      obtain ⟨hz, h⟩ := h
      refine zb_iald X 13 (by decide) 1 4608 0 0 rfl (Or.inl rfl) x4.toNatClampNeg rfl hz dX11_delay_68 (al 13 x4.toNatClampNeg) rfl ?_
      refine zb_iload_n X dX11_delay_69 rfl 2 rfl ?_
      refine zb_icmp_ne X 92 dX11_delay_70 (by decide) (fun c3 => ?_) (fun c3 => ?_)
      · have h := h.1 c3
        refine zb_sub [0, 1, 2, 3, 4] rfl ?_
        exact tX11_delay_92 X p1 p2 p3 hR hK42 x4 al h
      · have h := h.2 c3
        refine zb_aload_n X dX11_delay_73 rfl 0 rfl ?_
        refine zb_getR X 0 (by decide) 11 [3, 4, 5, 6, 7, 8, 9, 10, 11, 0, 12, 0, 0, 0, 0, 0, 0, 0, 0, 0, 0, 0, 0, 13, 14, 15, 16, 17, 0, 18, 19, 20, 21, 0, 0, 0, 22, 23, 24, 25, 0, 0, 26, 27, 28, 29, 0, 0, 0, 30, 0] rfl (C := RX11) (Tt := TX11) (N := 51) rfl kX11_delay_1 26 (by decide) 14 rfl kX11_delay_6 rfl dX11_delay_74 ?_
        refine zb_iload X dX11_delay_77 4 rfl ?_
        obtain ⟨hz, h⟩ := h
        refine zb_iald X 14 (by decide) 1 4608 0 0 rfl (Or.inl rfl) x4.toNatClampNeg rfl hz dX11_delay_79 (al 14 x4.toNatClampNeg) rfl ?_
        refine zb_iload_n X dX11_delay_80 rfl 3 rfl ?_
        refine zb_icmp_ne X 92 dX11_delay_81 (by decide) (fun c4 => ?_) (fun c4 => ?_)
        · have h := h.1 c4
          refine zb_sub [0, 1, 2, 3, 4] rfl ?_
          exact tX11_delay_92 X p1 p2 p3 hR hK42 x4 al h
        · have h := h.2 c4
          refine zb_aload_n X dX11_delay_84 rfl 0 rfl ?_
          refine zb_getR X 0 (by decide) 11 [3, 4, 5, 6, 7, 8, 9, 10, 11, 0, 12, 0, 0, 0, 0, 0, 0, 0, 0, 0, 0, 0, 0, 13, 14, 15, 16, 17, 0, 18, 19, 20, 21, 0, 0, 0, 22, 23, 24, 25, 0, 0, 26, 27, 28, 29, 0, 0, 0, 30, 0] rfl (C := RX11) (Tt := TX11) (N := 51) rfl kX11_delay_1 27 (by decide) 15 rfl kX11_delay_7 rfl dX11_delay_85 ?_
          refine zb_iload X dX11_delay_88 4 rfl ?_
          obtain ⟨hz, h⟩ := h
          refine zb_iald X 15 (by decide) 1 4608 0 0 rfl (Or.inl rfl) x4.toNatClampNeg rfl hz dX11_delay_90 (al 15 x4.toNatClampNeg) rfl ?_
          exact hR 91 _ _ _ dX11_delay_91 rfl h
theorem uX11_delay_29 {G : zG} {Z : zC}  {ad ln : Nat → Nat} (X : zX G Z cX11_delay 5 RX11 wsX11_delay) (p1 : Int32) (p2 : Int32) (p3 : Int32) {post : Int32 → (Nat → Nat → Int32) → Prop} (hR : zRi G Z rmX11_delay 5 zTR ad ln cX11_delay .int post) (al : Nat → Nat → Int32) (h : vcX11_delay_29 G  ad ln p1 p2 p3 (BX11_delay_42 G Z  ad ln p1 p2 p3) post  al) : zB G Z rmX11_delay 5 zTR ad ln 0 0 29 [(0, .ref (ad 0))] [] al := tX11_delay_29 X p1 p2 p3 hR (fun _ _ h => h)  al h
theorem uX11_delay_0 {G : zG} {Z : zC}  {ad ln : Nat → Nat} (X : zX G Z cX11_delay 5 RX11 wsX11_delay) (p1 : Int32) (p2 : Int32) (p3 : Int32) {post : Int32 → (Nat → Nat → Int32) → Prop} (hR : zRi G Z rmX11_delay 5 zTR ad ln cX11_delay .int post) (al : Nat → Nat → Int32) (h : vcX11_delay_0 G  ad ln p1 p2 p3 (BX11_delay_42 G Z  ad ln p1 p2 p3) post  al) : zB G Z rmX11_delay 5 zTR ad ln 0 0 0 [(0, .ref (ad 0)), (1, .int p1), (2, .int p2), (3, .int p3)] [] al := tX11_delay_0 X p1 p2 p3 hR (fun _ _ h => h)  al h
theorem uX11_delay_92 {G : zG} {Z : zC}  {ad ln : Nat → Nat} (X : zX G Z cX11_delay 5 RX11 wsX11_delay) (p1 : Int32) (p2 : Int32) (p3 : Int32) {post : Int32 → (Nat → Nat → Int32) → Prop} (hR : zRi G Z rmX11_delay 5 zTR ad ln cX11_delay .int post) (x4 : Int32) (al : Nat → Nat → Int32) (h : vcX11_delay_92 G  ad ln p1 p2 p3 (BX11_delay_42 G Z  ad ln p1 p2 p3) post x4 al) : zB G Z rmX11_delay 5 zTR ad ln 0 0 92 [(0, .ref (ad 0)), (1, .int p1), (2, .int p2), (3, .int p3), (4, .int x4)] [] al := tX11_delay_92 X p1 p2 p3 hR (fun _ _ h => h) x4 al h
theorem uX11_delay_42 {G : zG} {Z : zC}  {ad ln : Nat → Nat} (X : zX G Z cX11_delay 5 RX11 wsX11_delay) (p1 : Int32) (p2 : Int32) (p3 : Int32) {post : Int32 → (Nat → Nat → Int32) → Prop} (hR : zRi G Z rmX11_delay 5 zTR ad ln cX11_delay .int post) (x4 : Int32) (al : Nat → Nat → Int32) (h : vcX11_delay_42 G  ad ln p1 p2 p3 (BX11_delay_42 G Z  ad ln p1 p2 p3) post x4 al) : zB G Z rmX11_delay 5 zTR ad ln 0 0 42 [(0, .ref (ad 0)), (1, .int p1), (2, .int p2), (3, .int p3), (4, .int x4)] [] al := tX11_delay_42 X p1 p2 p3 hR (fun _ _ h => h) x4 al h

abbrev rmX11_lay : Room := { frames := 7, cells := 0, slots := 0, locals := 167 }
theorem kX11_lay_0 : Cond.fieldLink RX11 308 RX11 "thrown" "I" ∈ wsX11_lay := by decide +kernel
theorem kX11_lay_1 : zIn RX11 TX11 51 wsX11_lay := by decide +kernel
theorem kX11_lay_2 : Cond.fieldLink RX11 330 RX11 "loop" "Z" ∈ wsX11_lay := by decide +kernel
theorem kX11_lay_3 : Cond.fieldLink RX11 216 RX11 "distance" "I" ∈ wsX11_lay := by decide +kernel
def vcX11_lay_0 (G : zG)  (ad ln : Nat → Nat)  (post : Int32 → (Nat → Nat → Int32) → Prop) (al : Nat → Nat → Int32) : Prop :=
  (¬ (al 0 46) = 0 → zMi G yX11_layAll wsX11_layAll rmX11_layAll zTR ad ln [.ref (ad 0)] (up2 al 0 50 (0 : Int32)) (fun q2 a2 => post (a2 0 33) a2)) ∧ ((al 0 46) = 0 → zMi G yX11_no wsX11_no rmX11_no zTR ad ln [.ref (ad 0), .int (1 : Int32)] (up2 al 0 50 (0 : Int32)) (fun q2 a2 => post q2 a2))
set_option maxRecDepth 20000 in
theorem tX11_lay_0 {G : zG} {Z : zC}  {ad ln : Nat → Nat} (X : zX G Z cX11_lay 1 RX11 wsX11_lay)  {post : Int32 → (Nat → Nat → Int32) → Prop} (hR : zRi G Z rmX11_lay 1 zTR ad ln cX11_lay .int post)  (al : Nat → Nat → Int32) (h : vcX11_lay_0 G  ad ln  post  al) : zB G Z rmX11_lay 1 zTR ad ln 0 0 0 [(0, .ref (ad 0))] [] al := by
  unfold vcX11_lay_0 at h
  refine zb_aload_n X dX11_lay_0 rfl 0 rfl ?_
  refine zb_iconst X (0 : Int32) dX11_lay_1 (by decide) ?_
  refine zb_putI X 0 (by decide) 11 [3, 4, 5, 6, 7, 8, 9, 10, 11, 0, 12, 0, 0, 0, 0, 0, 0, 0, 0, 0, 0, 0, 0, 13, 14, 15, 16, 17, 0, 18, 19, 20, 21, 0, 0, 0, 22, 23, 24, 25, 0, 0, 26, 27, 28, 29, 0, 0, 0, 30, 0] rfl (C := RX11) (Tt := TX11) (N := 51) rfl kX11_lay_1 tyX11 tyX11_ok nmX11 50 (by decide) rfl kX11_lay_0 rfl rfl rfl rfl dX11_lay_2 ?_
  refine zb_aload_n X dX11_lay_5 rfl 0 rfl ?_
  refine zb_getI X 0 (by decide) 11 [3, 4, 5, 6, 7, 8, 9, 10, 11, 0, 12, 0, 0, 0, 0, 0, 0, 0, 0, 0, 0, 0, 0, 13, 14, 15, 16, 17, 0, 18, 19, 20, 21, 0, 0, 0, 22, 23, 24, 25, 0, 0, 26, 27, 28, 29, 0, 0, 0, 30, 0] rfl (C := RX11) (Tt := TX11) (N := 51) rfl kX11_lay_1 46 (by decide) rfl kX11_lay_2 rfl dX11_lay_6 (al 0 46) rfl ?_
  refine zb_if_ne X 18 dX11_lay_9 (by decide) (fun c1 => ?_) (fun c1 => ?_)
  · have h := h.1 c1
    refine zb_aload_n X dX11_lay_18 rfl 0 rfl ?_
    refine zb_callVi (n := 0) X 0 (by decide) 11 [3, 4, 5, 6, 7, 8, 9, 10, 11, 0, 12, 0, 0, 0, 0, 0, 0, 0, 0, 0, 0, 0, 0, 13, 14, 15, 16, 17, 0, 18, 19, 20, 21, 0, 0, 0, 22, 23, 24, 25, 0, 0, 26, 27, 28, 29, 0, 0, 0, 30, 0] rfl (C := RX11) (Tt := TX11) (N := 51) rfl h gX11_lay_X11_layAll rfl (by decide +kernel) (by decide) rfl rfl (Nat.le_of_ble_eq_true rfl) dX11_lay_19 (kc' := 0) (ks' := 0) rfl rfl (fun q2 a2 h => ?_)
    refine zb_pop X dX11_lay_22 rfl ?_
    refine zb_aload_n X dX11_lay_23 rfl 0 rfl ?_
    refine zb_getI X 0 (by decide) 11 [3, 4, 5, 6, 7, 8, 9, 10, 11, 0, 12, 0, 0, 0, 0, 0, 0, 0, 0, 0, 0, 0, 0, 13, 14, 15, 16, 17, 0, 18, 19, 20, 21, 0, 0, 0, 22, 23, 24, 25, 0, 0, 26, 27, 28, 29, 0, 0, 0, 30, 0] rfl (C := RX11) (Tt := TX11) (N := 51) rfl kX11_lay_1 33 (by decide) rfl kX11_lay_3 rfl dX11_lay_24 (a2 0 33) rfl ?_
    exact hR 27 _ _ _ dX11_lay_27 rfl h
  · have h := h.2 c1
    refine zb_aload_n X dX11_lay_12 rfl 0 rfl ?_
    refine zb_iconst X (1 : Int32) dX11_lay_13 (by decide) ?_
    refine zb_callVi (n := 1) X 0 (by decide) 11 [3, 4, 5, 6, 7, 8, 9, 10, 11, 0, 12, 0, 0, 0, 0, 0, 0, 0, 0, 0, 0, 0, 0, 13, 14, 15, 16, 17, 0, 18, 19, 20, 21, 0, 0, 0, 22, 23, 24, 25, 0, 0, 26, 27, 28, 29, 0, 0, 0, 30, 0] rfl (C := RX11) (Tt := TX11) (N := 51) rfl h gX11_lay_X11_no rfl (by decide +kernel) (by decide) rfl rfl (Nat.le_of_ble_eq_true rfl) dX11_lay_14 (kc' := 0) (ks' := 0) rfl rfl (fun q2 a2 h => ?_)
    exact hR 17 _ _ _ dX11_lay_17 rfl h

abbrev rmX11_row_ : Room := { frames := 1, cells := 0, slots := 0, locals := 21 }
theorem kX11_row__0 : Cond.fieldLink RX11 308 RX11 "thrown" "I" ∈ wsX11_row_ := by decide +kernel
theorem kX11_row__1 : zIn RX11 TX11 51 wsX11_row_ := by decide +kernel
theorem kX11_row__2 : Cond.fieldLink RX11 216 RX11 "distance" "I" ∈ wsX11_row_ := by decide +kernel
theorem kX11_row__3 : Cond.fieldLink RX11 137 RX11 "rows" "I" ∈ wsX11_row_ := by decide +kernel
theorem kX11_row__4 : Cond.fieldLink RX11 189 RX11 "cycle" "[I" ∈ wsX11_row_ := by decide +kernel
theorem kX11_row__5 : Cond.fieldLink RX11 186 RX11 "height" "[I" ∈ wsX11_row_ := by decide +kernel
theorem kX11_row__6 : Cond.fieldLink RX11 243 RX11 "offset" "[I" ∈ wsX11_row_ := by decide +kernel
theorem kX11_row__7 : Cond.fieldLink RX11 234 RX11 "from" "[I" ∈ wsX11_row_ := by decide +kernel
theorem kX11_row__8 : Cond.fieldLink RX11 240 RX11 "to" "[I" ∈ wsX11_row_ := by decide +kernel
def vcX11_row__30 (G : zG)  (ad ln : Nat → Nat) (p1 : Int32) (p2 : Int32)  (post : Int32 → (Nat → Nat → Int32) → Prop) (al : Nat → Nat → Int32) : Prop :=
  zMi G yX11_no wsX11_no rmX11_no zTR ad ln [.ref (ad 0), .int (2 : Int32)] al (fun q1 a1 => post q1 a1)
def vcX11_row__0 (G : zG)  (ad ln : Nat → Nat) (p1 : Int32) (p2 : Int32)  (post : Int32 → (Nat → Nat → Int32) → Prop) (al : Nat → Nat → Int32) : Prop :=
  (¬ (al 0 33) = 0 → (p1 < 0 → vcX11_row__30 G  ad ln p1 p2  post  (up2 al 0 50 (0 : Int32))) ∧ (¬ p1 < 0 → (p1 < (al 0 9) → (p2 = (0 : Int32) → (vp_in p1 48 ∧ post (al 17 p1.toNatClampNeg) (up2 al 0 50 (0 : Int32)))) ∧ (¬ p2 = (0 : Int32) → (p2 = (1 : Int32) → (vp_in p1 48 ∧ post (al 19 p1.toNatClampNeg) (up2 al 0 50 (0 : Int32)))) ∧ (¬ p2 = (1 : Int32) → (p2 = (2 : Int32) → (vp_in p1 48 ∧ post (al 22 p1.toNatClampNeg) (up2 al 0 50 (0 : Int32)))) ∧ (¬ p2 = (2 : Int32) → (p2 = (3 : Int32) → (vp_in p1 48 ∧ post (al 20 p1.toNatClampNeg) (up2 al 0 50 (0 : Int32)))) ∧ (¬ p2 = (3 : Int32) → (p2 = (4 : Int32) → (vp_in p1 48 ∧ post (al 21 p1.toNatClampNeg) (up2 al 0 50 (0 : Int32)))) ∧ (¬ p2 = (4 : Int32) → zMi G yX11_no wsX11_no rmX11_no zTR ad ln [.ref (ad 0), .int (3 : Int32)] (up2 al 0 50 (0 : Int32)) (fun q10 a10 => post q10 a10))))))) ∧ (¬ p1 < (al 0 9) → vcX11_row__30 G  ad ln p1 p2  post  (up2 al 0 50 (0 : Int32))))) ∧ ((al 0 33) = 0 → zMi G yX11_no wsX11_no rmX11_no zTR ad ln [.ref (ad 0), .int (1 : Int32)] (up2 al 0 50 (0 : Int32)) (fun q2 a2 => post q2 a2))
set_option maxRecDepth 20000 in
theorem tX11_row__30 {G : zG} {Z : zC}  {ad ln : Nat → Nat} (X : zX G Z cX11_row_ 3 RX11 wsX11_row_) (p1 : Int32) (p2 : Int32)  {post : Int32 → (Nat → Nat → Int32) → Prop} (hR : zRi G Z rmX11_row_ 3 zTR ad ln cX11_row_ .int post)  (al : Nat → Nat → Int32) (h : vcX11_row__30 G  ad ln p1 p2  post  al) : zB G Z rmX11_row_ 3 zTR ad ln 0 0 30 [(0, .ref (ad 0))] [] al := by
  unfold vcX11_row__30 at h
  refine zb_aload_n X dX11_row__30 rfl 0 rfl ?_
  refine zb_iconst X (2 : Int32) dX11_row__31 (by decide) ?_
  refine zb_callVi (n := 1) X 0 (by decide) 11 [3, 4, 5, 6, 7, 8, 9, 10, 11, 0, 12, 0, 0, 0, 0, 0, 0, 0, 0, 0, 0, 0, 0, 13, 14, 15, 16, 17, 0, 18, 19, 20, 21, 0, 0, 0, 22, 23, 24, 25, 0, 0, 26, 27, 28, 29, 0, 0, 0, 30, 0] rfl (C := RX11) (Tt := TX11) (N := 51) rfl h gX11_row__X11_no rfl (by decide +kernel) (by decide) rfl rfl (Nat.le_of_ble_eq_true rfl) dX11_row__32 (kc' := 0) (ks' := 0) rfl rfl (fun q1 a1 h => ?_)
  exact hR 35 _ _ _ dX11_row__35 rfl h
set_option maxRecDepth 20000 in
theorem tX11_row__0 {G : zG} {Z : zC}  {ad ln : Nat → Nat} (X : zX G Z cX11_row_ 3 RX11 wsX11_row_) (p1 : Int32) (p2 : Int32)  {post : Int32 → (Nat → Nat → Int32) → Prop} (hR : zRi G Z rmX11_row_ 3 zTR ad ln cX11_row_ .int post)  (al : Nat → Nat → Int32) (h : vcX11_row__0 G  ad ln p1 p2  post  al) : zB G Z rmX11_row_ 3 zTR ad ln 0 0 0 [(0, .ref (ad 0)), (1, .int p1), (2, .int p2)] [] al := by
  unfold vcX11_row__0 at h
  refine zb_aload_n X dX11_row__0 rfl 0 rfl ?_
  refine zb_iconst X (0 : Int32) dX11_row__1 (by decide) ?_
  refine zb_putI X 0 (by decide) 11 [3, 4, 5, 6, 7, 8, 9, 10, 11, 0, 12, 0, 0, 0, 0, 0, 0, 0, 0, 0, 0, 0, 0, 13, 14, 15, 16, 17, 0, 18, 19, 20, 21, 0, 0, 0, 22, 23, 24, 25, 0, 0, 26, 27, 28, 29, 0, 0, 0, 30, 0] rfl (C := RX11) (Tt := TX11) (N := 51) rfl kX11_row__1 tyX11 tyX11_ok nmX11 50 (by decide) rfl kX11_row__0 rfl rfl rfl rfl dX11_row__2 ?_
  refine zb_aload_n X dX11_row__5 rfl 0 rfl ?_
  refine zb_getI X 0 (by decide) 11 [3, 4, 5, 6, 7, 8, 9, 10, 11, 0, 12, 0, 0, 0, 0, 0, 0, 0, 0, 0, 0, 0, 0, 13, 14, 15, 16, 17, 0, 18, 19, 20, 21, 0, 0, 0, 22, 23, 24, 25, 0, 0, 26, 27, 28, 29, 0, 0, 0, 30, 0] rfl (C := RX11) (Tt := TX11) (N := 51) rfl kX11_row__1 33 (by decide) rfl kX11_row__2 rfl dX11_row__6 (al 0 33) rfl ?_
  refine zb_if_ne X 18 dX11_row__9 (by decide) (fun c1 => ?_) (fun c1 => ?_)
  · have h := h.1 c1
    refine zb_iload_n X dX11_row__18 rfl 1 rfl ?_
    refine zb_if_lt X 30 dX11_row__19 (by decide) (fun c2 => ?_) (fun c2 => ?_)
    · have h := h.1 c2
      refine zb_sub [0] rfl ?_
      exact tX11_row__30 X p1 p2 hR   (up2 al 0 50 (0 : Int32)) h
    · have h := h.2 c2
      refine zb_iload_n X dX11_row__22 rfl 1 rfl ?_
      refine zb_aload_n X dX11_row__23 rfl 0 rfl ?_
      refine zb_getI X 0 (by decide) 11 [3, 4, 5, 6, 7, 8, 9, 10, 11, 0, 12, 0, 0, 0, 0, 0, 0, 0, 0, 0, 0, 0, 0, 13, 14, 15, 16, 17, 0, 18, 19, 20, 21, 0, 0, 0, 22, 23, 24, 25, 0, 0, 26, 27, 28, 29, 0, 0, 0, 30, 0] rfl (C := RX11) (Tt := TX11) (N := 51) rfl kX11_row__1 9 (by decide) rfl kX11_row__3 rfl dX11_row__24 (al 0 9) rfl ?_
      refine zb_icmp_lt X 36 dX11_row__27 (by decide) (fun c3 => ?_) (fun c3 => ?_)
      · have h := h.1 c3
        refine zb_iload_n X dX11_row__36 rfl 2 rfl ?_
        by_cases c4 : p2 = (0 : Int32)
        · have h := h.1 c4
          refine zb_tabIn X 72 dX11_row__37 (by rw [c4]; decide) (by rw [c4]; decide) (by rw [c4]; rfl) (by decide) ?_
          refine zb_aload_n X dX11_row__72 rfl 0 rfl ?_
          refine zb_getR X 0 (by decide) 11 [3, 4, 5, 6, 7, 8, 9, 10, 11, 0, 12, 0, 0, 0, 0, 0, 0, 0, 0, 0, 0, 0, 0, 13, 14, 15, 16, 17, 0, 18, 19, 20, 21, 0, 0, 0, 22, 23, 24, 25, 0, 0, 26, 27, 28, 29, 0, 0, 0, 30, 0] rfl (C := RX11) (Tt := TX11) (N := 51) rfl kX11_row__1 30 (by decide) 17 rfl kX11_row__4 rfl dX11_row__73 ?_
          refine zb_iload_n X dX11_row__76 rfl 1 rfl ?_
          obtain ⟨hz, h⟩ := h
          refine zb_iald X 17 (by decide) 1 48 0 0 rfl (Or.inl rfl) p1.toNatClampNeg rfl hz dX11_row__77 (al 17 p1.toNatClampNeg) rfl ?_
          exact hR 78 _ _ _ dX11_row__78 rfl h
        have h := h.2 c4
        by_cases c5 : p2 = (1 : Int32)
        · have h := h.1 c5
          refine zb_tabIn X 79 dX11_row__37 (by rw [c5]; decide) (by rw [c5]; decide) (by rw [c5]; rfl) (by decide) ?_
          refine zb_aload_n X dX11_row__79 rfl 0 rfl ?_
          refine zb_getR X 0 (by decide) 11 [3, 4, 5, 6, 7, 8, 9, 10, 11, 0, 12, 0, 0, 0, 0, 0, 0, 0, 0, 0, 0, 0, 0, 13, 14, 15, 16, 17, 0, 18, 19, 20, 21, 0, 0, 0, 22, 23, 24, 25, 0, 0, 26, 27, 28, 29, 0, 0, 0, 30, 0] rfl (C := RX11) (Tt := TX11) (N := 51) rfl kX11_row__1 32 (by decide) 19 rfl kX11_row__5 rfl dX11_row__80 ?_
          refine zb_iload_n X dX11_row__83 rfl 1 rfl ?_
          obtain ⟨hz, h⟩ := h
          refine zb_iald X 19 (by decide) 1 48 0 0 rfl (Or.inl rfl) p1.toNatClampNeg rfl hz dX11_row__84 (al 19 p1.toNatClampNeg) rfl ?_
          exact hR 85 _ _ _ dX11_row__85 rfl h
        have h := h.2 c5
        by_cases c6 : p2 = (2 : Int32)
        · have h := h.1 c6
          refine zb_tabIn X 86 dX11_row__37 (by rw [c6]; decide) (by rw [c6]; decide) (by rw [c6]; rfl) (by decide) ?_
          refine zb_aload_n X dX11_row__86 rfl 0 rfl ?_
          refine zb_getR X 0 (by decide) 11 [3, 4, 5, 6, 7, 8, 9, 10, 11, 0, 12, 0, 0, 0, 0, 0, 0, 0, 0, 0, 0, 0, 0, 13, 14, 15, 16, 17, 0, 18, 19, 20, 21, 0, 0, 0, 22, 23, 24, 25, 0, 0, 26, 27, 28, 29, 0, 0, 0, 30, 0] rfl (C := RX11) (Tt := TX11) (N := 51) rfl kX11_row__1 38 (by decide) 22 rfl kX11_row__6 rfl dX11_row__87 ?_
          refine zb_iload_n X dX11_row__90 rfl 1 rfl ?_
          obtain ⟨hz, h⟩ := h
          refine zb_iald X 22 (by decide) 1 48 0 0 rfl (Or.inl rfl) p1.toNatClampNeg rfl hz dX11_row__91 (al 22 p1.toNatClampNeg) rfl ?_
          exact hR 92 _ _ _ dX11_row__92 rfl h
        have h := h.2 c6
        by_cases c7 : p2 = (3 : Int32)
        · have h := h.1 c7
          refine zb_tabIn X 93 dX11_row__37 (by rw [c7]; decide) (by rw [c7]; decide) (by rw [c7]; rfl) (by decide) ?_
          refine zb_aload_n X dX11_row__93 rfl 0 rfl ?_
          refine zb_getR X 0 (by decide) 11 [3, 4, 5, 6, 7, 8, 9, 10, 11, 0, 12, 0, 0, 0, 0, 0, 0, 0, 0, 0, 0, 0, 0, 13, 14, 15, 16, 17, 0, 18, 19, 20, 21, 0, 0, 0, 22, 23, 24, 25, 0, 0, 26, 27, 28, 29, 0, 0, 0, 30, 0] rfl (C := RX11) (Tt := TX11) (N := 51) rfl kX11_row__1 36 (by decide) 20 rfl kX11_row__7 rfl dX11_row__94 ?_
          refine zb_iload_n X dX11_row__97 rfl 1 rfl ?_
          obtain ⟨hz, h⟩ := h
          refine zb_iald X 20 (by decide) 1 48 0 0 rfl (Or.inl rfl) p1.toNatClampNeg rfl hz dX11_row__98 (al 20 p1.toNatClampNeg) rfl ?_
          exact hR 99 _ _ _ dX11_row__99 rfl h
        have h := h.2 c7
        by_cases c8 : p2 = (4 : Int32)
        · have h := h.1 c8
          refine zb_tabIn X 100 dX11_row__37 (by rw [c8]; decide) (by rw [c8]; decide) (by rw [c8]; rfl) (by decide) ?_
          refine zb_aload_n X dX11_row__100 rfl 0 rfl ?_
          refine zb_getR X 0 (by decide) 11 [3, 4, 5, 6, 7, 8, 9, 10, 11, 0, 12, 0, 0, 0, 0, 0, 0, 0, 0, 0, 0, 0, 0, 13, 14, 15, 16, 17, 0, 18, 19, 20, 21, 0, 0, 0, 22, 23, 24, 25, 0, 0, 26, 27, 28, 29, 0, 0, 0, 30, 0] rfl (C := RX11) (Tt := TX11) (N := 51) rfl kX11_row__1 37 (by decide) 21 rfl kX11_row__8 rfl dX11_row__101 ?_
          refine zb_iload_n X dX11_row__104 rfl 1 rfl ?_
          obtain ⟨hz, h⟩ := h
          refine zb_iald X 21 (by decide) 1 48 0 0 rfl (Or.inl rfl) p1.toNatClampNeg rfl hz dX11_row__105 (al 21 p1.toNatClampNeg) rfl ?_
          exact hR 106 _ _ _ dX11_row__106 rfl h
        have h := h.2 c8
        refine zb_tabOut X 107 dX11_row__37 (by have e0 := zne_int c4; have e1 := zne_int c5; have e2 := zne_int c6; have e3 := zne_int c7; have e4 := zne_int c8; rw [show (0 : Int32).toInt = 0 from by decide] at e0; rw [show (1 : Int32).toInt = 1 from by decide] at e1; rw [show (2 : Int32).toInt = 2 from by decide] at e2; rw [show (3 : Int32).toInt = 3 from by decide] at e3; rw [show (4 : Int32).toInt = 4 from by decide] at e4; omega) (by decide) ?_
        refine zb_aload_n X dX11_row__107 rfl 0 rfl ?_
        refine zb_iconst X (3 : Int32) dX11_row__108 (by decide) ?_
        refine zb_callVi (n := 1) X 0 (by decide) 11 [3, 4, 5, 6, 7, 8, 9, 10, 11, 0, 12, 0, 0, 0, 0, 0, 0, 0, 0, 0, 0, 0, 0, 13, 14, 15, 16, 17, 0, 18, 19, 20, 21, 0, 0, 0, 22, 23, 24, 25, 0, 0, 26, 27, 28, 29, 0, 0, 0, 30, 0] rfl (C := RX11) (Tt := TX11) (N := 51) rfl h gX11_row__X11_no rfl (by decide +kernel) (by decide) rfl rfl (Nat.le_of_ble_eq_true rfl) dX11_row__109 (kc' := 0) (ks' := 0) rfl rfl (fun q10 a10 h => ?_)
        exact hR 112 _ _ _ dX11_row__112 rfl h
      · have h := h.2 c3
        refine zb_sub [0] rfl ?_
        exact tX11_row__30 X p1 p2 hR   (up2 al 0 50 (0 : Int32)) h
  · have h := h.2 c1
    refine zb_aload_n X dX11_row__12 rfl 0 rfl ?_
    refine zb_iconst X (1 : Int32) dX11_row__13 (by decide) ?_
    refine zb_callVi (n := 1) X 0 (by decide) 11 [3, 4, 5, 6, 7, 8, 9, 10, 11, 0, 12, 0, 0, 0, 0, 0, 0, 0, 0, 0, 0, 0, 0, 13, 14, 15, 16, 17, 0, 18, 19, 20, 21, 0, 0, 0, 22, 23, 24, 25, 0, 0, 26, 27, 28, 29, 0, 0, 0, 30, 0] rfl (C := RX11) (Tt := TX11) (N := 51) rfl h gX11_row__X11_no rfl (by decide +kernel) (by decide) rfl rfl (Nat.le_of_ble_eq_true rfl) dX11_row__14 (kc' := 0) (ks' := 0) rfl rfl (fun q2 a2 h => ?_)
    exact hR 17 _ _ _ dX11_row__17 rfl h

abbrev rmX11_register : Room := { frames := 1, cells := 0, slots := 0, locals := 21 }
theorem kX11_register_0 : Cond.fieldLink RX11 308 RX11 "thrown" "I" ∈ wsX11_register := by decide +kernel
theorem kX11_register_1 : zIn RX11 TX11 51 wsX11_register := by decide +kernel
theorem kX11_register_2 : Cond.fieldLink RX11 316 RX11 "ran" "Z" ∈ wsX11_register := by decide +kernel
theorem kX11_register_3 : Cond.fieldLink RX11 268 RX11 "registers" "[I" ∈ wsX11_register := by decide +kernel
def vcX11_register_42 (G : zG)  (ad ln : Nat → Nat) (p1 : Int32)  (post : Int32 → (Nat → Nat → Int32) → Prop) (s0 : Int32) (al : Nat → Nat → Int32) : Prop :=
  post s0 al
def vcX11_register_28 (G : zG)  (ad ln : Nat → Nat) (p1 : Int32)  (post : Int32 → (Nat → Nat → Int32) → Prop) (al : Nat → Nat → Int32) : Prop :=
  zMi G yX11_no wsX11_no rmX11_no zTR ad ln [.ref (ad 0), .int (2 : Int32)] al (fun q1 a1 => vcX11_register_42 G  ad ln p1  post q1 a1)
def vcX11_register_0 (G : zG)  (ad ln : Nat → Nat) (p1 : Int32)  (post : Int32 → (Nat → Nat → Int32) → Prop) (al : Nat → Nat → Int32) : Prop :=
  (¬ (al 0 47) = 0 → (p1 < 0 → vcX11_register_28 G  ad ln p1  post  (up2 al 0 50 (0 : Int32))) ∧ (¬ p1 < 0 → (p1 ≤ (31 : Int32) → (vp_in p1 32 ∧ vcX11_register_42 G  ad ln p1  post (al 25 p1.toNatClampNeg) (up2 al 0 50 (0 : Int32)))) ∧ (¬ p1 ≤ (31 : Int32) → vcX11_register_28 G  ad ln p1  post  (up2 al 0 50 (0 : Int32))))) ∧ ((al 0 47) = 0 → zMi G yX11_no wsX11_no rmX11_no zTR ad ln [.ref (ad 0), .int (1 : Int32)] (up2 al 0 50 (0 : Int32)) (fun q2 a2 => post q2 a2))
set_option maxRecDepth 20000 in
theorem tX11_register_42 {G : zG} {Z : zC}  {ad ln : Nat → Nat} (X : zX G Z cX11_register 2 RX11 wsX11_register) (p1 : Int32)  {post : Int32 → (Nat → Nat → Int32) → Prop} (hR : zRi G Z rmX11_register 2 zTR ad ln cX11_register .int post)  (s0 : Int32) (al : Nat → Nat → Int32) (h : vcX11_register_42 G  ad ln p1  post s0 al) : zB G Z rmX11_register 2 zTR ad ln 0 0 42 [] [.int s0] al := by
  unfold vcX11_register_42 at h
  exact hR 42 _ _ _ dX11_register_42 rfl h
set_option maxRecDepth 20000 in
theorem tX11_register_28 {G : zG} {Z : zC}  {ad ln : Nat → Nat} (X : zX G Z cX11_register 2 RX11 wsX11_register) (p1 : Int32)  {post : Int32 → (Nat → Nat → Int32) → Prop} (hR : zRi G Z rmX11_register 2 zTR ad ln cX11_register .int post)  (al : Nat → Nat → Int32) (h : vcX11_register_28 G  ad ln p1  post  al) : zB G Z rmX11_register 2 zTR ad ln 0 0 28 [(0, .ref (ad 0))] [] al := by
  unfold vcX11_register_28 at h
  refine zb_aload_n X dX11_register_28 rfl 0 rfl ?_
  refine zb_iconst X (2 : Int32) dX11_register_29 (by decide) ?_
  refine zb_callVi (n := 1) X 0 (by decide) 11 [3, 4, 5, 6, 7, 8, 9, 10, 11, 0, 12, 0, 0, 0, 0, 0, 0, 0, 0, 0, 0, 0, 0, 13, 14, 15, 16, 17, 0, 18, 19, 20, 21, 0, 0, 0, 22, 23, 24, 25, 0, 0, 26, 27, 28, 29, 0, 0, 0, 30, 0] rfl (C := RX11) (Tt := TX11) (N := 51) rfl h gX11_register_X11_no rfl (by decide +kernel) (by decide) rfl rfl (Nat.le_of_ble_eq_true rfl) dX11_register_30 (kc' := 0) (ks' := 0) rfl rfl (fun q1 a1 h => ?_)
  refine zb_goto X 42 dX11_register_33 (by decide) ?_
  refine zb_sub [] rfl ?_
  exact tX11_register_42 X p1 hR  q1 a1 h
set_option maxRecDepth 20000 in
theorem tX11_register_0 {G : zG} {Z : zC}  {ad ln : Nat → Nat} (X : zX G Z cX11_register 2 RX11 wsX11_register) (p1 : Int32)  {post : Int32 → (Nat → Nat → Int32) → Prop} (hR : zRi G Z rmX11_register 2 zTR ad ln cX11_register .int post)  (al : Nat → Nat → Int32) (h : vcX11_register_0 G  ad ln p1  post  al) : zB G Z rmX11_register 2 zTR ad ln 0 0 0 [(0, .ref (ad 0)), (1, .int p1)] [] al := by
  unfold vcX11_register_0 at h
  refine zb_aload_n X dX11_register_0 rfl 0 rfl ?_
  refine zb_iconst X (0 : Int32) dX11_register_1 (by decide) ?_
  refine zb_putI X 0 (by decide) 11 [3, 4, 5, 6, 7, 8, 9, 10, 11, 0, 12, 0, 0, 0, 0, 0, 0, 0, 0, 0, 0, 0, 0, 13, 14, 15, 16, 17, 0, 18, 19, 20, 21, 0, 0, 0, 22, 23, 24, 25, 0, 0, 26, 27, 28, 29, 0, 0, 0, 30, 0] rfl (C := RX11) (Tt := TX11) (N := 51) rfl kX11_register_1 tyX11 tyX11_ok nmX11 50 (by decide) rfl kX11_register_0 rfl rfl rfl rfl dX11_register_2 ?_
  refine zb_aload_n X dX11_register_5 rfl 0 rfl ?_
  refine zb_getI X 0 (by decide) 11 [3, 4, 5, 6, 7, 8, 9, 10, 11, 0, 12, 0, 0, 0, 0, 0, 0, 0, 0, 0, 0, 0, 0, 13, 14, 15, 16, 17, 0, 18, 19, 20, 21, 0, 0, 0, 22, 23, 24, 25, 0, 0, 26, 27, 28, 29, 0, 0, 0, 30, 0] rfl (C := RX11) (Tt := TX11) (N := 51) rfl kX11_register_1 47 (by decide) rfl kX11_register_2 rfl dX11_register_6 (al 0 47) rfl ?_
  refine zb_if_ne X 18 dX11_register_9 (by decide) (fun c1 => ?_) (fun c1 => ?_)
  · have h := h.1 c1
    refine zb_iload_n X dX11_register_18 rfl 1 rfl ?_
    refine zb_if_lt X 28 dX11_register_19 (by decide) (fun c2 => ?_) (fun c2 => ?_)
    · have h := h.1 c2
      refine zb_sub [0] rfl ?_
      exact tX11_register_28 X p1 hR   (up2 al 0 50 (0 : Int32)) h
    · have h := h.2 c2
      refine zb_iload_n X dX11_register_22 rfl 1 rfl ?_
      refine zb_bipush X (31 : Int32) dX11_register_23 (by decide) ?_
      refine zb_icmp_le X 36 dX11_register_25 (by decide) (fun c3 => ?_) (fun c3 => ?_)
      · have h := h.1 c3
        refine zb_aload_n X dX11_register_36 rfl 0 rfl ?_
        refine zb_getR X 0 (by decide) 11 [3, 4, 5, 6, 7, 8, 9, 10, 11, 0, 12, 0, 0, 0, 0, 0, 0, 0, 0, 0, 0, 0, 0, 13, 14, 15, 16, 17, 0, 18, 19, 20, 21, 0, 0, 0, 22, 23, 24, 25, 0, 0, 26, 27, 28, 29, 0, 0, 0, 30, 0] rfl (C := RX11) (Tt := TX11) (N := 51) rfl kX11_register_1 43 (by decide) 25 rfl kX11_register_3 rfl dX11_register_37 ?_
        refine zb_iload_n X dX11_register_40 rfl 1 rfl ?_
        obtain ⟨hz, h⟩ := h
        refine zb_iald X 25 (by decide) 1 32 0 0 rfl (Or.inl rfl) p1.toNatClampNeg rfl hz dX11_register_41 (al 25 p1.toNatClampNeg) rfl ?_
        refine zb_sub [] rfl ?_
        exact tX11_register_42 X p1 hR  (al 25 p1.toNatClampNeg) (up2 al 0 50 (0 : Int32)) h
      · have h := h.2 c3
        refine zb_sub [0] rfl ?_
        exact tX11_register_28 X p1 hR   (up2 al 0 50 (0 : Int32)) h
  · have h := h.2 c1
    refine zb_aload_n X dX11_register_12 rfl 0 rfl ?_
    refine zb_iconst X (1 : Int32) dX11_register_13 (by decide) ?_
    refine zb_callVi (n := 1) X 0 (by decide) 11 [3, 4, 5, 6, 7, 8, 9, 10, 11, 0, 12, 0, 0, 0, 0, 0, 0, 0, 0, 0, 0, 0, 0, 13, 14, 15, 16, 17, 0, 18, 19, 20, 21, 0, 0, 0, 22, 23, 24, 25, 0, 0, 26, 27, 28, 29, 0, 0, 0, 30, 0] rfl (C := RX11) (Tt := TX11) (N := 51) rfl h gX11_register_X11_no rfl (by decide +kernel) (by decide) rfl rfl (Nat.le_of_ble_eq_true rfl) dX11_register_14 (kc' := 0) (ks' := 0) rfl rfl (fun q2 a2 h => ?_)
    exact hR 17 _ _ _ dX11_register_17 rfl h

abbrev rmX11_cell : Room := { frames := 1, cells := 0, slots := 0, locals := 21 }
theorem kX11_cell_0 : Cond.fieldLink RX11 308 RX11 "thrown" "I" ∈ wsX11_cell := by decide +kernel
theorem kX11_cell_1 : zIn RX11 TX11 51 wsX11_cell := by decide +kernel
theorem kX11_cell_2 : Cond.fieldLink RX11 316 RX11 "ran" "Z" ∈ wsX11_cell := by decide +kernel
theorem kX11_cell_3 : Cond.fieldLink RX11 265 RX11 "arrays" "[[I" ∈ wsX11_cell := by decide +kernel
def vcX11_cell_54 (G : zG)  (ad ln : Nat → Nat) (p1 : Int32) (p2 : Int32)  (post : Int32 → (Nat → Nat → Int32) → Prop) (s0 : Int32) (al : Nat → Nat → Int32) : Prop :=
  post s0 al
def vcX11_cell_38 (G : zG)  (ad ln : Nat → Nat) (p1 : Int32) (p2 : Int32)  (post : Int32 → (Nat → Nat → Int32) → Prop) (al : Nat → Nat → Int32) : Prop :=
  zMi G yX11_no wsX11_no rmX11_no zTR ad ln [.ref (ad 0), .int (2 : Int32)] al (fun q1 a1 => vcX11_cell_54 G  ad ln p1 p2  post q1 a1)
def vcX11_cell_0 (G : zG)  (ad ln : Nat → Nat) (p1 : Int32) (p2 : Int32)  (post : Int32 → (Nat → Nat → Int32) → Prop) (al : Nat → Nat → Int32) : Prop :=
  (¬ (al 0 47) = 0 → (p1 < 0 → vcX11_cell_38 G  ad ln p1 p2  post  (up2 al 0 50 (0 : Int32))) ∧ (¬ p1 < 0 → ((3 : Int32) < p1 → vcX11_cell_38 G  ad ln p1 p2  post  (up2 al 0 50 (0 : Int32))) ∧ (¬ (3 : Int32) < p1 → (p2 < 0 → vcX11_cell_38 G  ad ln p1 p2  post  (up2 al 0 50 (0 : Int32))) ∧ (¬ p2 < 0 → (p2 ≤ (1023 : Int32) → (vp_in p1 4 ∧ vp_in p2 1024 ∧ vcX11_cell_54 G  ad ln p1 p2  post ((up2 al 0 50 (0 : Int32)) (77 + p1.toNatClampNeg) p2.toNatClampNeg) (up2 al 0 50 (0 : Int32)))) ∧ (¬ p2 ≤ (1023 : Int32) → vcX11_cell_38 G  ad ln p1 p2  post  (up2 al 0 50 (0 : Int32))))))) ∧ ((al 0 47) = 0 → zMi G yX11_no wsX11_no rmX11_no zTR ad ln [.ref (ad 0), .int (1 : Int32)] (up2 al 0 50 (0 : Int32)) (fun q2 a2 => post q2 a2))
set_option maxRecDepth 20000 in
theorem tX11_cell_54 {G : zG} {Z : zC}  {ad ln : Nat → Nat} (X : zX G Z cX11_cell 3 RX11 wsX11_cell) (p1 : Int32) (p2 : Int32)  {post : Int32 → (Nat → Nat → Int32) → Prop} (hR : zRi G Z rmX11_cell 3 zTR ad ln cX11_cell .int post)  (s0 : Int32) (al : Nat → Nat → Int32) (h : vcX11_cell_54 G  ad ln p1 p2  post s0 al) : zB G Z rmX11_cell 3 zTR ad ln 0 0 54 [] [.int s0] al := by
  unfold vcX11_cell_54 at h
  exact hR 54 _ _ _ dX11_cell_54 rfl h
set_option maxRecDepth 20000 in
theorem tX11_cell_38 {G : zG} {Z : zC}  {ad ln : Nat → Nat} (X : zX G Z cX11_cell 3 RX11 wsX11_cell) (p1 : Int32) (p2 : Int32)  {post : Int32 → (Nat → Nat → Int32) → Prop} (hR : zRi G Z rmX11_cell 3 zTR ad ln cX11_cell .int post)  (al : Nat → Nat → Int32) (h : vcX11_cell_38 G  ad ln p1 p2  post  al) : zB G Z rmX11_cell 3 zTR ad ln 0 0 38 [(0, .ref (ad 0))] [] al := by
  unfold vcX11_cell_38 at h
  refine zb_aload_n X dX11_cell_38 rfl 0 rfl ?_
  refine zb_iconst X (2 : Int32) dX11_cell_39 (by decide) ?_
  refine zb_callVi (n := 1) X 0 (by decide) 11 [3, 4, 5, 6, 7, 8, 9, 10, 11, 0, 12, 0, 0, 0, 0, 0, 0, 0, 0, 0, 0, 0, 0, 13, 14, 15, 16, 17, 0, 18, 19, 20, 21, 0, 0, 0, 22, 23, 24, 25, 0, 0, 26, 27, 28, 29, 0, 0, 0, 30, 0] rfl (C := RX11) (Tt := TX11) (N := 51) rfl h gX11_cell_X11_no rfl (by decide +kernel) (by decide) rfl rfl (Nat.le_of_ble_eq_true rfl) dX11_cell_40 (kc' := 0) (ks' := 0) rfl rfl (fun q1 a1 h => ?_)
  refine zb_goto X 54 dX11_cell_43 (by decide) ?_
  refine zb_sub [] rfl ?_
  exact tX11_cell_54 X p1 p2 hR  q1 a1 h
set_option maxRecDepth 20000 in
theorem tX11_cell_0 {G : zG} {Z : zC}  {ad ln : Nat → Nat} (X : zX G Z cX11_cell 3 RX11 wsX11_cell) (p1 : Int32) (p2 : Int32)  {post : Int32 → (Nat → Nat → Int32) → Prop} (hR : zRi G Z rmX11_cell 3 zTR ad ln cX11_cell .int post)  (al : Nat → Nat → Int32) (h : vcX11_cell_0 G  ad ln p1 p2  post  al) : zB G Z rmX11_cell 3 zTR ad ln 0 0 0 [(0, .ref (ad 0)), (1, .int p1), (2, .int p2)] [] al := by
  unfold vcX11_cell_0 at h
  refine zb_aload_n X dX11_cell_0 rfl 0 rfl ?_
  refine zb_iconst X (0 : Int32) dX11_cell_1 (by decide) ?_
  refine zb_putI X 0 (by decide) 11 [3, 4, 5, 6, 7, 8, 9, 10, 11, 0, 12, 0, 0, 0, 0, 0, 0, 0, 0, 0, 0, 0, 0, 13, 14, 15, 16, 17, 0, 18, 19, 20, 21, 0, 0, 0, 22, 23, 24, 25, 0, 0, 26, 27, 28, 29, 0, 0, 0, 30, 0] rfl (C := RX11) (Tt := TX11) (N := 51) rfl kX11_cell_1 tyX11 tyX11_ok nmX11 50 (by decide) rfl kX11_cell_0 rfl rfl rfl rfl dX11_cell_2 ?_
  refine zb_aload_n X dX11_cell_5 rfl 0 rfl ?_
  refine zb_getI X 0 (by decide) 11 [3, 4, 5, 6, 7, 8, 9, 10, 11, 0, 12, 0, 0, 0, 0, 0, 0, 0, 0, 0, 0, 0, 0, 13, 14, 15, 16, 17, 0, 18, 19, 20, 21, 0, 0, 0, 22, 23, 24, 25, 0, 0, 26, 27, 28, 29, 0, 0, 0, 30, 0] rfl (C := RX11) (Tt := TX11) (N := 51) rfl kX11_cell_1 47 (by decide) rfl kX11_cell_2 rfl dX11_cell_6 (al 0 47) rfl ?_
  refine zb_if_ne X 18 dX11_cell_9 (by decide) (fun c1 => ?_) (fun c1 => ?_)
  · have h := h.1 c1
    refine zb_iload_n X dX11_cell_18 rfl 1 rfl ?_
    refine zb_if_lt X 38 dX11_cell_19 (by decide) (fun c2 => ?_) (fun c2 => ?_)
    · have h := h.1 c2
      refine zb_sub [0] rfl ?_
      exact tX11_cell_38 X p1 p2 hR   (up2 al 0 50 (0 : Int32)) h
    · have h := h.2 c2
      refine zb_iload_n X dX11_cell_22 rfl 1 rfl ?_
      refine zb_iconst X (3 : Int32) dX11_cell_23 (by decide) ?_
      refine zb_icmp_gt X 38 dX11_cell_24 (by decide) (fun c3 => ?_) (fun c3 => ?_)
      · have h := h.1 c3
        refine zb_sub [0] rfl ?_
        exact tX11_cell_38 X p1 p2 hR   (up2 al 0 50 (0 : Int32)) h
      · have h := h.2 c3
        refine zb_iload_n X dX11_cell_27 rfl 2 rfl ?_
        refine zb_if_lt X 38 dX11_cell_28 (by decide) (fun c4 => ?_) (fun c4 => ?_)
        · have h := h.1 c4
          refine zb_sub [0] rfl ?_
          exact tX11_cell_38 X p1 p2 hR   (up2 al 0 50 (0 : Int32)) h
        · have h := h.2 c4
          refine zb_iload_n X dX11_cell_31 rfl 2 rfl ?_
          refine zb_sipush X (1023 : Int32) dX11_cell_32 (by decide) ?_
          refine zb_icmp_le X 46 dX11_cell_35 (by decide) (fun c5 => ?_) (fun c5 => ?_)
          · have h := h.1 c5
            refine zb_aload_n X dX11_cell_46 rfl 0 rfl ?_
            refine zb_getR X 0 (by decide) 11 [3, 4, 5, 6, 7, 8, 9, 10, 11, 0, 12, 0, 0, 0, 0, 0, 0, 0, 0, 0, 0, 0, 0, 13, 14, 15, 16, 17, 0, 18, 19, 20, 21, 0, 0, 0, 22, 23, 24, 25, 0, 0, 26, 27, 28, 29, 0, 0, 0, 30, 0] rfl (C := RX11) (Tt := TX11) (N := 51) rfl kX11_cell_1 44 (by decide) 26 rfl kX11_cell_3 rfl dX11_cell_47 ?_
            refine zb_iload_n X dX11_cell_50 rfl 1 rfl ?_
            obtain ⟨hq6, h⟩ := h
            refine zb_gald X 26 (by decide) 4 77 rfl p1.toNatClampNeg rfl hq6 dX11_cell_51 ?_
            refine zb_iload_n X dX11_cell_52 rfl 2 rfl ?_
            obtain ⟨hz, h⟩ := h
            refine zb_iald X (77 + p1.toNatClampNeg) (zgr_lt77 hq6) 1 1024 0 0 (zgr77 hq6) (Or.inl rfl) p2.toNatClampNeg rfl hz dX11_cell_53 ((up2 al 0 50 (0 : Int32)) (77 + p1.toNatClampNeg) p2.toNatClampNeg) rfl ?_
            refine zb_sub [] rfl ?_
            exact tX11_cell_54 X p1 p2 hR  ((up2 al 0 50 (0 : Int32)) (77 + p1.toNatClampNeg) p2.toNatClampNeg) (up2 al 0 50 (0 : Int32)) h
          · have h := h.2 c5
            refine zb_sub [0] rfl ?_
            exact tX11_cell_38 X p1 p2 hR   (up2 al 0 50 (0 : Int32)) h
  · have h := h.2 c1
    refine zb_aload_n X dX11_cell_12 rfl 0 rfl ?_
    refine zb_iconst X (1 : Int32) dX11_cell_13 (by decide) ?_
    refine zb_callVi (n := 1) X 0 (by decide) 11 [3, 4, 5, 6, 7, 8, 9, 10, 11, 0, 12, 0, 0, 0, 0, 0, 0, 0, 0, 0, 0, 0, 0, 13, 14, 15, 16, 17, 0, 18, 19, 20, 21, 0, 0, 0, 22, 23, 24, 25, 0, 0, 26, 27, 28, 29, 0, 0, 0, 30, 0] rfl (C := RX11) (Tt := TX11) (N := 51) rfl h gX11_cell_X11_no rfl (by decide +kernel) (by decide) rfl rfl (Nat.le_of_ble_eq_true rfl) dX11_cell_14 (kc' := 0) (ks' := 0) rfl rfl (fun q2 a2 h => ?_)
    exact hR 17 _ _ _ dX11_cell_17 rfl h
