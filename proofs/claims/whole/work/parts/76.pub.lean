abbrev rmX9_learnWaits (zc zs : Nat) : Room := { frames := 5, cells := zc, slots := zs, locals := 137 }
theorem kX9_learnWaits_0 : Cond.fieldLink RX9 228 RX9 "waitsKnown" "Z" ∈ wsX9_learnWaits := by decide +kernel
theorem kX9_learnWaits_1 : zIn RX9 TX9 15 wsX9_learnWaits := by decide +kernel
theorem kX9_learnWaits_2 : Cond.fieldLink RX9 54 RX9 "waits" "LLoopForge$Waits;" ∈ wsX9_learnWaits := by decide +kernel
abbrev BX9_learnWaits_11 (G : zG) (Z : zC) (r : Bool) (ad ln : Nat → Nat) (zc zs kc ks : Nat) (hkc : kc ≤ zc) (hks : ks ≤ zs) (al : Nat → Nat → Int32) : Prop := zB G Z (rmX9_learnWaits zc zs) 1 (zTC r) ad ln kc ks 11 [(0, .ref (ad 0))] [.ref (ad 12)] al
def vcX9_learnWaits_19 (G : zG) (r : Bool) (ad ln : Nat → Nat) (zc zs kc ks : Nat) (hkc : kc ≤ zc) (hks : ks ≤ zs) (K11 : (Nat → Nat → Int32) → Prop) (post : (Nat → Nat → Int32) → Prop) (al : Nat → Nat → Int32) : Prop :=
  post al
def vcX9_learnWaits_0 (G : zG) (r : Bool) (ad ln : Nat → Nat) (zc zs kc ks : Nat) (hkc : kc ≤ zc) (hks : ks ≤ zs) (K11 : (Nat → Nat → Int32) → Prop) (post : (Nat → Nat → Int32) → Prop) (al : Nat → Nat → Int32) : Prop :=
  (¬ (al 0 11) = 0 → vcX9_learnWaits_19 G r ad ln zc zs kc ks hkc hks K11 post  al) ∧ ((al 0 11) = 0 → K11  al)
def vcX9_learnWaits_14 (G : zG) (r : Bool) (ad ln : Nat → Nat) (zc zs kc ks : Nat) (hkc : kc ≤ zc) (hks : ks ≤ zs) (K11 : (Nat → Nat → Int32) → Prop) (post : (Nat → Nat → Int32) → Prop) (al : Nat → Nat → Int32) : Prop :=
  vcX9_learnWaits_19 G r ad ln zc zs kc ks hkc hks K11 post  (up2 al 0 11 (1 : Int32))
set_option maxRecDepth 20000 in
theorem tX9_learnWaits_19 {G : zG} {Z : zC} {r : Bool} {ad ln : Nat → Nat} (X : zX G Z cX9_learnWaits 1 RX9 wsX9_learnWaits) (zc zs kc ks : Nat) (hkc : kc ≤ zc) (hks : ks ≤ zs) {K11 : (Nat → Nat → Int32) → Prop} {post : (Nat → Nat → Int32) → Prop} (hR : zRv G Z (rmX9_learnWaits zc zs) 1 (zTC r) ad ln cX9_learnWaits post) (hK11 : ∀ al, K11  al → zB G Z (rmX9_learnWaits zc zs) 1 (zTC r) ad ln kc ks 11 [(0, .ref (ad 0))] [.ref (ad 12)] al) (al : Nat → Nat → Int32) (h : vcX9_learnWaits_19 G r ad ln zc zs kc ks hkc hks K11 post  al) : zB G Z (rmX9_learnWaits zc zs) 1 (zTC r) ad ln kc ks 19 [] [] al := by
  unfold vcX9_learnWaits_19 at h
  exact zb_widen hkc hks (hR 19 _ _ dX9_learnWaits_19 h)
set_option maxRecDepth 20000 in
theorem tX9_learnWaits_0 {G : zG} {Z : zC} {r : Bool} {ad ln : Nat → Nat} (X : zX G Z cX9_learnWaits 1 RX9 wsX9_learnWaits) (zc zs kc ks : Nat) (hkc : kc ≤ zc) (hks : ks ≤ zs) {K11 : (Nat → Nat → Int32) → Prop} {post : (Nat → Nat → Int32) → Prop} (hR : zRv G Z (rmX9_learnWaits zc zs) 1 (zTC r) ad ln cX9_learnWaits post) (hK11 : ∀ al, K11  al → zB G Z (rmX9_learnWaits zc zs) 1 (zTC r) ad ln kc ks 11 [(0, .ref (ad 0))] [.ref (ad 12)] al) (al : Nat → Nat → Int32) (h : vcX9_learnWaits_0 G r ad ln zc zs kc ks hkc hks K11 post  al) : zB G Z (rmX9_learnWaits zc zs) 1 (zTC r) ad ln kc ks 0 [(0, .ref (ad 0))] [] al := by
  unfold vcX9_learnWaits_0 at h
  refine zb_aload_n X dX9_learnWaits_0 rfl 0 rfl ?_
  refine zb_getI X 0 (zTC_lt (by decide)) 9 [3, 0, 4, 5, 6, 9, 14, 20, 24, if r then 175 else 1, 0, 0, 0, 0, 0] rfl (C := RX9) (Tt := TX9) (N := 15) rfl kX9_learnWaits_1 11 (by decide) rfl kX9_learnWaits_0 rfl dX9_learnWaits_1 (al 0 11) rfl ?_
  refine zb_if_ne X 19 dX9_learnWaits_4 (by decide) (fun c1 => ?_) (fun c1 => ?_)
  · have h := h.1 c1
    refine zb_sub [] rfl ?_
    exact tX9_learnWaits_19 X zc zs kc ks hkc hks hR hK11  al h
  · have h := h.2 c1
    refine zb_aload_n X dX9_learnWaits_7 rfl 0 rfl ?_
    refine zb_getR X 0 (zTC_lt (by decide)) 9 [3, 0, 4, 5, 6, 9, 14, 20, 24, if r then 175 else 1, 0, 0, 0, 0, 0] rfl (C := RX9) (Tt := TX9) (N := 15) rfl kX9_learnWaits_1 6 (by decide) 12 rfl kX9_learnWaits_2 rfl dX9_learnWaits_8 ?_
    refine zb_sub [0] rfl ?_
    exact hK11  al h
set_option maxRecDepth 20000 in
theorem tX9_learnWaits_14 {G : zG} {Z : zC} {r : Bool} {ad ln : Nat → Nat} (X : zX G Z cX9_learnWaits 1 RX9 wsX9_learnWaits) (zc zs kc ks : Nat) (hkc : kc ≤ zc) (hks : ks ≤ zs) {K11 : (Nat → Nat → Int32) → Prop} {post : (Nat → Nat → Int32) → Prop} (hR : zRv G Z (rmX9_learnWaits zc zs) 1 (zTC r) ad ln cX9_learnWaits post) (hK11 : ∀ al, K11  al → zB G Z (rmX9_learnWaits zc zs) 1 (zTC r) ad ln kc ks 11 [(0, .ref (ad 0))] [.ref (ad 12)] al) (al : Nat → Nat → Int32) (h : vcX9_learnWaits_14 G r ad ln zc zs kc ks hkc hks K11 post  al) : zB G Z (rmX9_learnWaits zc zs) 1 (zTC r) ad ln kc ks 14 [(0, .ref (ad 0))] [] al := by
  unfold vcX9_learnWaits_14 at h
  refine zb_aload_n X dX9_learnWaits_14 rfl 0 rfl ?_
  refine zb_iconst X (1 : Int32) dX9_learnWaits_15 (by decide) ?_
  refine zb_putI X 0 (zTC_lt (by decide)) 9 [3, 0, 4, 5, 6, 9, 14, 20, 24, if r then 175 else 1, 0, 0, 0, 0, 0] rfl (C := RX9) (Tt := TX9) (N := 15) rfl kX9_learnWaits_1 tyX9 tyX9_ok nmX9 11 (by decide) rfl kX9_learnWaits_0 rfl rfl rfl rfl dX9_learnWaits_16 ?_
  refine zb_sub [] rfl ?_
  exact tX9_learnWaits_19 X zc zs kc ks hkc hks hR hK11  (up2 al 0 11 (1 : Int32)) h
theorem uX9_learnWaits_19 {G : zG} {Z : zC} {r : Bool} {ad ln : Nat → Nat} (X : zX G Z cX9_learnWaits 1 RX9 wsX9_learnWaits) (zc zs kc ks : Nat) (hkc : kc ≤ zc) (hks : ks ≤ zs) {post : (Nat → Nat → Int32) → Prop} (hR : zRv G Z (rmX9_learnWaits zc zs) 1 (zTC r) ad ln cX9_learnWaits post) (al : Nat → Nat → Int32) (h : vcX9_learnWaits_19 G r ad ln zc zs kc ks hkc hks (BX9_learnWaits_11 G Z r ad ln zc zs kc ks hkc hks) post  al) : zB G Z (rmX9_learnWaits zc zs) 1 (zTC r) ad ln kc ks 19 [] [] al := tX9_learnWaits_19 X zc zs kc ks hkc hks hR (fun _ h => h)  al h
theorem uX9_learnWaits_0 {G : zG} {Z : zC} {r : Bool} {ad ln : Nat → Nat} (X : zX G Z cX9_learnWaits 1 RX9 wsX9_learnWaits) (zc zs kc ks : Nat) (hkc : kc ≤ zc) (hks : ks ≤ zs) {post : (Nat → Nat → Int32) → Prop} (hR : zRv G Z (rmX9_learnWaits zc zs) 1 (zTC r) ad ln cX9_learnWaits post) (al : Nat → Nat → Int32) (h : vcX9_learnWaits_0 G r ad ln zc zs kc ks hkc hks (BX9_learnWaits_11 G Z r ad ln zc zs kc ks hkc hks) post  al) : zB G Z (rmX9_learnWaits zc zs) 1 (zTC r) ad ln kc ks 0 [(0, .ref (ad 0))] [] al := tX9_learnWaits_0 X zc zs kc ks hkc hks hR (fun _ h => h)  al h
theorem uX9_learnWaits_14 {G : zG} {Z : zC} {r : Bool} {ad ln : Nat → Nat} (X : zX G Z cX9_learnWaits 1 RX9 wsX9_learnWaits) (zc zs kc ks : Nat) (hkc : kc ≤ zc) (hks : ks ≤ zs) {post : (Nat → Nat → Int32) → Prop} (hR : zRv G Z (rmX9_learnWaits zc zs) 1 (zTC r) ad ln cX9_learnWaits post) (al : Nat → Nat → Int32) (h : vcX9_learnWaits_14 G r ad ln zc zs kc ks hkc hks (BX9_learnWaits_11 G Z r ad ln zc zs kc ks hkc hks) post  al) : zB G Z (rmX9_learnWaits zc zs) 1 (zTC r) ad ln kc ks 14 [(0, .ref (ad 0))] [] al := tX9_learnWaits_14 X zc zs kc ks hkc hks hR (fun _ h => h)  al h
abbrev rmX9_countWaits (zc zs : Nat) : Room := { frames := 6, cells := zc, slots := zs, locals := 157 }
theorem kX9_countWaits_0 : Cond.fieldLink RX9 31 RX9 "loop" "LLoopForge$Loop;" ∈ wsX9_countWaits := by decide +kernel
theorem kX9_countWaits_1 : zIn RX9 TX9 15 wsX9_countWaits := by decide +kernel
theorem kX9_countWaits_2 : Cond.fieldLink RX9 124 RX0 "size" "I" ∈ wsX9_countWaits := by decide +kernel
theorem kX9_countWaits_3 : zIn RX0 TX0 3 wsX9_countWaits := by decide +kernel
theorem kX9_countWaits_4 : Cond.fieldLink RX9 54 RX9 "waits" "LLoopForge$Waits;" ∈ wsX9_countWaits := by decide +kernel
theorem kX9_countWaits_5 : Cond.fieldLink RX9 164 RX8 "leastByCircles" "I" ∈ wsX9_countWaits := by decide +kernel
theorem kX9_countWaits_6 : zIn RX8 TX8 10 wsX9_countWaits := by decide +kernel
theorem kX9_countWaits_7 : Cond.fieldLink RX9 161 RX8 "leastByUnits" "I" ∈ wsX9_countWaits := by decide +kernel
theorem kX9_countWaits_8 : Cond.fieldLink RX9 234 RX8 "size" "I" ∈ wsX9_countWaits := by decide +kernel
abbrev BX9_countWaits_13 (G : zG) (Z : zC) (r : Bool) (ad ln : Nat → Nat) (zc zs kc ks : Nat) (hkc : kc ≤ zc) (hks : ks ≤ zs) (p1 : Int32) (al : Nat → Nat → Int32) : Prop := zB G Z (rmX9_countWaits zc zs) 2 (zTC r) ad ln kc ks 13 [(0, .ref (ad 0)), (1, .int p1)] [.ref (ad 0)] al
def vcX9_countWaits_0 (G : zG) (r : Bool) (ad ln : Nat → Nat) (zc zs kc ks : Nat) (hkc : kc ≤ zc) (hks : ks ≤ zs) (p1 : Int32) (K13 : (Nat → Nat → Int32) → Prop) (post : Int32 → (Nat → Nat → Int32) → Prop) (al : Nat → Nat → Int32) : Prop :=
  (¬ (al 4 1) = 0 → K13  al) ∧ ((al 4 1) = 0 → post (0 : Int32) al)
def vcX9_countWaits_53 (G : zG) (r : Bool) (ad ln : Nat → Nat) (zc zs kc ks : Nat) (hkc : kc ≤ zc) (hks : ks ≤ zs) (p1 : Int32) (K13 : (Nat → Nat → Int32) → Prop) (post : Int32 → (Nat → Nat → Int32) → Prop) (s0 : Int32) (al : Nat → Nat → Int32) : Prop :=
  post s0 al
def vcX9_countWaits_16 (G : zG) (r : Bool) (ad ln : Nat → Nat) (zc zs kc ks : Nat) (hkc : kc ≤ zc) (hks : ks ≤ zs) (p1 : Int32) (K13 : (Nat → Nat → Int32) → Prop) (post : Int32 → (Nat → Nat → Int32) → Prop) (al : Nat → Nat → Int32) : Prop :=
  (¬ p1 = (3 : Int32) → (¬ p1 = (4 : Int32) → vcX9_countWaits_53 G r ad ln zc zs kc ks hkc hks p1 K13 post (al 12 9) al) ∧ (p1 = (4 : Int32) → vcX9_countWaits_53 G r ad ln zc zs kc ks hkc hks p1 K13 post (al 12 8) al)) ∧ (p1 = (3 : Int32) → vcX9_countWaits_53 G r ad ln zc zs kc ks hkc hks p1 K13 post (al 12 2) al)
set_option maxRecDepth 20000 in
theorem tX9_countWaits_0 {G : zG} {Z : zC} {r : Bool} {ad ln : Nat → Nat} (X : zX G Z cX9_countWaits 2 RX9 wsX9_countWaits) (zc zs kc ks : Nat) (hkc : kc ≤ zc) (hks : ks ≤ zs) (p1 : Int32) {K13 : (Nat → Nat → Int32) → Prop} {post : Int32 → (Nat → Nat → Int32) → Prop} (hR : zRi G Z (rmX9_countWaits zc zs) 2 (zTC r) ad ln cX9_countWaits .int post) (hK13 : ∀ al, K13  al → zB G Z (rmX9_countWaits zc zs) 2 (zTC r) ad ln kc ks 13 [(0, .ref (ad 0)), (1, .int p1)] [.ref (ad 0)] al) (al : Nat → Nat → Int32) (h : vcX9_countWaits_0 G r ad ln zc zs kc ks hkc hks p1 K13 post  al) : zB G Z (rmX9_countWaits zc zs) 2 (zTC r) ad ln kc ks 0 [(0, .ref (ad 0)), (1, .int p1)] [] al := by
  unfold vcX9_countWaits_0 at h
  refine zb_aload_n X dX9_countWaits_0 rfl 0 rfl ?_
  refine zb_getR X 0 (zTC_lt (by decide)) 9 [3, 0, 4, 5, 6, 9, 14, 20, 24, if r then 175 else 1, 0, 0, 0, 0, 0] rfl (C := RX9) (Tt := TX9) (N := 15) rfl kX9_countWaits_1 4 (by decide) 4 rfl kX9_countWaits_0 rfl dX9_countWaits_1 ?_
  refine zb_getI X 4 (zTC_lt (by decide)) 0 [7, 0, 8] rfl (C := RX0) (Tt := TX0) (N := 3) rfl kX9_countWaits_3 1 (by decide) rfl kX9_countWaits_2 rfl dX9_countWaits_4 (al 4 1) rfl ?_
  refine zb_if_ne X 12 dX9_countWaits_7 (by decide) (fun c1 => ?_) (fun c1 => ?_)
  · have h := h.1 c1
    refine zb_aload_n X dX9_countWaits_12 rfl 0 rfl ?_
    refine zb_sub [0, 1] rfl ?_
    exact hK13  al h
  · have h := h.2 c1
    refine zb_iconst X (0 : Int32) dX9_countWaits_10 (by decide) ?_
    exact zb_widen hkc hks (hR 11 _ _ _ dX9_countWaits_11 rfl h)
set_option maxRecDepth 20000 in
theorem tX9_countWaits_53 {G : zG} {Z : zC} {r : Bool} {ad ln : Nat → Nat} (X : zX G Z cX9_countWaits 2 RX9 wsX9_countWaits) (zc zs kc ks : Nat) (hkc : kc ≤ zc) (hks : ks ≤ zs) (p1 : Int32) {K13 : (Nat → Nat → Int32) → Prop} {post : Int32 → (Nat → Nat → Int32) → Prop} (hR : zRi G Z (rmX9_countWaits zc zs) 2 (zTC r) ad ln cX9_countWaits .int post) (hK13 : ∀ al, K13  al → zB G Z (rmX9_countWaits zc zs) 2 (zTC r) ad ln kc ks 13 [(0, .ref (ad 0)), (1, .int p1)] [.ref (ad 0)] al) (s0 : Int32) (al : Nat → Nat → Int32) (h : vcX9_countWaits_53 G r ad ln zc zs kc ks hkc hks p1 K13 post s0 al) : zB G Z (rmX9_countWaits zc zs) 2 (zTC r) ad ln kc ks 53 [] [.int s0] al := by
  unfold vcX9_countWaits_53 at h
  exact zb_widen hkc hks (hR 53 _ _ _ dX9_countWaits_53 rfl h)
set_option maxRecDepth 20000 in
theorem tX9_countWaits_16 {G : zG} {Z : zC} {r : Bool} {ad ln : Nat → Nat} (X : zX G Z cX9_countWaits 2 RX9 wsX9_countWaits) (zc zs kc ks : Nat) (hkc : kc ≤ zc) (hks : ks ≤ zs) (p1 : Int32) {K13 : (Nat → Nat → Int32) → Prop} {post : Int32 → (Nat → Nat → Int32) → Prop} (hR : zRi G Z (rmX9_countWaits zc zs) 2 (zTC r) ad ln cX9_countWaits .int post) (hK13 : ∀ al, K13  al → zB G Z (rmX9_countWaits zc zs) 2 (zTC r) ad ln kc ks 13 [(0, .ref (ad 0)), (1, .int p1)] [.ref (ad 0)] al) (al : Nat → Nat → Int32) (h : vcX9_countWaits_16 G r ad ln zc zs kc ks hkc hks p1 K13 post  al) : zB G Z (rmX9_countWaits zc zs) 2 (zTC r) ad ln kc ks 16 [(0, .ref (ad 0)), (1, .int p1)] [] al := by
  unfold vcX9_countWaits_16 at h
  refine zb_iload_n X dX9_countWaits_16 rfl 1 rfl ?_
  refine zb_iconst X (3 : Int32) dX9_countWaits_17 (by decide) ?_
  refine zb_icmp_ne X 31 dX9_countWaits_18 (by decide) (fun c1 => ?_) (fun c1 => ?_)
  · have h := h.1 c1
    refine zb_iload_n X dX9_countWaits_31 rfl 1 rfl ?_
    refine zb_iconst X (4 : Int32) dX9_countWaits_32 (by decide) ?_
    refine zb_icmp_ne X 46 dX9_countWaits_33 (by decide) (fun c2 => ?_) (fun c2 => ?_)
    · have h := h.1 c2
      refine zb_aload_n X dX9_countWaits_46 rfl 0 rfl ?_
      refine zb_getR X 0 (zTC_lt (by decide)) 9 [3, 0, 4, 5, 6, 9, 14, 20, 24, if r then 175 else 1, 0, 0, 0, 0, 0] rfl (C := RX9) (Tt := TX9) (N := 15) rfl kX9_countWaits_1 6 (by decide) 12 rfl kX9_countWaits_4 rfl dX9_countWaits_47 ?_
      refine zb_getI X 12 (zTC_lt (by decide)) 8 [6, 4, 0, 15, 16, 17, 18, 19, 0, 0] rfl (C := RX8) (Tt := TX8) (N := 10) rfl kX9_countWaits_6 9 (by decide) rfl kX9_countWaits_5 rfl dX9_countWaits_50 (al 12 9) rfl ?_
      refine zb_sub [] rfl ?_
      exact tX9_countWaits_53 X zc zs kc ks hkc hks p1 hR hK13 (al 12 9) al h
    · have h := h.2 c2
      refine zb_aload_n X dX9_countWaits_36 rfl 0 rfl ?_
      refine zb_getR X 0 (zTC_lt (by decide)) 9 [3, 0, 4, 5, 6, 9, 14, 20, 24, if r then 175 else 1, 0, 0, 0, 0, 0] rfl (C := RX9) (Tt := TX9) (N := 15) rfl kX9_countWaits_1 6 (by decide) 12 rfl kX9_countWaits_4 rfl dX9_countWaits_37 ?_
      refine zb_getI X 12 (zTC_lt (by decide)) 8 [6, 4, 0, 15, 16, 17, 18, 19, 0, 0] rfl (C := RX8) (Tt := TX8) (N := 10) rfl kX9_countWaits_6 8 (by decide) rfl kX9_countWaits_7 rfl dX9_countWaits_40 (al 12 8) rfl ?_
      refine zb_goto X 53 dX9_countWaits_43 (by decide) ?_
      refine zb_sub [] rfl ?_
      exact tX9_countWaits_53 X zc zs kc ks hkc hks p1 hR hK13 (al 12 8) al h
  · have h := h.2 c1
    refine zb_aload_n X dX9_countWaits_21 rfl 0 rfl ?_
    refine zb_getR X 0 (zTC_lt (by decide)) 9 [3, 0, 4, 5, 6, 9, 14, 20, 24, if r then 175 else 1, 0, 0, 0, 0, 0] rfl (C := RX9) (Tt := TX9) (N := 15) rfl kX9_countWaits_1 6 (by decide) 12 rfl kX9_countWaits_4 rfl dX9_countWaits_22 ?_
    refine zb_getI X 12 (zTC_lt (by decide)) 8 [6, 4, 0, 15, 16, 17, 18, 19, 0, 0] rfl (C := RX8) (Tt := TX8) (N := 10) rfl kX9_countWaits_6 2 (by decide) rfl kX9_countWaits_8 rfl dX9_countWaits_25 (al 12 2) rfl ?_
    refine zb_goto X 53 dX9_countWaits_28 (by decide) ?_
    refine zb_sub [] rfl ?_
    exact tX9_countWaits_53 X zc zs kc ks hkc hks p1 hR hK13 (al 12 2) al h
theorem uX9_countWaits_0 {G : zG} {Z : zC} {r : Bool} {ad ln : Nat → Nat} (X : zX G Z cX9_countWaits 2 RX9 wsX9_countWaits) (zc zs kc ks : Nat) (hkc : kc ≤ zc) (hks : ks ≤ zs) (p1 : Int32) {post : Int32 → (Nat → Nat → Int32) → Prop} (hR : zRi G Z (rmX9_countWaits zc zs) 2 (zTC r) ad ln cX9_countWaits .int post) (al : Nat → Nat → Int32) (h : vcX9_countWaits_0 G r ad ln zc zs kc ks hkc hks p1 (BX9_countWaits_13 G Z r ad ln zc zs kc ks hkc hks p1) post  al) : zB G Z (rmX9_countWaits zc zs) 2 (zTC r) ad ln kc ks 0 [(0, .ref (ad 0)), (1, .int p1)] [] al := tX9_countWaits_0 X zc zs kc ks hkc hks p1 hR (fun _ h => h)  al h
theorem uX9_countWaits_53 {G : zG} {Z : zC} {r : Bool} {ad ln : Nat → Nat} (X : zX G Z cX9_countWaits 2 RX9 wsX9_countWaits) (zc zs kc ks : Nat) (hkc : kc ≤ zc) (hks : ks ≤ zs) (p1 : Int32) {post : Int32 → (Nat → Nat → Int32) → Prop} (hR : zRi G Z (rmX9_countWaits zc zs) 2 (zTC r) ad ln cX9_countWaits .int post) (s0 : Int32) (al : Nat → Nat → Int32) (h : vcX9_countWaits_53 G r ad ln zc zs kc ks hkc hks p1 (BX9_countWaits_13 G Z r ad ln zc zs kc ks hkc hks p1) post s0 al) : zB G Z (rmX9_countWaits zc zs) 2 (zTC r) ad ln kc ks 53 [] [.int s0] al := tX9_countWaits_53 X zc zs kc ks hkc hks p1 hR (fun _ h => h) s0 al h
theorem uX9_countWaits_16 {G : zG} {Z : zC} {r : Bool} {ad ln : Nat → Nat} (X : zX G Z cX9_countWaits 2 RX9 wsX9_countWaits) (zc zs kc ks : Nat) (hkc : kc ≤ zc) (hks : ks ≤ zs) (p1 : Int32) {post : Int32 → (Nat → Nat → Int32) → Prop} (hR : zRi G Z (rmX9_countWaits zc zs) 2 (zTC r) ad ln cX9_countWaits .int post) (al : Nat → Nat → Int32) (h : vcX9_countWaits_16 G r ad ln zc zs kc ks hkc hks p1 (BX9_countWaits_13 G Z r ad ln zc zs kc ks hkc hks p1) post  al) : zB G Z (rmX9_countWaits zc zs) 2 (zTC r) ad ln kc ks 16 [(0, .ref (ad 0)), (1, .int p1)] [] al := tX9_countWaits_16 X zc zs kc ks hkc hks p1 hR (fun _ h => h)  al h
abbrev rmX9_countLaying : Room := { frames := 2, cells := 0, slots := 0, locals := 43 }
theorem kX9_countLaying_0 : Cond.fieldLink RX9 130 RX9 "distance" "I" ∈ wsX9_countLaying := by decide +kernel
theorem kX9_countLaying_1 : zIn RX9 TX9 15 wsX9_countLaying := by decide +kernel
theorem kX9_countLaying_2 : Cond.fieldLink RX9 63 RX9 "table" "LLoopForge$Table;" ∈ wsX9_countLaying := by decide +kernel
theorem kX9_countLaying_3 : Cond.fieldLink RX9 235 RX7 "greatest" "I" ∈ wsX9_countLaying := by decide +kernel
theorem kX9_countLaying_4 : zIn RX7 TX7 9 wsX9_countLaying := by decide +kernel
theorem kX9_countLaying_5 : Cond.fieldLink RX9 241 RX7 "tries" "I" ∈ wsX9_countLaying := by decide +kernel
theorem kX9_countLaying_6 : Cond.fieldLink RX9 72 RX9 "spans" "LLoopForge$Spans;" ∈ wsX9_countLaying := by decide +kernel
theorem kX9_countLaying_7 : Cond.fieldLink RX9 244 RX6 "need" "I" ∈ wsX9_countLaying := by decide +kernel
theorem kX9_countLaying_8 : zIn RX6 TX6 13 wsX9_countLaying := by decide +kernel
theorem kX9_countLaying_9 : Cond.fieldLink RX9 247 RX6 "size" "I" ∈ wsX9_countLaying := by decide +kernel
def vcX9_countLaying_0 (G : zG) (r : Bool) (ad ln : Nat → Nat) (p1 : Int32)  (post : Int32 → (Nat → Nat → Int32) → Prop) (al : Nat → Nat → Int32) : Prop :=
  (p1 = (6 : Int32) → post (al 0 13) al) ∧ (¬ p1 = (6 : Int32) → (p1 = (7 : Int32) → zMi G yX9_quotient wsX9_quotient rmX9_quotient (zTC r) ad ln [.int (al 18 8), .int (al 0 13)] al (fun q3 a3 => post (q3 + (1 : Int32)) a3)) ∧ (¬ p1 = (7 : Int32) → (p1 = (8 : Int32) → post (al 18 7) al) ∧ (¬ p1 = (8 : Int32) → (p1 = (9 : Int32) → post (al 18 8) al) ∧ (¬ p1 = (9 : Int32) → (p1 = (10 : Int32) → post (al 22 11) al) ∧ (¬ p1 = (10 : Int32) → post (al 22 12) al)))))
set_option maxRecDepth 20000 in
theorem tX9_countLaying_0 {G : zG} {Z : zC} {r : Bool} {ad ln : Nat → Nat} (X : zX G Z cX9_countLaying 2 RX9 wsX9_countLaying) (p1 : Int32)  {post : Int32 → (Nat → Nat → Int32) → Prop} (hR : zRi G Z rmX9_countLaying 2 (zTC r) ad ln cX9_countLaying .int post)  (al : Nat → Nat → Int32) (h : vcX9_countLaying_0 G r ad ln p1  post  al) : zB G Z rmX9_countLaying 2 (zTC r) ad ln 0 0 0 [(0, .ref (ad 0)), (1, .int p1)] [] al := by
  unfold vcX9_countLaying_0 at h
  refine zb_iload_n X dX9_countLaying_0 rfl 1 rfl ?_
  by_cases c1 : p1 = (6 : Int32)
  · have h := h.1 c1
    refine zb_tabIn X 36 dX9_countLaying_1 (by rw [c1]; decide) (by rw [c1]; decide) (by rw [c1]; rfl) (by decide) ?_
    refine zb_aload_n X dX9_countLaying_36 rfl 0 rfl ?_
    refine zb_getI X 0 (zTC_lt (by decide)) 9 [3, 0, 4, 5, 6, 9, 14, 20, 24, if r then 175 else 1, 0, 0, 0, 0, 0] rfl (C := RX9) (Tt := TX9) (N := 15) rfl kX9_countLaying_1 13 (by decide) rfl kX9_countLaying_0 rfl dX9_countLaying_37 (al 0 13) rfl ?_
    exact hR 40 _ _ _ dX9_countLaying_40 rfl h
  have h := h.2 c1
  by_cases c2 : p1 = (7 : Int32)
  · have h := h.1 c2
    refine zb_tabIn X 41 dX9_countLaying_1 (by rw [c2]; decide) (by rw [c2]; decide) (by rw [c2]; rfl) (by decide) ?_
    refine zb_aload_n X dX9_countLaying_41 rfl 0 rfl ?_
    refine zb_getR X 0 (zTC_lt (by decide)) 9 [3, 0, 4, 5, 6, 9, 14, 20, 24, if r then 175 else 1, 0, 0, 0, 0, 0] rfl (C := RX9) (Tt := TX9) (N := 15) rfl kX9_countLaying_1 7 (by decide) 18 rfl kX9_countLaying_2 rfl dX9_countLaying_42 ?_
    refine zb_getI X 18 (zTC_lt (by decide)) 7 [6, 14, 4, 21, 22, 23, 0, 0, 0] rfl (C := RX7) (Tt := TX7) (N := 9) rfl kX9_countLaying_4 8 (by decide) rfl kX9_countLaying_3 rfl dX9_countLaying_45 (al 18 8) rfl ?_
    refine zb_aload_n X dX9_countLaying_48 rfl 0 rfl ?_
    refine zb_getI X 0 (zTC_lt (by decide)) 9 [3, 0, 4, 5, 6, 9, 14, 20, 24, if r then 175 else 1, 0, 0, 0, 0, 0] rfl (C := RX9) (Tt := TX9) (N := 15) rfl kX9_countLaying_1 13 (by decide) rfl kX9_countLaying_0 rfl dX9_countLaying_49 (al 0 13) rfl ?_
    refine zb_callSi (n := 2) X h gX9_countLaying_X9_quotient rfl (by decide +kernel) (by decide) rfl rfl (Nat.le_of_ble_eq_true rfl) dX9_countLaying_52 (kc' := 0) (ks' := 0) rfl rfl (fun q3 a3 h => ?_)
    refine zb_iconst X (1 : Int32) dX9_countLaying_55 (by decide) ?_
    refine zb_iadd X dX9_countLaying_56 ?_
    exact hR 57 _ _ _ dX9_countLaying_57 rfl h
  have h := h.2 c2
  by_cases c3 : p1 = (8 : Int32)
  · have h := h.1 c3
    refine zb_tabIn X 58 dX9_countLaying_1 (by rw [c3]; decide) (by rw [c3]; decide) (by rw [c3]; rfl) (by decide) ?_
    refine zb_aload_n X dX9_countLaying_58 rfl 0 rfl ?_
    refine zb_getR X 0 (zTC_lt (by decide)) 9 [3, 0, 4, 5, 6, 9, 14, 20, 24, if r then 175 else 1, 0, 0, 0, 0, 0] rfl (C := RX9) (Tt := TX9) (N := 15) rfl kX9_countLaying_1 7 (by decide) 18 rfl kX9_countLaying_2 rfl dX9_countLaying_59 ?_
    refine zb_getI X 18 (zTC_lt (by decide)) 7 [6, 14, 4, 21, 22, 23, 0, 0, 0] rfl (C := RX7) (Tt := TX7) (N := 9) rfl kX9_countLaying_4 7 (by decide) rfl kX9_countLaying_5 rfl dX9_countLaying_62 (al 18 7) rfl ?_
    exact hR 65 _ _ _ dX9_countLaying_65 rfl h
  have h := h.2 c3
  by_cases c4 : p1 = (9 : Int32)
  · have h := h.1 c4
    refine zb_tabIn X 66 dX9_countLaying_1 (by rw [c4]; decide) (by rw [c4]; decide) (by rw [c4]; rfl) (by decide) ?_
    refine zb_aload_n X dX9_countLaying_66 rfl 0 rfl ?_
    refine zb_getR X 0 (zTC_lt (by decide)) 9 [3, 0, 4, 5, 6, 9, 14, 20, 24, if r then 175 else 1, 0, 0, 0, 0, 0] rfl (C := RX9) (Tt := TX9) (N := 15) rfl kX9_countLaying_1 7 (by decide) 18 rfl kX9_countLaying_2 rfl dX9_countLaying_67 ?_
    refine zb_getI X 18 (zTC_lt (by decide)) 7 [6, 14, 4, 21, 22, 23, 0, 0, 0] rfl (C := RX7) (Tt := TX7) (N := 9) rfl kX9_countLaying_4 8 (by decide) rfl kX9_countLaying_3 rfl dX9_countLaying_70 (al 18 8) rfl ?_
    exact hR 73 _ _ _ dX9_countLaying_73 rfl h
  have h := h.2 c4
  by_cases c5 : p1 = (10 : Int32)
  · have h := h.1 c5
    refine zb_tabIn X 74 dX9_countLaying_1 (by rw [c5]; decide) (by rw [c5]; decide) (by rw [c5]; rfl) (by decide) ?_
    refine zb_aload_n X dX9_countLaying_74 rfl 0 rfl ?_
    refine zb_getR X 0 (zTC_lt (by decide)) 9 [3, 0, 4, 5, 6, 9, 14, 20, 24, if r then 175 else 1, 0, 0, 0, 0, 0] rfl (C := RX9) (Tt := TX9) (N := 15) rfl kX9_countLaying_1 8 (by decide) 22 rfl kX9_countLaying_6 rfl dX9_countLaying_75 ?_
    refine zb_getI X 22 (zTC_lt (by decide)) 6 [6, 20, 4, 25, 26, 27, 28, 29, 30, 0, 0, 0, 0] rfl (C := RX6) (Tt := TX6) (N := 13) rfl kX9_countLaying_8 11 (by decide) rfl kX9_countLaying_7 rfl dX9_countLaying_78 (al 22 11) rfl ?_
    exact hR 81 _ _ _ dX9_countLaying_81 rfl h
  have h := h.2 c5
  refine zb_tabOut X 82 dX9_countLaying_1 (by have e0 := zne_int c1; have e1 := zne_int c2; have e2 := zne_int c3; have e3 := zne_int c4; have e4 := zne_int c5; rw [show (6 : Int32).toInt = 6 from by decide] at e0; rw [show (7 : Int32).toInt = 7 from by decide] at e1; rw [show (8 : Int32).toInt = 8 from by decide] at e2; rw [show (9 : Int32).toInt = 9 from by decide] at e3; rw [show (10 : Int32).toInt = 10 from by decide] at e4; omega) (by decide) ?_
  refine zb_aload_n X dX9_countLaying_82 rfl 0 rfl ?_
  refine zb_getR X 0 (zTC_lt (by decide)) 9 [3, 0, 4, 5, 6, 9, 14, 20, 24, if r then 175 else 1, 0, 0, 0, 0, 0] rfl (C := RX9) (Tt := TX9) (N := 15) rfl kX9_countLaying_1 8 (by decide) 22 rfl kX9_countLaying_6 rfl dX9_countLaying_83 ?_
  refine zb_getI X 22 (zTC_lt (by decide)) 6 [6, 20, 4, 25, 26, 27, 28, 29, 30, 0, 0, 0, 0] rfl (C := RX6) (Tt := TX6) (N := 13) rfl kX9_countLaying_8 12 (by decide) rfl kX9_countLaying_9 rfl dX9_countLaying_86 (al 22 12) rfl ?_
  exact hR 89 _ _ _ dX9_countLaying_89 rfl h
abbrev rmX9_text : Room := { frames := 6, cells := 0, slots := 0, locals := 132 }
theorem kX9_text_0 : Cond.fieldLink RX9 76 RX9 "tapeLength" "I" ∈ wsX9_text := by decide +kernel
theorem kX9_text_1 : zIn RX9 TX9 15 wsX9_text := by decide +kernel
theorem kX9_text_2 : Cond.fieldLink RX9 45 RX9 "parser" "LLoopForge$Parser;" ∈ wsX9_text := by decide +kernel
theorem kX9_text_3 : Cond.fieldLink RX9 103 RX9 "reason" "I" ∈ wsX9_text := by decide +kernel
theorem kX9_text_4 : Cond.fieldLink RX9 106 RX2 "wrong" "I" ∈ wsX9_text := by decide +kernel
theorem kX9_text_5 : zIn RX2 TX2 4 wsX9_text := by decide +kernel
def vcX9_text_0 (G : zG) (r : Bool) (ad ln : Nat → Nat)  (post : Int32 → (Nat → Nat → Int32) → Prop) (al : Nat → Nat → Int32) : Prop :=
  zMv G yX9_forgetPlan wsX9_forgetPlan rmX9_forgetPlan (zTC r) ad ln [.ref (ad 0)] (up2 al 0 1 (0 : Int32)) (fun a1 => zMi G yX2_readText wsX2_readText rmX2_readText (zTC r) ad ln [.ref (ad 7), .int (al 0 1)] a1 (fun q2 a2 => post (a2 7 3) (up2 a2 0 10 q2)))
set_option maxRecDepth 20000 in
theorem tX9_text_0 {G : zG} {Z : zC} {r : Bool} {ad ln : Nat → Nat} (X : zX G Z cX9_text 2 RX9 wsX9_text)  {post : Int32 → (Nat → Nat → Int32) → Prop} (hR : zRi G Z rmX9_text 2 (zTC r) ad ln cX9_text .int post)  (al : Nat → Nat → Int32) (h : vcX9_text_0 G r ad ln  post  al) : zB G Z rmX9_text 2 (zTC r) ad ln 0 0 0 [(0, .ref (ad 0))] [] al := by
  unfold vcX9_text_0 at h
  refine zb_aload_n X dX9_text_0 rfl 0 rfl ?_
  refine zb_getI X 0 (zTC_lt (by decide)) 9 [3, 0, 4, 5, 6, 9, 14, 20, 24, if r then 175 else 1, 0, 0, 0, 0, 0] rfl (C := RX9) (Tt := TX9) (N := 15) rfl kX9_text_1 1 (by decide) rfl kX9_text_0 rfl dX9_text_1 (al 0 1) rfl ?_
  refine zb_istore_n X (lv' := [(1, .int (al 0 1)), (0, .ref (ad 0))]) dX9_text_4 rfl (by decide) rfl ?_
  refine zb_aload_n X dX9_text_5 rfl 1 rfl ?_
  refine zb_iconst X (0 : Int32) dX9_text_6 (by decide) ?_
  refine zb_putI X 0 (zTC_lt (by decide)) 9 [3, 0, 4, 5, 6, 9, 14, 20, 24, if r then 175 else 1, 0, 0, 0, 0, 0] rfl (C := RX9) (Tt := TX9) (N := 15) rfl kX9_text_1 tyX9 tyX9_ok nmX9 1 (by decide) rfl kX9_text_0 rfl rfl rfl rfl dX9_text_7 ?_
  refine zb_aload_n X dX9_text_10 rfl 1 rfl ?_
  refine zb_callVv (n := 0) X 0 (zTC_lt (by decide)) 9 [3, 0, 4, 5, 6, 9, 14, 20, 24, if r then 175 else 1, 0, 0, 0, 0, 0] rfl (C := RX9) (Tt := TX9) (N := 15) rfl h gX9_text_X9_forgetPlan rfl (by decide +kernel) (by decide) rfl rfl (Nat.le_of_ble_eq_true rfl) dX9_text_11 (kc' := 0) (ks' := 0) rfl rfl (fun a1 h => ?_)
  refine zb_aload_n X dX9_text_14 rfl 1 rfl ?_
  refine zb_aload_n X dX9_text_15 rfl 1 rfl ?_
  refine zb_getR X 0 (zTC_lt (by decide)) 9 [3, 0, 4, 5, 6, 9, 14, 20, 24, if r then 175 else 1, 0, 0, 0, 0, 0] rfl (C := RX9) (Tt := TX9) (N := 15) rfl kX9_text_1 5 (by decide) 7 rfl kX9_text_2 rfl dX9_text_16 ?_
  refine zb_iload_n X dX9_text_19 rfl 0 rfl ?_
  refine zb_callVi (n := 1) X 7 (zTC_lt (by decide)) 2 [10, 6, 0, 0] rfl (C := RX2) (Tt := TX2) (N := 4) rfl h gX9_text_X2_readText rfl (by decide +kernel) (by decide) rfl rfl (Nat.le_of_ble_eq_true rfl) dX9_text_20 (kc' := 0) (ks' := 0) rfl rfl (fun q2 a2 h => ?_)
  refine zb_putI X 0 (zTC_lt (by decide)) 9 [3, 0, 4, 5, 6, 9, 14, 20, 24, if r then 175 else 1, 0, 0, 0, 0, 0] rfl (C := RX9) (Tt := TX9) (N := 15) rfl kX9_text_1 tyX9 tyX9_ok nmX9 10 (by decide) rfl kX9_text_3 rfl rfl rfl rfl dX9_text_23 ?_
  refine zb_aload_n X dX9_text_26 rfl 1 rfl ?_
  refine zb_getR X 0 (zTC_lt (by decide)) 9 [3, 0, 4, 5, 6, 9, 14, 20, 24, if r then 175 else 1, 0, 0, 0, 0, 0] rfl (C := RX9) (Tt := TX9) (N := 15) rfl kX9_text_1 5 (by decide) 7 rfl kX9_text_2 rfl dX9_text_27 ?_
  refine zb_getI X 7 (zTC_lt (by decide)) 2 [10, 6, 0, 0] rfl (C := RX2) (Tt := TX2) (N := 4) rfl kX9_text_5 3 (by decide) rfl kX9_text_4 rfl dX9_text_30 (a2 7 3) rfl ?_
  exact hR 33 _ _ _ dX9_text_33 rfl h
abbrev rmX9_feed (zc zs : Nat) : Room := { frames := 6, cells := zc, slots := zs, locals := 82 }
theorem kX9_feed_0 : Cond.fieldLink RX9 76 RX9 "tapeLength" "I" ∈ wsX9_feed := by decide +kernel
theorem kX9_feed_1 : zIn RX9 TX9 15 wsX9_feed := by decide +kernel
abbrev BX9_feed_10 (G : zG) (Z : zC) (r : Bool) (ad ln : Nat → Nat) (zc zs kc ks : Nat) (hkc : kc ≤ zc) (hks : ks ≤ zs) (p1 : Int32) (p2 : Int32) (p3 : Int32) (p4 : Int32) (p5 : Int32) (al : Nat → Nat → Int32) : Prop := zB G Z (rmX9_feed zc zs) 6 (zTC r) ad ln kc ks 10 [] [] al
def vcX9_feed_0 (G : zG) (r : Bool) (ad ln : Nat → Nat) (zc zs kc ks : Nat) (hkc : kc ≤ zc) (hks : ks ≤ zs) (p1 : Int32) (p2 : Int32) (p3 : Int32) (p4 : Int32) (p5 : Int32) (K10 : (Nat → Nat → Int32) → Prop) (post : Int32 → (Nat → Nat → Int32) → Prop) (al : Nat → Nat → Int32) : Prop :=
  ((al 0 1) ≤ (4076 : Int32) → zMv G yX9_appendBytes wsX9_appendBytes rmX9_appendBytes (zTC r) ad ln [.ref (ad 0), .int p1] al (fun a2 => zMv G yX9_appendBytes wsX9_appendBytes rmX9_appendBytes (zTC r) ad ln [.ref (ad 0), .int p2] a2 (fun a3 => zMv G yX9_appendBytes wsX9_appendBytes rmX9_appendBytes (zTC r) ad ln [.ref (ad 0), .int p3] a3 (fun a4 => zMv G yX9_appendBytes wsX9_appendBytes rmX9_appendBytes (zTC r) ad ln [.ref (ad 0), .int p4] a4 (fun a5 => zMv G yX9_appendBytes wsX9_appendBytes rmX9_appendBytes (zTC r) ad ln [.ref (ad 0), .int p5] a5 (fun a6 => post (a6 0 1) a6)))))) ∧ (¬ (al 0 1) ≤ (4076 : Int32) → K10  al)
set_option maxRecDepth 20000 in
theorem tX9_feed_0 {G : zG} {Z : zC} {r : Bool} {ad ln : Nat → Nat} (X : zX G Z cX9_feed 6 RX9 wsX9_feed) (zc zs kc ks : Nat) (hkc : kc ≤ zc) (hks : ks ≤ zs) (p1 : Int32) (p2 : Int32) (p3 : Int32) (p4 : Int32) (p5 : Int32) {K10 : (Nat → Nat → Int32) → Prop} {post : Int32 → (Nat → Nat → Int32) → Prop} (hR : zRi G Z (rmX9_feed zc zs) 6 (zTC r) ad ln cX9_feed .int post) (hK10 : ∀ al, K10  al → zB G Z (rmX9_feed zc zs) 6 (zTC r) ad ln kc ks 10 [] [] al) (al : Nat → Nat → Int32) (h : vcX9_feed_0 G r ad ln zc zs kc ks hkc hks p1 p2 p3 p4 p5 K10 post  al) : zB G Z (rmX9_feed zc zs) 6 (zTC r) ad ln kc ks 0 [(0, .ref (ad 0)), (1, .int p1), (2, .int p2), (3, .int p3), (4, .int p4), (5, .int p5)] [] al := by
  unfold vcX9_feed_0 at h
  refine zb_aload_n X dX9_feed_0 rfl 0 rfl ?_
  refine zb_getI X 0 (zTC_lt (by decide)) 9 [3, 0, 4, 5, 6, 9, 14, 20, 24, if r then 175 else 1, 0, 0, 0, 0, 0] rfl (C := RX9) (Tt := TX9) (N := 15) rfl kX9_feed_1 1 (by decide) rfl kX9_feed_0 rfl dX9_feed_1 (al 0 1) rfl ?_
  refine zb_sipush X (4076 : Int32) dX9_feed_4 (by decide) ?_
  refine zb_icmp_le X 20 dX9_feed_7 (by decide) (fun c1 => ?_) (fun c1 => ?_)
  · have h := h.1 c1
    refine zb_aload_n X dX9_feed_20 rfl 0 rfl ?_
    refine zb_iload_n X dX9_feed_21 rfl 1 rfl ?_
    refine zb_callVv (n := 1) X 0 (zTC_lt (by decide)) 9 [3, 0, 4, 5, 6, 9, 14, 20, 24, if r then 175 else 1, 0, 0, 0, 0, 0] rfl (C := RX9) (Tt := TX9) (N := 15) rfl h gX9_feed_X9_appendBytes rfl (by decide +kernel) ⟨⟨Nat.le_of_ble_eq_true rfl, Nat.le_of_ble_eq_true rfl⟩, hkc, hks⟩ rfl rfl (Nat.le_of_ble_eq_true rfl) dX9_feed_22 (kc' := kc) (ks' := ks) rfl rfl (fun a2 h => ?_)
    refine zb_aload_n X dX9_feed_25 rfl 0 rfl ?_
    refine zb_iload_n X dX9_feed_26 rfl 2 rfl ?_
    refine zb_callVv (n := 1) X 0 (zTC_lt (by decide)) 9 [3, 0, 4, 5, 6, 9, 14, 20, 24, if r then 175 else 1, 0, 0, 0, 0, 0] rfl (C := RX9) (Tt := TX9) (N := 15) rfl h gX9_feed_X9_appendBytes rfl (by decide +kernel) ⟨⟨Nat.le_of_ble_eq_true rfl, Nat.le_of_ble_eq_true rfl⟩, hkc, hks⟩ rfl rfl (Nat.le_of_ble_eq_true rfl) dX9_feed_27 (kc' := kc) (ks' := ks) rfl rfl (fun a3 h => ?_)
    refine zb_aload_n X dX9_feed_30 rfl 0 rfl ?_
    refine zb_iload_n X dX9_feed_31 rfl 3 rfl ?_
    refine zb_callVv (n := 1) X 0 (zTC_lt (by decide)) 9 [3, 0, 4, 5, 6, 9, 14, 20, 24, if r then 175 else 1, 0, 0, 0, 0, 0] rfl (C := RX9) (Tt := TX9) (N := 15) rfl h gX9_feed_X9_appendBytes rfl (by decide +kernel) ⟨⟨Nat.le_of_ble_eq_true rfl, Nat.le_of_ble_eq_true rfl⟩, hkc, hks⟩ rfl rfl (Nat.le_of_ble_eq_true rfl) dX9_feed_32 (kc' := kc) (ks' := ks) rfl rfl (fun a4 h => ?_)
    refine zb_aload_n X dX9_feed_35 rfl 0 rfl ?_
    refine zb_iload X dX9_feed_36 4 rfl ?_
    refine zb_callVv (n := 1) X 0 (zTC_lt (by decide)) 9 [3, 0, 4, 5, 6, 9, 14, 20, 24, if r then 175 else 1, 0, 0, 0, 0, 0] rfl (C := RX9) (Tt := TX9) (N := 15) rfl h gX9_feed_X9_appendBytes rfl (by decide +kernel) ⟨⟨Nat.le_of_ble_eq_true rfl, Nat.le_of_ble_eq_true rfl⟩, hkc, hks⟩ rfl rfl (Nat.le_of_ble_eq_true rfl) dX9_feed_38 (kc' := kc) (ks' := ks) rfl rfl (fun a5 h => ?_)
    refine zb_aload_n X dX9_feed_41 rfl 0 rfl ?_
    refine zb_iload X dX9_feed_42 5 rfl ?_
    refine zb_callVv (n := 1) X 0 (zTC_lt (by decide)) 9 [3, 0, 4, 5, 6, 9, 14, 20, 24, if r then 175 else 1, 0, 0, 0, 0, 0] rfl (C := RX9) (Tt := TX9) (N := 15) rfl h gX9_feed_X9_appendBytes rfl (by decide +kernel) ⟨⟨Nat.le_of_ble_eq_true rfl, Nat.le_of_ble_eq_true rfl⟩, hkc, hks⟩ rfl rfl (Nat.le_of_ble_eq_true rfl) dX9_feed_44 (kc' := kc) (ks' := ks) rfl rfl (fun a6 h => ?_)
    refine zb_aload_n X dX9_feed_47 rfl 0 rfl ?_
    refine zb_getI X 0 (zTC_lt (by decide)) 9 [3, 0, 4, 5, 6, 9, 14, 20, 24, if r then 175 else 1, 0, 0, 0, 0, 0] rfl (C := RX9) (Tt := TX9) (N := 15) rfl kX9_feed_1 1 (by decide) rfl kX9_feed_0 rfl dX9_feed_48 (a6 0 1) rfl ?_
    exact zb_widen hkc hks (hR 51 _ _ _ dX9_feed_51 rfl h)
  · have h := h.2 c1
    refine zb_sub [] rfl ?_
    exact hK10  al h
theorem uX9_feed_0 {G : zG} {Z : zC} {r : Bool} {ad ln : Nat → Nat} (X : zX G Z cX9_feed 6 RX9 wsX9_feed) (zc zs kc ks : Nat) (hkc : kc ≤ zc) (hks : ks ≤ zs) (p1 : Int32) (p2 : Int32) (p3 : Int32) (p4 : Int32) (p5 : Int32) {post : Int32 → (Nat → Nat → Int32) → Prop} (hR : zRi G Z (rmX9_feed zc zs) 6 (zTC r) ad ln cX9_feed .int post) (al : Nat → Nat → Int32) (h : vcX9_feed_0 G r ad ln zc zs kc ks hkc hks p1 p2 p3 p4 p5 (BX9_feed_10 G Z r ad ln zc zs kc ks hkc hks p1 p2 p3 p4 p5) post  al) : zB G Z (rmX9_feed zc zs) 6 (zTC r) ad ln kc ks 0 [(0, .ref (ad 0)), (1, .int p1), (2, .int p2), (3, .int p3), (4, .int p4), (5, .int p5)] [] al := tX9_feed_0 X zc zs kc ks hkc hks p1 p2 p3 p4 p5 hR (fun _ h => h)  al h
abbrev rmX9_end (zc zs : Nat) : Room := { frames := 6, cells := zc, slots := zs, locals := 82 }
theorem kX9_end_0 : Cond.fieldLink RX9 76 RX9 "tapeLength" "I" ∈ wsX9_end := by decide +kernel
theorem kX9_end_1 : zIn RX9 TX9 15 wsX9_end := by decide +kernel
abbrev BX9_end_12 (G : zG) (Z : zC) (r : Bool) (ad ln : Nat → Nat) (zc zs kc ks : Nat) (hkc : kc ≤ zc) (hks : ks ≤ zs) (p1 : Int32) (al : Nat → Nat → Int32) : Prop := zB G Z (rmX9_end zc zs) 2 (zTC r) ad ln kc ks 12 [] [] al
def vcX9_end_0 (G : zG) (r : Bool) (ad ln : Nat → Nat) (zc zs kc ks : Nat) (hkc : kc ≤ zc) (hks : ks ≤ zs) (p1 : Int32) (K12 : (Nat → Nat → Int32) → Prop) (post : Int32 → (Nat → Nat → Int32) → Prop) (al : Nat → Nat → Int32) : Prop :=
  (p1 < 0 → K12  al) ∧ (¬ p1 < 0 → (p1 ≤ (al 0 1) → post p1 (up2 al 0 1 p1)) ∧ (¬ p1 ≤ (al 0 1) → K12  al))
set_option maxRecDepth 20000 in
theorem tX9_end_0 {G : zG} {Z : zC} {r : Bool} {ad ln : Nat → Nat} (X : zX G Z cX9_end 2 RX9 wsX9_end) (zc zs kc ks : Nat) (hkc : kc ≤ zc) (hks : ks ≤ zs) (p1 : Int32) {K12 : (Nat → Nat → Int32) → Prop} {post : Int32 → (Nat → Nat → Int32) → Prop} (hR : zRi G Z (rmX9_end zc zs) 2 (zTC r) ad ln cX9_end .int post) (hK12 : ∀ al, K12  al → zB G Z (rmX9_end zc zs) 2 (zTC r) ad ln kc ks 12 [] [] al) (al : Nat → Nat → Int32) (h : vcX9_end_0 G r ad ln zc zs kc ks hkc hks p1 K12 post  al) : zB G Z (rmX9_end zc zs) 2 (zTC r) ad ln kc ks 0 [(0, .ref (ad 0)), (1, .int p1)] [] al := by
  unfold vcX9_end_0 at h
  refine zb_iload_n X dX9_end_0 rfl 1 rfl ?_
  refine zb_if_lt X 12 dX9_end_1 (by decide) (fun c1 => ?_) (fun c1 => ?_)
  · have h := h.1 c1
    refine zb_sub [] rfl ?_
    exact hK12  al h
  · have h := h.2 c1
    refine zb_iload_n X dX9_end_4 rfl 1 rfl ?_
    refine zb_aload_n X dX9_end_5 rfl 0 rfl ?_
    refine zb_getI X 0 (zTC_lt (by decide)) 9 [3, 0, 4, 5, 6, 9, 14, 20, 24, if r then 175 else 1, 0, 0, 0, 0, 0] rfl (C := RX9) (Tt := TX9) (N := 15) rfl kX9_end_1 1 (by decide) rfl kX9_end_0 rfl dX9_end_6 (al 0 1) rfl ?_
    refine zb_icmp_le X 22 dX9_end_9 (by decide) (fun c2 => ?_) (fun c2 => ?_)
    · have h := h.1 c2
      refine zb_aload_n X dX9_end_22 rfl 0 rfl ?_
      refine zb_iload_n X dX9_end_23 rfl 1 rfl ?_
      refine zb_putI X 0 (zTC_lt (by decide)) 9 [3, 0, 4, 5, 6, 9, 14, 20, 24, if r then 175 else 1, 0, 0, 0, 0, 0] rfl (C := RX9) (Tt := TX9) (N := 15) rfl kX9_end_1 tyX9 tyX9_ok nmX9 1 (by decide) rfl kX9_end_0 rfl rfl rfl rfl dX9_end_24 ?_
      refine zb_iload_n X dX9_end_27 rfl 1 rfl ?_
      exact zb_widen hkc hks (hR 28 _ _ _ dX9_end_28 rfl h)
    · have h := h.2 c2
      refine zb_sub [] rfl ?_
      exact hK12  al h
theorem uX9_end_0 {G : zG} {Z : zC} {r : Bool} {ad ln : Nat → Nat} (X : zX G Z cX9_end 2 RX9 wsX9_end) (zc zs kc ks : Nat) (hkc : kc ≤ zc) (hks : ks ≤ zs) (p1 : Int32) {post : Int32 → (Nat → Nat → Int32) → Prop} (hR : zRi G Z (rmX9_end zc zs) 2 (zTC r) ad ln cX9_end .int post) (al : Nat → Nat → Int32) (h : vcX9_end_0 G r ad ln zc zs kc ks hkc hks p1 (BX9_end_12 G Z r ad ln zc zs kc ks hkc hks p1) post  al) : zB G Z (rmX9_end zc zs) 2 (zTC r) ad ln kc ks 0 [(0, .ref (ad 0)), (1, .int p1)] [] al := tX9_end_0 X zc zs kc ks hkc hks p1 hR (fun _ h => h)  al h
abbrev rmX9_set (zc zs : Nat) : Room := { frames := 6, cells := zc, slots := zs, locals := 82 }
theorem kX9_set_0 : Cond.fieldLink RX9 111 RX9 "SETTING_LIMIT" "[I" ∈ wsX9_set := by decide +kernel
theorem kX9_set_1 : Cond.fieldLink RX9 22 RX9 "settings" "[I" ∈ wsX9_set := by decide +kernel
theorem kX9_set_2 : zIn RX9 TX9 15 wsX9_set := by decide +kernel
abbrev BX9_set_34 (G : zG) (Z : zC) (r : Bool) (ad ln : Nat → Nat) (zc zs kc ks : Nat) (hkc : kc ≤ zc) (hks : ks ≤ zs) (p1 : Int32) (p2 : Int32) (al : Nat → Nat → Int32) : Prop := zB G Z (rmX9_set zc zs) 4 (zTC r) ad ln kc ks 34 [] [] al
abbrev BX9_set_10 (G : zG) (Z : zC) (r : Bool) (ad ln : Nat → Nat) (zc zs kc ks : Nat) (hkc : kc ≤ zc) (hks : ks ≤ zs) (p1 : Int32) (p2 : Int32) (al : Nat → Nat → Int32) : Prop := zB G Z (rmX9_set zc zs) 4 (zTC r) ad ln kc ks 10 [] [] al
def vcX9_set_0 (G : zG) (r : Bool) (ad ln : Nat → Nat) (zc zs kc ks : Nat) (hkc : kc ≤ zc) (hks : ks ≤ zs) (p1 : Int32) (p2 : Int32) (K10 : (Nat → Nat → Int32) → Prop) (K34 : (Nat → Nat → Int32) → Prop) (post : Int32 → (Nat → Nat → Int32) → Prop) (al : Nat → Nat → Int32) : Prop :=
  (p1 < 0 → K10  al) ∧ (¬ p1 < 0 → (p1 < (9 : Int32) → (p2 < (1 : Int32) → K34  al) ∧ (¬ p2 < (1 : Int32) → (vp_in p1 9 ∧ (p2 ≤ (zSL p1.toNatClampNeg) → (vp_in p1 9 ∧ vp_in p1 9 ∧ zMv G yX9_forgetPlan wsX9_forgetPlan rmX9_forgetPlan (zTC r) ad ln [.ref (ad 0)] (up2 al 2 p1.toNatClampNeg p2) (fun a6 => post (al 2 p1.toNatClampNeg) a6))) ∧ (¬ p2 ≤ (zSL p1.toNatClampNeg) → K34  al)))) ∧ (¬ p1 < (9 : Int32) → K10  al))
set_option maxRecDepth 20000 in
theorem tX9_set_0 {G : zG} {Z : zC} {r : Bool} {ad ln : Nat → Nat} (X : zX G Z cX9_set 4 RX9 wsX9_set) (zc zs kc ks : Nat) (hkc : kc ≤ zc) (hks : ks ≤ zs) (p1 : Int32) (p2 : Int32) {K10 : (Nat → Nat → Int32) → Prop} {K34 : (Nat → Nat → Int32) → Prop} {post : Int32 → (Nat → Nat → Int32) → Prop} (hR : zRi G Z (rmX9_set zc zs) 4 (zTC r) ad ln cX9_set .int post) (hK10 : ∀ al, K10  al → zB G Z (rmX9_set zc zs) 4 (zTC r) ad ln kc ks 10 [] [] al) (hK34 : ∀ al, K34  al → zB G Z (rmX9_set zc zs) 4 (zTC r) ad ln kc ks 34 [] [] al) (al : Nat → Nat → Int32) (h : vcX9_set_0 G r ad ln zc zs kc ks hkc hks p1 p2 K10 K34 post  al) : zB G Z (rmX9_set zc zs) 4 (zTC r) ad ln kc ks 0 [(0, .ref (ad 0)), (1, .int p1), (2, .int p2)] [] al := by
  unfold vcX9_set_0 at h
  refine zb_iload_n X dX9_set_0 rfl 1 rfl ?_
  refine zb_if_lt X 10 dX9_set_1 (by decide) (fun c1 => ?_) (fun c1 => ?_)
  · have h := h.1 c1
    refine zb_sub [] rfl ?_
    exact hK10  al h
  · have h := h.2 c1
    refine zb_iload_n X dX9_set_4 rfl 1 rfl ?_
    refine zb_bipush X (9 : Int32) dX9_set_5 (by decide) ?_
    refine zb_icmp_lt X 20 dX9_set_7 (by decide) (fun c2 => ?_) (fun c2 => ?_)
    · have h := h.1 c2
      refine zb_iload_n X dX9_set_20 rfl 2 rfl ?_
      refine zb_iconst X (1 : Int32) dX9_set_21 (by decide) ?_
      refine zb_icmp_lt X 34 dX9_set_22 (by decide) (fun c3 => ?_) (fun c3 => ?_)
      · have h := h.1 c3
        refine zb_sub [] rfl ?_
        exact hK34  al h
      · have h := h.2 c3
        refine zb_iload_n X dX9_set_25 rfl 2 rfl ?_
        refine zb_stat X "SETTING_LIMIT" 9 zSL (fun A U h => h.2.2.2.1) kX9_set_0 dX9_set_26 (fun t4 ht4 => ?_)
        refine zb_iload_n X dX9_set_29 rfl 1 rfl ?_
        obtain ⟨hz, h⟩ := h
        refine zb_tald X t4 9 zSL ht4 p1.toNatClampNeg rfl hz dX9_set_30 ?_
        refine zb_icmp_le X 44 dX9_set_31 (by decide) (fun c5 => ?_) (fun c5 => ?_)
        · have h := h.1 c5
          refine zb_aload_n X dX9_set_44 rfl 0 rfl ?_
          refine zb_getR X 0 (zTC_lt (by decide)) 9 [3, 0, 4, 5, 6, 9, 14, 20, 24, if r then 175 else 1, 0, 0, 0, 0, 0] rfl (C := RX9) (Tt := TX9) (N := 15) rfl kX9_set_2 2 (by decide) 2 rfl kX9_set_1 rfl dX9_set_45 ?_
          refine zb_iload_n X dX9_set_48 rfl 1 rfl ?_
          obtain ⟨hz, h⟩ := h
          refine zb_iald X 2 (zTC_lt (by decide)) 1 9 0 0 rfl (Or.inl rfl) p1.toNatClampNeg rfl hz dX9_set_49 (al 2 p1.toNatClampNeg) rfl ?_
          refine zb_istore_n X (lv' := [(3, .int (al 2 p1.toNatClampNeg)), (0, .ref (ad 0)), (1, .int p1), (2, .int p2)]) dX9_set_50 rfl (by decide) rfl ?_
          refine zb_aload_n X dX9_set_51 rfl 1 rfl ?_
          refine zb_getR X 0 (zTC_lt (by decide)) 9 [3, 0, 4, 5, 6, 9, 14, 20, 24, if r then 175 else 1, 0, 0, 0, 0, 0] rfl (C := RX9) (Tt := TX9) (N := 15) rfl kX9_set_2 2 (by decide) 2 rfl kX9_set_1 rfl dX9_set_52 ?_
          refine zb_iload_n X dX9_set_55 rfl 2 rfl ?_
          refine zb_iload_n X dX9_set_56 rfl 3 rfl ?_
          obtain ⟨hz, h⟩ := h
          refine zb_iast X 2 (zTC_lt (by decide)) 1 9 0 0 rfl (Or.inl rfl) p1.toNatClampNeg rfl hz dX9_set_57 ?_
          refine zb_aload_n X dX9_set_58 rfl 1 rfl ?_
          refine zb_callVv (n := 0) X 0 (zTC_lt (by decide)) 9 [3, 0, 4, 5, 6, 9, 14, 20, 24, if r then 175 else 1, 0, 0, 0, 0, 0] rfl (C := RX9) (Tt := TX9) (N := 15) rfl h gX9_set_X9_forgetPlan rfl (by decide +kernel) ⟨⟨Nat.le_of_ble_eq_true rfl, Nat.le_of_ble_eq_true rfl⟩, hkc, hks⟩ rfl rfl (Nat.le_of_ble_eq_true rfl) dX9_set_59 (kc' := kc) (ks' := ks) rfl rfl (fun a6 h => ?_)
          refine zb_iload_n X dX9_set_62 rfl 0 rfl ?_
          exact zb_widen hkc hks (hR 63 _ _ _ dX9_set_63 rfl h)
        · have h := h.2 c5
          refine zb_sub [] rfl ?_
          exact hK34  al h
    · have h := h.2 c2
      refine zb_sub [] rfl ?_
      exact hK10  al h
theorem uX9_set_0 {G : zG} {Z : zC} {r : Bool} {ad ln : Nat → Nat} (X : zX G Z cX9_set 4 RX9 wsX9_set) (zc zs kc ks : Nat) (hkc : kc ≤ zc) (hks : ks ≤ zs) (p1 : Int32) (p2 : Int32) {post : Int32 → (Nat → Nat → Int32) → Prop} (hR : zRi G Z (rmX9_set zc zs) 4 (zTC r) ad ln cX9_set .int post) (al : Nat → Nat → Int32) (h : vcX9_set_0 G r ad ln zc zs kc ks hkc hks p1 p2 (BX9_set_10 G Z r ad ln zc zs kc ks hkc hks p1 p2) (BX9_set_34 G Z r ad ln zc zs kc ks hkc hks p1 p2) post  al) : zB G Z (rmX9_set zc zs) 4 (zTC r) ad ln kc ks 0 [(0, .ref (ad 0)), (1, .int p1), (2, .int p2)] [] al := tX9_set_0 X zc zs kc ks hkc hks p1 p2 hR (fun _ h => h) (fun _ h => h)  al h
abbrev rmX9_begin (zc zs : Nat) : Room := { frames := 6, cells := zc, slots := zs, locals := 82 }
theorem kX9_begin_0 : Cond.fieldLink RX9 25 RX9 "begins" "[I" ∈ wsX9_begin := by decide +kernel
theorem kX9_begin_1 : zIn RX9 TX9 15 wsX9_begin := by decide +kernel
theorem kX9_begin_2 : Cond.fieldLink RX9 118 RX9 "hasRun" "Z" ∈ wsX9_begin := by decide +kernel
abbrev BX9_begin_10 (G : zG) (Z : zC) (r : Bool) (ad ln : Nat → Nat) (zc zs kc ks : Nat) (hkc : kc ≤ zc) (hks : ks ≤ zs) (p1 : Int32) (p2 : Int32) (al : Nat → Nat → Int32) : Prop := zB G Z (rmX9_begin zc zs) 4 (zTC r) ad ln kc ks 10 [] [] al
def vcX9_begin_0 (G : zG) (r : Bool) (ad ln : Nat → Nat) (zc zs kc ks : Nat) (hkc : kc ≤ zc) (hks : ks ≤ zs) (p1 : Int32) (p2 : Int32) (K10 : (Nat → Nat → Int32) → Prop) (post : Int32 → (Nat → Nat → Int32) → Prop) (al : Nat → Nat → Int32) : Prop :=
  (p1 < 0 → K10  al) ∧ (¬ p1 < 0 → (p1 < (32 : Int32) → (vp_in p1 32 ∧ vp_in p1 32 ∧ post (al 3 p1.toNatClampNeg) (up2 (up2 al 3 p1.toNatClampNeg p2) 0 14 (0 : Int32)))) ∧ (¬ p1 < (32 : Int32) → K10  al))
set_option maxRecDepth 20000 in
theorem tX9_begin_0 {G : zG} {Z : zC} {r : Bool} {ad ln : Nat → Nat} (X : zX G Z cX9_begin 4 RX9 wsX9_begin) (zc zs kc ks : Nat) (hkc : kc ≤ zc) (hks : ks ≤ zs) (p1 : Int32) (p2 : Int32) {K10 : (Nat → Nat → Int32) → Prop} {post : Int32 → (Nat → Nat → Int32) → Prop} (hR : zRi G Z (rmX9_begin zc zs) 4 (zTC r) ad ln cX9_begin .int post) (hK10 : ∀ al, K10  al → zB G Z (rmX9_begin zc zs) 4 (zTC r) ad ln kc ks 10 [] [] al) (al : Nat → Nat → Int32) (h : vcX9_begin_0 G r ad ln zc zs kc ks hkc hks p1 p2 K10 post  al) : zB G Z (rmX9_begin zc zs) 4 (zTC r) ad ln kc ks 0 [(0, .ref (ad 0)), (1, .int p1), (2, .int p2)] [] al := by
  unfold vcX9_begin_0 at h
  refine zb_iload_n X dX9_begin_0 rfl 1 rfl ?_
  refine zb_if_lt X 10 dX9_begin_1 (by decide) (fun c1 => ?_) (fun c1 => ?_)
  · have h := h.1 c1
    refine zb_sub [] rfl ?_
    exact hK10  al h
  · have h := h.2 c1
    refine zb_iload_n X dX9_begin_4 rfl 1 rfl ?_
    refine zb_bipush X (32 : Int32) dX9_begin_5 (by decide) ?_
    refine zb_icmp_lt X 20 dX9_begin_7 (by decide) (fun c2 => ?_) (fun c2 => ?_)
    · have h := h.1 c2
      refine zb_aload_n X dX9_begin_20 rfl 0 rfl ?_
      refine zb_getR X 0 (zTC_lt (by decide)) 9 [3, 0, 4, 5, 6, 9, 14, 20, 24, if r then 175 else 1, 0, 0, 0, 0, 0] rfl (C := RX9) (Tt := TX9) (N := 15) rfl kX9_begin_1 3 (by decide) 3 rfl kX9_begin_0 rfl dX9_begin_21 ?_
      refine zb_iload_n X dX9_begin_24 rfl 1 rfl ?_
      obtain ⟨hz, h⟩ := h
      refine zb_iald X 3 (zTC_lt (by decide)) 1 32 0 0 rfl (Or.inl rfl) p1.toNatClampNeg rfl hz dX9_begin_25 (al 3 p1.toNatClampNeg) rfl ?_
      refine zb_istore_n X (lv' := [(3, .int (al 3 p1.toNatClampNeg)), (0, .ref (ad 0)), (1, .int p1), (2, .int p2)]) dX9_begin_26 rfl (by decide) rfl ?_
      refine zb_aload_n X dX9_begin_27 rfl 1 rfl ?_
      refine zb_getR X 0 (zTC_lt (by decide)) 9 [3, 0, 4, 5, 6, 9, 14, 20, 24, if r then 175 else 1, 0, 0, 0, 0, 0] rfl (C := RX9) (Tt := TX9) (N := 15) rfl kX9_begin_1 3 (by decide) 3 rfl kX9_begin_0 rfl dX9_begin_28 ?_
      refine zb_iload_n X dX9_begin_31 rfl 2 rfl ?_
      refine zb_iload_n X dX9_begin_32 rfl 3 rfl ?_
      obtain ⟨hz, h⟩ := h
      refine zb_iast X 3 (zTC_lt (by decide)) 1 32 0 0 rfl (Or.inl rfl) p1.toNatClampNeg rfl hz dX9_begin_33 ?_
      refine zb_aload_n X dX9_begin_34 rfl 1 rfl ?_
      refine zb_iconst X (0 : Int32) dX9_begin_35 (by decide) ?_
      refine zb_putI X 0 (zTC_lt (by decide)) 9 [3, 0, 4, 5, 6, 9, 14, 20, 24, if r then 175 else 1, 0, 0, 0, 0, 0] rfl (C := RX9) (Tt := TX9) (N := 15) rfl kX9_begin_1 tyX9 tyX9_ok nmX9 14 (by decide) rfl kX9_begin_2 rfl rfl rfl rfl dX9_begin_36 ?_
      refine zb_iload_n X dX9_begin_39 rfl 0 rfl ?_
      exact zb_widen hkc hks (hR 40 _ _ _ dX9_begin_40 rfl h)
    · have h := h.2 c2
      refine zb_sub [] rfl ?_
      exact hK10  al h
theorem uX9_begin_0 {G : zG} {Z : zC} {r : Bool} {ad ln : Nat → Nat} (X : zX G Z cX9_begin 4 RX9 wsX9_begin) (zc zs kc ks : Nat) (hkc : kc ≤ zc) (hks : ks ≤ zs) (p1 : Int32) (p2 : Int32) {post : Int32 → (Nat → Nat → Int32) → Prop} (hR : zRi G Z (rmX9_begin zc zs) 4 (zTC r) ad ln cX9_begin .int post) (al : Nat → Nat → Int32) (h : vcX9_begin_0 G r ad ln zc zs kc ks hkc hks p1 p2 (BX9_begin_10 G Z r ad ln zc zs kc ks hkc hks p1 p2) post  al) : zB G Z (rmX9_begin zc zs) 4 (zTC r) ad ln kc ks 0 [(0, .ref (ad 0)), (1, .int p1), (2, .int p2)] [] al := tX9_begin_0 X zc zs kc ks hkc hks p1 p2 hR (fun _ h => h)  al h
abbrev rmX9_count (zc zs : Nat) : Room := { frames := 7, cells := zc, slots := zs, locals := 178 }
theorem kX9_count_0 : Cond.fieldLink RX9 130 RX9 "distance" "I" ∈ wsX9_count := by decide +kernel
theorem kX9_count_1 : zIn RX9 TX9 15 wsX9_count := by decide +kernel
theorem kX9_count_2 : Cond.fieldLink RX9 76 RX9 "tapeLength" "I" ∈ wsX9_count := by decide +kernel
theorem kX9_count_3 : Cond.fieldLink RX9 103 RX9 "reason" "I" ∈ wsX9_count := by decide +kernel
theorem kX9_count_4 : Cond.fieldLink RX9 31 RX9 "loop" "LLoopForge$Loop;" ∈ wsX9_count := by decide +kernel
theorem kX9_count_5 : Cond.fieldLink RX9 124 RX0 "size" "I" ∈ wsX9_count := by decide +kernel
theorem kX9_count_6 : zIn RX0 TX0 3 wsX9_count := by decide +kernel
abbrev BX9_count_63 (G : zG) (Z : zC) (r : Bool) (ad ln : Nat → Nat) (zc zs kc ks : Nat) (hkc : kc ≤ zc) (hks : ks ≤ zs) (p1 : Int32) (s0 : Int32) (al : Nat → Nat → Int32) : Prop := zB G Z (rmX9_count zc zs) 2 (zTC r) ad ln kc ks 63 [] [.int s0, .ref (ad 0)] al
abbrev BX9_count_10 (G : zG) (Z : zC) (r : Bool) (ad ln : Nat → Nat) (zc zs kc ks : Nat) (hkc : kc ≤ zc) (hks : ks ≤ zs) (p1 : Int32) (al : Nat → Nat → Int32) : Prop := zB G Z (rmX9_count zc zs) 2 (zTC r) ad ln kc ks 10 [] [] al
def vcX9_count_83 (G : zG) (r : Bool) (ad ln : Nat → Nat) (zc zs kc ks : Nat) (hkc : kc ≤ zc) (hks : ks ≤ zs) (p1 : Int32) (K10 : (Nat → Nat → Int32) → Prop) (K63 : Int32 → (Nat → Nat → Int32) → Prop) (post : Int32 → (Nat → Nat → Int32) → Prop) (s0 : Int32) (al : Nat → Nat → Int32) : Prop :=
  post s0 al
def vcX9_count_55 (G : zG) (r : Bool) (ad ln : Nat → Nat) (zc zs kc ks : Nat) (hkc : kc ≤ zc) (hks : ks ≤ zs) (p1 : Int32) (K10 : (Nat → Nat → Int32) → Prop) (K63 : Int32 → (Nat → Nat → Int32) → Prop) (post : Int32 → (Nat → Nat → Int32) → Prop) (s0 : Int32) (al : Nat → Nat → Int32) : Prop :=
  post s0 al
def vcX9_count_0 (G : zG) (r : Bool) (ad ln : Nat → Nat) (zc zs kc ks : Nat) (hkc : kc ≤ zc) (hks : ks ≤ zs) (p1 : Int32) (K10 : (Nat → Nat → Int32) → Prop) (K63 : Int32 → (Nat → Nat → Int32) → Prop) (post : Int32 → (Nat → Nat → Int32) → Prop) (al : Nat → Nat → Int32) : Prop :=
  (p1 < 0 → K10  al) ∧ (¬ p1 < 0 → (p1 ≤ (11 : Int32) → ((2 : Int32) < p1 → ((5 : Int32) < p1 → (¬ (al 0 13) = 0 → zMi G yX9_countLaying wsX9_countLaying rmX9_countLaying (zTC r) ad ln [.ref (ad 0), .int p1] al (fun q6 a6 => vcX9_count_83 G r ad ln zc zs kc ks hkc hks p1 K10 K63 post q6 a6)) ∧ ((al 0 13) = 0 → vcX9_count_83 G r ad ln zc zs kc ks hkc hks p1 K10 K63 post (0 : Int32) al)) ∧ (¬ (5 : Int32) < p1 → K63 p1 al)) ∧ (¬ (2 : Int32) < p1 → (¬ p1 = 0 → (¬ p1 = (1 : Int32) → vcX9_count_55 G r ad ln zc zs kc ks hkc hks p1 K10 K63 post (al 0 1) al) ∧ (p1 = (1 : Int32) → vcX9_count_55 G r ad ln zc zs kc ks hkc hks p1 K10 K63 post (al 0 10) al)) ∧ (p1 = 0 → vcX9_count_55 G r ad ln zc zs kc ks hkc hks p1 K10 K63 post (al 4 1) al))) ∧ (¬ p1 ≤ (11 : Int32) → K10  al))
def vcX9_count_66 (G : zG) (r : Bool) (ad ln : Nat → Nat) (zc zs kc ks : Nat) (hkc : kc ≤ zc) (hks : ks ≤ zs) (p1 : Int32) (K10 : (Nat → Nat → Int32) → Prop) (K63 : Int32 → (Nat → Nat → Int32) → Prop) (post : Int32 → (Nat → Nat → Int32) → Prop) (s0 : Int32) (al : Nat → Nat → Int32) : Prop :=
  post s0 al
set_option maxRecDepth 20000 in
theorem tX9_count_83 {G : zG} {Z : zC} {r : Bool} {ad ln : Nat → Nat} (X : zX G Z cX9_count 2 RX9 wsX9_count) (zc zs kc ks : Nat) (hkc : kc ≤ zc) (hks : ks ≤ zs) (p1 : Int32) {K10 : (Nat → Nat → Int32) → Prop} {K63 : Int32 → (Nat → Nat → Int32) → Prop} {post : Int32 → (Nat → Nat → Int32) → Prop} (hR : zRi G Z (rmX9_count zc zs) 2 (zTC r) ad ln cX9_count .int post) (hK10 : ∀ al, K10  al → zB G Z (rmX9_count zc zs) 2 (zTC r) ad ln kc ks 10 [] [] al) (hK63 : ∀ s0 : Int32, ∀ al, K63 s0 al → zB G Z (rmX9_count zc zs) 2 (zTC r) ad ln kc ks 63 [] [.int s0, .ref (ad 0)] al) (s0 : Int32) (al : Nat → Nat → Int32) (h : vcX9_count_83 G r ad ln zc zs kc ks hkc hks p1 K10 K63 post s0 al) : zB G Z (rmX9_count zc zs) 2 (zTC r) ad ln kc ks 83 [] [.int s0] al := by
  unfold vcX9_count_83 at h
  exact zb_widen hkc hks (hR 83 _ _ _ dX9_count_83 rfl h)
set_option maxRecDepth 20000 in
theorem tX9_count_55 {G : zG} {Z : zC} {r : Bool} {ad ln : Nat → Nat} (X : zX G Z cX9_count 2 RX9 wsX9_count) (zc zs kc ks : Nat) (hkc : kc ≤ zc) (hks : ks ≤ zs) (p1 : Int32) {K10 : (Nat → Nat → Int32) → Prop} {K63 : Int32 → (Nat → Nat → Int32) → Prop} {post : Int32 → (Nat → Nat → Int32) → Prop} (hR : zRi G Z (rmX9_count zc zs) 2 (zTC r) ad ln cX9_count .int post) (hK10 : ∀ al, K10  al → zB G Z (rmX9_count zc zs) 2 (zTC r) ad ln kc ks 10 [] [] al) (hK63 : ∀ s0 : Int32, ∀ al, K63 s0 al → zB G Z (rmX9_count zc zs) 2 (zTC r) ad ln kc ks 63 [] [.int s0, .ref (ad 0)] al) (s0 : Int32) (al : Nat → Nat → Int32) (h : vcX9_count_55 G r ad ln zc zs kc ks hkc hks p1 K10 K63 post s0 al) : zB G Z (rmX9_count zc zs) 2 (zTC r) ad ln kc ks 55 [] [.int s0] al := by
  unfold vcX9_count_55 at h
  exact zb_widen hkc hks (hR 55 _ _ _ dX9_count_55 rfl h)
set_option maxRecDepth 20000 in
theorem tX9_count_0 {G : zG} {Z : zC} {r : Bool} {ad ln : Nat → Nat} (X : zX G Z cX9_count 2 RX9 wsX9_count) (zc zs kc ks : Nat) (hkc : kc ≤ zc) (hks : ks ≤ zs) (p1 : Int32) {K10 : (Nat → Nat → Int32) → Prop} {K63 : Int32 → (Nat → Nat → Int32) → Prop} {post : Int32 → (Nat → Nat → Int32) → Prop} (hR : zRi G Z (rmX9_count zc zs) 2 (zTC r) ad ln cX9_count .int post) (hK10 : ∀ al, K10  al → zB G Z (rmX9_count zc zs) 2 (zTC r) ad ln kc ks 10 [] [] al) (hK63 : ∀ s0 : Int32, ∀ al, K63 s0 al → zB G Z (rmX9_count zc zs) 2 (zTC r) ad ln kc ks 63 [] [.int s0, .ref (ad 0)] al) (al : Nat → Nat → Int32) (h : vcX9_count_0 G r ad ln zc zs kc ks hkc hks p1 K10 K63 post  al) : zB G Z (rmX9_count zc zs) 2 (zTC r) ad ln kc ks 0 [(0, .ref (ad 0)), (1, .int p1)] [] al := by
  unfold vcX9_count_0 at h
  refine zb_iload_n X dX9_count_0 rfl 1 rfl ?_
  refine zb_if_lt X 10 dX9_count_1 (by decide) (fun c1 => ?_) (fun c1 => ?_)
  · have h := h.1 c1
    refine zb_sub [] rfl ?_
    exact hK10  al h
  · have h := h.2 c1
    refine zb_iload_n X dX9_count_4 rfl 1 rfl ?_
    refine zb_bipush X (11 : Int32) dX9_count_5 (by decide) ?_
    refine zb_icmp_le X 20 dX9_count_7 (by decide) (fun c2 => ?_) (fun c2 => ?_)
    · have h := h.1 c2
      refine zb_iload_n X dX9_count_20 rfl 1 rfl ?_
      refine zb_iconst X (2 : Int32) dX9_count_21 (by decide) ?_
      refine zb_icmp_gt X 56 dX9_count_22 (by decide) (fun c3 => ?_) (fun c3 => ?_)
      · have h := h.1 c3
        refine zb_iload_n X dX9_count_56 rfl 1 rfl ?_
        refine zb_iconst X (5 : Int32) dX9_count_57 (by decide) ?_
        refine zb_icmp_gt X 67 dX9_count_58 (by decide) (fun c4 => ?_) (fun c4 => ?_)
        · have h := h.1 c4
          refine zb_aload_n X dX9_count_67 rfl 0 rfl ?_
          refine zb_getI X 0 (zTC_lt (by decide)) 9 [3, 0, 4, 5, 6, 9, 14, 20, 24, if r then 175 else 1, 0, 0, 0, 0, 0] rfl (C := RX9) (Tt := TX9) (N := 15) rfl kX9_count_1 13 (by decide) rfl kX9_count_0 rfl dX9_count_68 (al 0 13) rfl ?_
          refine zb_if_ne X 78 dX9_count_71 (by decide) (fun c5 => ?_) (fun c5 => ?_)
          · have h := h.1 c5
            refine zb_aload_n X dX9_count_78 rfl 0 rfl ?_
            refine zb_iload_n X dX9_count_79 rfl 1 rfl ?_
            refine zb_callVi (n := 1) X 0 (zTC_lt (by decide)) 9 [3, 0, 4, 5, 6, 9, 14, 20, 24, if r then 175 else 1, 0, 0, 0, 0, 0] rfl (C := RX9) (Tt := TX9) (N := 15) rfl h gX9_count_X9_countLaying rfl (by decide +kernel) ⟨⟨Nat.le_of_ble_eq_true rfl, Nat.le_of_ble_eq_true rfl⟩, hkc, hks⟩ rfl rfl (Nat.le_of_ble_eq_true rfl) dX9_count_80 (kc' := kc) (ks' := ks) rfl rfl (fun q6 a6 h => ?_)
            refine zb_sub [] rfl ?_
            exact tX9_count_83 X zc zs kc ks hkc hks p1 hR hK10 hK63 q6 a6 h
          · have h := h.2 c5
            refine zb_iconst X (0 : Int32) dX9_count_74 (by decide) ?_
            refine zb_goto X 83 dX9_count_75 (by decide) ?_
            refine zb_sub [] rfl ?_
            exact tX9_count_83 X zc zs kc ks hkc hks p1 hR hK10 hK63 (0 : Int32) al h
        · have h := h.2 c4
          refine zb_aload_n X dX9_count_61 rfl 0 rfl ?_
          refine zb_iload_n X dX9_count_62 rfl 1 rfl ?_
          refine zb_sub [] rfl ?_
          exact hK63 p1 al h
      · have h := h.2 c3
        refine zb_iload_n X dX9_count_25 rfl 1 rfl ?_
        refine zb_if_ne X 39 dX9_count_26 (by decide) (fun c4 => ?_) (fun c4 => ?_)
        · have h := h.1 c4
          refine zb_iload_n X dX9_count_39 rfl 1 rfl ?_
          refine zb_iconst X (1 : Int32) dX9_count_40 (by decide) ?_
          refine zb_icmp_ne X 51 dX9_count_41 (by decide) (fun c5 => ?_) (fun c5 => ?_)
          · have h := h.1 c5
            refine zb_aload_n X dX9_count_51 rfl 0 rfl ?_
            refine zb_getI X 0 (zTC_lt (by decide)) 9 [3, 0, 4, 5, 6, 9, 14, 20, 24, if r then 175 else 1, 0, 0, 0, 0, 0] rfl (C := RX9) (Tt := TX9) (N := 15) rfl kX9_count_1 1 (by decide) rfl kX9_count_2 rfl dX9_count_52 (al 0 1) rfl ?_
            refine zb_sub [] rfl ?_
            exact tX9_count_55 X zc zs kc ks hkc hks p1 hR hK10 hK63 (al 0 1) al h
          · have h := h.2 c5
            refine zb_aload_n X dX9_count_44 rfl 0 rfl ?_
            refine zb_getI X 0 (zTC_lt (by decide)) 9 [3, 0, 4, 5, 6, 9, 14, 20, 24, if r then 175 else 1, 0, 0, 0, 0, 0] rfl (C := RX9) (Tt := TX9) (N := 15) rfl kX9_count_1 10 (by decide) rfl kX9_count_3 rfl dX9_count_45 (al 0 10) rfl ?_
            refine zb_goto X 55 dX9_count_48 (by decide) ?_
            refine zb_sub [] rfl ?_
            exact tX9_count_55 X zc zs kc ks hkc hks p1 hR hK10 hK63 (al 0 10) al h
        · have h := h.2 c4
          refine zb_aload_n X dX9_count_29 rfl 0 rfl ?_
          refine zb_getR X 0 (zTC_lt (by decide)) 9 [3, 0, 4, 5, 6, 9, 14, 20, 24, if r then 175 else 1, 0, 0, 0, 0, 0] rfl (C := RX9) (Tt := TX9) (N := 15) rfl kX9_count_1 4 (by decide) 4 rfl kX9_count_4 rfl dX9_count_30 ?_
          refine zb_getI X 4 (zTC_lt (by decide)) 0 [7, 0, 8] rfl (C := RX0) (Tt := TX0) (N := 3) rfl kX9_count_6 1 (by decide) rfl kX9_count_5 rfl dX9_count_33 (al 4 1) rfl ?_
          refine zb_goto X 55 dX9_count_36 (by decide) ?_
          refine zb_sub [] rfl ?_
          exact tX9_count_55 X zc zs kc ks hkc hks p1 hR hK10 hK63 (al 4 1) al h
    · have h := h.2 c2
      refine zb_sub [] rfl ?_
      exact hK10  al h
set_option maxRecDepth 20000 in
theorem tX9_count_66 {G : zG} {Z : zC} {r : Bool} {ad ln : Nat → Nat} (X : zX G Z cX9_count 2 RX9 wsX9_count) (zc zs kc ks : Nat) (hkc : kc ≤ zc) (hks : ks ≤ zs) (p1 : Int32) {K10 : (Nat → Nat → Int32) → Prop} {K63 : Int32 → (Nat → Nat → Int32) → Prop} {post : Int32 → (Nat → Nat → Int32) → Prop} (hR : zRi G Z (rmX9_count zc zs) 2 (zTC r) ad ln cX9_count .int post) (hK10 : ∀ al, K10  al → zB G Z (rmX9_count zc zs) 2 (zTC r) ad ln kc ks 10 [] [] al) (hK63 : ∀ s0 : Int32, ∀ al, K63 s0 al → zB G Z (rmX9_count zc zs) 2 (zTC r) ad ln kc ks 63 [] [.int s0, .ref (ad 0)] al) (s0 : Int32) (al : Nat → Nat → Int32) (h : vcX9_count_66 G r ad ln zc zs kc ks hkc hks p1 K10 K63 post s0 al) : zB G Z (rmX9_count zc zs) 2 (zTC r) ad ln kc ks 66 [] [.int s0] al := by
  unfold vcX9_count_66 at h
  exact zb_widen hkc hks (hR 66 _ _ _ dX9_count_66 rfl h)
theorem uX9_count_83 {G : zG} {Z : zC} {r : Bool} {ad ln : Nat → Nat} (X : zX G Z cX9_count 2 RX9 wsX9_count) (zc zs kc ks : Nat) (hkc : kc ≤ zc) (hks : ks ≤ zs) (p1 : Int32) {post : Int32 → (Nat → Nat → Int32) → Prop} (hR : zRi G Z (rmX9_count zc zs) 2 (zTC r) ad ln cX9_count .int post) (s0 : Int32) (al : Nat → Nat → Int32) (h : vcX9_count_83 G r ad ln zc zs kc ks hkc hks p1 (BX9_count_10 G Z r ad ln zc zs kc ks hkc hks p1) (BX9_count_63 G Z r ad ln zc zs kc ks hkc hks p1) post s0 al) : zB G Z (rmX9_count zc zs) 2 (zTC r) ad ln kc ks 83 [] [.int s0] al := tX9_count_83 X zc zs kc ks hkc hks p1 hR (fun _ h => h) (fun _ _ h => h) s0 al h
theorem uX9_count_55 {G : zG} {Z : zC} {r : Bool} {ad ln : Nat → Nat} (X : zX G Z cX9_count 2 RX9 wsX9_count) (zc zs kc ks : Nat) (hkc : kc ≤ zc) (hks : ks ≤ zs) (p1 : Int32) {post : Int32 → (Nat → Nat → Int32) → Prop} (hR : zRi G Z (rmX9_count zc zs) 2 (zTC r) ad ln cX9_count .int post) (s0 : Int32) (al : Nat → Nat → Int32) (h : vcX9_count_55 G r ad ln zc zs kc ks hkc hks p1 (BX9_count_10 G Z r ad ln zc zs kc ks hkc hks p1) (BX9_count_63 G Z r ad ln zc zs kc ks hkc hks p1) post s0 al) : zB G Z (rmX9_count zc zs) 2 (zTC r) ad ln kc ks 55 [] [.int s0] al := tX9_count_55 X zc zs kc ks hkc hks p1 hR (fun _ h => h) (fun _ _ h => h) s0 al h
theorem uX9_count_0 {G : zG} {Z : zC} {r : Bool} {ad ln : Nat → Nat} (X : zX G Z cX9_count 2 RX9 wsX9_count) (zc zs kc ks : Nat) (hkc : kc ≤ zc) (hks : ks ≤ zs) (p1 : Int32) {post : Int32 → (Nat → Nat → Int32) → Prop} (hR : zRi G Z (rmX9_count zc zs) 2 (zTC r) ad ln cX9_count .int post) (al : Nat → Nat → Int32) (h : vcX9_count_0 G r ad ln zc zs kc ks hkc hks p1 (BX9_count_10 G Z r ad ln zc zs kc ks hkc hks p1) (BX9_count_63 G Z r ad ln zc zs kc ks hkc hks p1) post  al) : zB G Z (rmX9_count zc zs) 2 (zTC r) ad ln kc ks 0 [(0, .ref (ad 0)), (1, .int p1)] [] al := tX9_count_0 X zc zs kc ks hkc hks p1 hR (fun _ h => h) (fun _ _ h => h)  al h
theorem uX9_count_66 {G : zG} {Z : zC} {r : Bool} {ad ln : Nat → Nat} (X : zX G Z cX9_count 2 RX9 wsX9_count) (zc zs kc ks : Nat) (hkc : kc ≤ zc) (hks : ks ≤ zs) (p1 : Int32) {post : Int32 → (Nat → Nat → Int32) → Prop} (hR : zRi G Z (rmX9_count zc zs) 2 (zTC r) ad ln cX9_count .int post) (s0 : Int32) (al : Nat → Nat → Int32) (h : vcX9_count_66 G r ad ln zc zs kc ks hkc hks p1 (BX9_count_10 G Z r ad ln zc zs kc ks hkc hks p1) (BX9_count_63 G Z r ad ln zc zs kc ks hkc hks p1) post s0 al) : zB G Z (rmX9_count zc zs) 2 (zTC r) ad ln kc ks 66 [] [.int s0] al := tX9_count_66 X zc zs kc ks hkc hks p1 hR (fun _ h => h) (fun _ _ h => h) s0 al h
abbrev rmX9_delay (zc zs : Nat) : Room := { frames := 6, cells := zc, slots := zs, locals := 157 }
theorem kX9_delay_0 : Cond.fieldLink RX9 31 RX9 "loop" "LLoopForge$Loop;" ∈ wsX9_delay := by decide +kernel
theorem kX9_delay_1 : zIn RX9 TX9 15 wsX9_delay := by decide +kernel
theorem kX9_delay_2 : Cond.fieldLink RX9 124 RX0 "size" "I" ∈ wsX9_delay := by decide +kernel
theorem kX9_delay_3 : zIn RX0 TX0 3 wsX9_delay := by decide +kernel
theorem kX9_delay_4 : Cond.fieldLink RX9 54 RX9 "waits" "LLoopForge$Waits;" ∈ wsX9_delay := by decide +kernel
theorem kX9_delay_5 : Cond.fieldLink RX9 150 RX8 "delay" "[I" ∈ wsX9_delay := by decide +kernel
theorem kX9_delay_6 : zIn RX8 TX8 10 wsX9_delay := by decide +kernel
abbrev BX9_delay_61 (G : zG) (Z : zC) (r : Bool) (ad ln : Nat → Nat) (zc zs kc ks : Nat) (hkc : kc ≤ zc) (hks : ks ≤ zs) (p1 : Int32) (p2 : Int32) (p3 : Int32) (al : Nat → Nat → Int32) : Prop := zB G Z (rmX9_delay zc zs) 5 (zTC r) ad ln kc ks 61 [] [] al
abbrev BX9_delay_41 (G : zG) (Z : zC) (r : Bool) (ad ln : Nat → Nat) (zc zs kc ks : Nat) (hkc : kc ≤ zc) (hks : ks ≤ zs) (p1 : Int32) (p2 : Int32) (p3 : Int32) (al : Nat → Nat → Int32) : Prop := zB G Z (rmX9_delay zc zs) 5 (zTC r) ad ln kc ks 41 [(0, .ref (ad 0)), (1, .int p1), (2, .int p2), (3, .int p3)] [.ref (ad 0)] al
abbrev BX9_delay_30 (G : zG) (Z : zC) (r : Bool) (ad ln : Nat → Nat) (zc zs kc ks : Nat) (hkc : kc ≤ zc) (hks : ks ≤ zs) (p1 : Int32) (p2 : Int32) (p3 : Int32) (al : Nat → Nat → Int32) : Prop := zB G Z (rmX9_delay zc zs) 5 (zTC r) ad ln kc ks 30 [] [] al
def vcX9_delay_0 (G : zG) (r : Bool) (ad ln : Nat → Nat) (zc zs kc ks : Nat) (hkc : kc ≤ zc) (hks : ks ≤ zs) (p1 : Int32) (p2 : Int32) (p3 : Int32) (K30 : (Nat → Nat → Int32) → Prop) (K41 : (Nat → Nat → Int32) → Prop) (K61 : (Nat → Nat → Int32) → Prop) (post : Int32 → (Nat → Nat → Int32) → Prop) (al : Nat → Nat → Int32) : Prop :=
  (p1 < 0 → K30  al) ∧ (¬ p1 < 0 → ((al 4 1) ≤ p1 → K30  al) ∧ (¬ (al 4 1) ≤ p1 → (p2 < 0 → K30  al) ∧ (¬ p2 < 0 → (p2 < (al 4 1) → K41  al) ∧ (¬ p2 < (al 4 1) → K30  al))))
def vcX9_delay_44 (G : zG) (r : Bool) (ad ln : Nat → Nat) (zc zs kc ks : Nat) (hkc : kc ≤ zc) (hks : ks ≤ zs) (p1 : Int32) (p2 : Int32) (p3 : Int32) (K30 : (Nat → Nat → Int32) → Prop) (K41 : (Nat → Nat → Int32) → Prop) (K61 : (Nat → Nat → Int32) → Prop) (post : Int32 → (Nat → Nat → Int32) → Prop) (al : Nat → Nat → Int32) : Prop :=
  zMi G yX8_find wsX8_find rmX8_find (zTC r) ad ln [.ref (ad 12), .int p1, .int p2, .int p3] al (fun q1 a1 => (0 ≤ q1 → (vp_in q1 (ln 16) ∧ post (a1 16 q1.toNatClampNeg) a1)) ∧ (¬ 0 ≤ q1 → K61  a1))
set_option maxRecDepth 20000 in
theorem tX9_delay_0 {G : zG} {Z : zC} {r : Bool} {ad ln : Nat → Nat} (X : zX G Z cX9_delay 5 RX9 wsX9_delay) (zc zs kc ks : Nat) (hkc : kc ≤ zc) (hks : ks ≤ zs) (p1 : Int32) (p2 : Int32) (p3 : Int32) {K30 : (Nat → Nat → Int32) → Prop} {K41 : (Nat → Nat → Int32) → Prop} {K61 : (Nat → Nat → Int32) → Prop} {post : Int32 → (Nat → Nat → Int32) → Prop} (hR : zRi G Z (rmX9_delay zc zs) 5 (zTC r) ad ln cX9_delay .int post) (hK30 : ∀ al, K30  al → zB G Z (rmX9_delay zc zs) 5 (zTC r) ad ln kc ks 30 [] [] al) (hK41 : ∀ al, K41  al → zB G Z (rmX9_delay zc zs) 5 (zTC r) ad ln kc ks 41 [(0, .ref (ad 0)), (1, .int p1), (2, .int p2), (3, .int p3)] [.ref (ad 0)] al) (hK61 : ∀ al, K61  al → zB G Z (rmX9_delay zc zs) 5 (zTC r) ad ln kc ks 61 [] [] al) (al : Nat → Nat → Int32) (h : vcX9_delay_0 G r ad ln zc zs kc ks hkc hks p1 p2 p3 K30 K41 K61 post  al) : zB G Z (rmX9_delay zc zs) 5 (zTC r) ad ln kc ks 0 [(0, .ref (ad 0)), (1, .int p1), (2, .int p2), (3, .int p3)] [] al := by
  unfold vcX9_delay_0 at h
  refine zb_iload_n X dX9_delay_0 rfl 1 rfl ?_
  refine zb_if_lt X 30 dX9_delay_1 (by decide) (fun c1 => ?_) (fun c1 => ?_)
  · have h := h.1 c1
    refine zb_sub [] rfl ?_
    exact hK30  al h
  · have h := h.2 c1
    refine zb_iload_n X dX9_delay_4 rfl 1 rfl ?_
    refine zb_aload_n X dX9_delay_5 rfl 0 rfl ?_
    refine zb_getR X 0 (zTC_lt (by decide)) 9 [3, 0, 4, 5, 6, 9, 14, 20, 24, if r then 175 else 1, 0, 0, 0, 0, 0] rfl (C := RX9) (Tt := TX9) (N := 15) rfl kX9_delay_1 4 (by decide) 4 rfl kX9_delay_0 rfl dX9_delay_6 ?_
    refine zb_getI X 4 (zTC_lt (by decide)) 0 [7, 0, 8] rfl (C := RX0) (Tt := TX0) (N := 3) rfl kX9_delay_3 1 (by decide) rfl kX9_delay_2 rfl dX9_delay_9 (al 4 1) rfl ?_
    refine zb_icmp_ge X 30 dX9_delay_12 (by decide) (fun c2 => ?_) (fun c2 => ?_)
    · have h := h.1 c2
      refine zb_sub [] rfl ?_
      exact hK30  al h
    · have h := h.2 c2
      refine zb_iload_n X dX9_delay_15 rfl 2 rfl ?_
      refine zb_if_lt X 30 dX9_delay_16 (by decide) (fun c3 => ?_) (fun c3 => ?_)
      · have h := h.1 c3
        refine zb_sub [] rfl ?_
        exact hK30  al h
      · have h := h.2 c3
        refine zb_iload_n X dX9_delay_19 rfl 2 rfl ?_
        refine zb_aload_n X dX9_delay_20 rfl 0 rfl ?_
        refine zb_getR X 0 (zTC_lt (by decide)) 9 [3, 0, 4, 5, 6, 9, 14, 20, 24, if r then 175 else 1, 0, 0, 0, 0, 0] rfl (C := RX9) (Tt := TX9) (N := 15) rfl kX9_delay_1 4 (by decide) 4 rfl kX9_delay_0 rfl dX9_delay_21 ?_
        refine zb_getI X 4 (zTC_lt (by decide)) 0 [7, 0, 8] rfl (C := RX0) (Tt := TX0) (N := 3) rfl kX9_delay_3 1 (by decide) rfl kX9_delay_2 rfl dX9_delay_24 (al 4 1) rfl ?_
        refine zb_icmp_lt X 40 dX9_delay_27 (by decide) (fun c4 => ?_) (fun c4 => ?_)
        · have h := h.1 c4
          refine zb_aload_n X dX9_delay_40 rfl 0 rfl ?_
          refine zb_sub [0, 1, 2, 3] rfl ?_
          exact hK41  al h
        · have h := h.2 c4
          refine zb_sub [] rfl ?_
          exact hK30  al h
set_option maxRecDepth 20000 in
theorem tX9_delay_44 {G : zG} {Z : zC} {r : Bool} {ad ln : Nat → Nat} (X : zX G Z cX9_delay 5 RX9 wsX9_delay) (zc zs kc ks : Nat) (hkc : kc ≤ zc) (hks : ks ≤ zs) (p1 : Int32) (p2 : Int32) (p3 : Int32) {K30 : (Nat → Nat → Int32) → Prop} {K41 : (Nat → Nat → Int32) → Prop} {K61 : (Nat → Nat → Int32) → Prop} {post : Int32 → (Nat → Nat → Int32) → Prop} (hR : zRi G Z (rmX9_delay zc zs) 5 (zTC r) ad ln cX9_delay .int post) (hK30 : ∀ al, K30  al → zB G Z (rmX9_delay zc zs) 5 (zTC r) ad ln kc ks 30 [] [] al) (hK41 : ∀ al, K41  al → zB G Z (rmX9_delay zc zs) 5 (zTC r) ad ln kc ks 41 [(0, .ref (ad 0)), (1, .int p1), (2, .int p2), (3, .int p3)] [.ref (ad 0)] al) (hK61 : ∀ al, K61  al → zB G Z (rmX9_delay zc zs) 5 (zTC r) ad ln kc ks 61 [] [] al) (al : Nat → Nat → Int32) (h : vcX9_delay_44 G r ad ln zc zs kc ks hkc hks p1 p2 p3 K30 K41 K61 post  al) : zB G Z (rmX9_delay zc zs) 5 (zTC r) ad ln kc ks 44 [(0, .ref (ad 0)), (1, .int p1), (2, .int p2), (3, .int p3)] [] al := by
  unfold vcX9_delay_44 at h
  refine zb_aload_n X dX9_delay_44 rfl 0 rfl ?_
  refine zb_getR X 0 (zTC_lt (by decide)) 9 [3, 0, 4, 5, 6, 9, 14, 20, 24, if r then 175 else 1, 0, 0, 0, 0, 0] rfl (C := RX9) (Tt := TX9) (N := 15) rfl kX9_delay_1 6 (by decide) 12 rfl kX9_delay_4 rfl dX9_delay_45 ?_
  refine zb_iload_n X dX9_delay_48 rfl 1 rfl ?_
  refine zb_iload_n X dX9_delay_49 rfl 2 rfl ?_
  refine zb_iload_n X dX9_delay_50 rfl 3 rfl ?_
  refine zb_callVi (n := 3) X 12 (zTC_lt (by decide)) 8 [6, 4, 0, 15, 16, 17, 18, 19, 0, 0] rfl (C := RX8) (Tt := TX8) (N := 10) rfl h gX9_delay_X8_find rfl (by decide +kernel) ⟨⟨Nat.le_of_ble_eq_true rfl, Nat.le_of_ble_eq_true rfl⟩, hkc, hks⟩ rfl rfl (Nat.le_of_ble_eq_true rfl) dX9_delay_51 (kc' := kc) (ks' := ks) rfl rfl (fun q1 a1 h => ?_)
  refine zb_istore X (lv' := [(4, .int q1), (0, .ref (ad 0)), (1, .int p1), (2, .int p2), (3, .int p3)]) dX9_delay_54 (by decide) rfl ?_
  refine zb_iload X dX9_delay_56 0 rfl ?_
  refine zb_if_ge X 71 dX9_delay_58 (by decide) (fun c2 => ?_) (fun c2 => ?_)
  · have h := h.1 c2
    refine zb_aload_n X dX9_delay_71 rfl 1 rfl ?_
    refine zb_getR X 0 (zTC_lt (by decide)) 9 [3, 0, 4, 5, 6, 9, 14, 20, 24, if r then 175 else 1, 0, 0, 0, 0, 0] rfl (C := RX9) (Tt := TX9) (N := 15) rfl kX9_delay_1 6 (by decide) 12 rfl kX9_delay_4 rfl dX9_delay_72 ?_
    refine zb_getR X 12 (zTC_lt (by decide)) 8 [6, 4, 0, 15, 16, 17, 18, 19, 0, 0] rfl (C := RX8) (Tt := TX8) (N := 10) rfl kX9_delay_6 6 (by decide) 16 rfl kX9_delay_5 rfl dX9_delay_75 ?_
    refine zb_iload X dX9_delay_78 0 rfl ?_
    obtain ⟨hz, h⟩ := h
    refine zb_iald X 16 (zTC_lt (by decide)) 2 0 0 0 rfl (Or.inr rfl) q1.toNatClampNeg rfl hz dX9_delay_80 (a1 16 q1.toNatClampNeg) rfl ?_
    exact zb_widen hkc hks (hR 81 _ _ _ dX9_delay_81 rfl h)
  · have h := h.2 c2
    refine zb_sub [] rfl ?_
    exact hK61  a1 h
theorem uX9_delay_0 {G : zG} {Z : zC} {r : Bool} {ad ln : Nat → Nat} (X : zX G Z cX9_delay 5 RX9 wsX9_delay) (zc zs kc ks : Nat) (hkc : kc ≤ zc) (hks : ks ≤ zs) (p1 : Int32) (p2 : Int32) (p3 : Int32) {post : Int32 → (Nat → Nat → Int32) → Prop} (hR : zRi G Z (rmX9_delay zc zs) 5 (zTC r) ad ln cX9_delay .int post) (al : Nat → Nat → Int32) (h : vcX9_delay_0 G r ad ln zc zs kc ks hkc hks p1 p2 p3 (BX9_delay_30 G Z r ad ln zc zs kc ks hkc hks p1 p2 p3) (BX9_delay_41 G Z r ad ln zc zs kc ks hkc hks p1 p2 p3) (BX9_delay_61 G Z r ad ln zc zs kc ks hkc hks p1 p2 p3) post  al) : zB G Z (rmX9_delay zc zs) 5 (zTC r) ad ln kc ks 0 [(0, .ref (ad 0)), (1, .int p1), (2, .int p2), (3, .int p3)] [] al := tX9_delay_0 X zc zs kc ks hkc hks p1 p2 p3 hR (fun _ h => h) (fun _ h => h) (fun _ h => h)  al h
theorem uX9_delay_44 {G : zG} {Z : zC} {r : Bool} {ad ln : Nat → Nat} (X : zX G Z cX9_delay 5 RX9 wsX9_delay) (zc zs kc ks : Nat) (hkc : kc ≤ zc) (hks : ks ≤ zs) (p1 : Int32) (p2 : Int32) (p3 : Int32) {post : Int32 → (Nat → Nat → Int32) → Prop} (hR : zRi G Z (rmX9_delay zc zs) 5 (zTC r) ad ln cX9_delay .int post) (al : Nat → Nat → Int32) (h : vcX9_delay_44 G r ad ln zc zs kc ks hkc hks p1 p2 p3 (BX9_delay_30 G Z r ad ln zc zs kc ks hkc hks p1 p2 p3) (BX9_delay_41 G Z r ad ln zc zs kc ks hkc hks p1 p2 p3) (BX9_delay_61 G Z r ad ln zc zs kc ks hkc hks p1 p2 p3) post  al) : zB G Z (rmX9_delay zc zs) 5 (zTC r) ad ln kc ks 44 [(0, .ref (ad 0)), (1, .int p1), (2, .int p2), (3, .int p3)] [] al := tX9_delay_44 X zc zs kc ks hkc hks p1 p2 p3 hR (fun _ h => h) (fun _ h => h) (fun _ h => h)  al h
abbrev rmX9_lay (zc zs : Nat) : Room := { frames := 7, cells := zc, slots := zs, locals := 157 }
theorem kX9_lay_0 : Cond.fieldLink RX9 31 RX9 "loop" "LLoopForge$Loop;" ∈ wsX9_lay := by decide +kernel
theorem kX9_lay_1 : zIn RX9 TX9 15 wsX9_lay := by decide +kernel
theorem kX9_lay_2 : Cond.fieldLink RX9 124 RX0 "size" "I" ∈ wsX9_lay := by decide +kernel
theorem kX9_lay_3 : zIn RX0 TX0 3 wsX9_lay := by decide +kernel
theorem kX9_lay_4 : Cond.fieldLink RX9 158 RX9 "layingKnown" "Z" ∈ wsX9_lay := by decide +kernel
theorem kX9_lay_5 : Cond.fieldLink RX9 130 RX9 "distance" "I" ∈ wsX9_lay := by decide +kernel
theorem kX9_lay_6 : Cond.fieldLink RX9 54 RX9 "waits" "LLoopForge$Waits;" ∈ wsX9_lay := by decide +kernel
theorem kX9_lay_7 : Cond.fieldLink RX9 161 RX8 "leastByUnits" "I" ∈ wsX9_lay := by decide +kernel
theorem kX9_lay_8 : zIn RX8 TX8 10 wsX9_lay := by decide +kernel
theorem kX9_lay_9 : Cond.fieldLink RX9 164 RX8 "leastByCircles" "I" ∈ wsX9_lay := by decide +kernel
theorem kX9_lay_10 : Cond.methodLink RX9 167 Lib.Math.max.name ∈ wsX9_lay := by decide +kernel
theorem kX9_lay_11 : Cond.static Lib.Math.max.name ∈ wsX9_lay := by decide +kernel
theorem kX9_lay_12 : Cond.initialized "java/lang/Math" ∈ wsX9_lay := by decide +kernel
theorem kX9_lay_13 : Cond.code Lib.Math.max.name Lib.Math.max.code 2 (some .int) ∈ wsX9_lay := by decide +kernel
theorem kX9_lay_14 : Cond.fieldLink RX9 63 RX9 "table" "LLoopForge$Table;" ∈ wsX9_lay := by decide +kernel
theorem kX9_lay_15 : Cond.fieldLink RX9 72 RX9 "spans" "LLoopForge$Spans;" ∈ wsX9_lay := by decide +kernel
abbrev BX9_lay_54 (G : zG) (Z : zC) (r : Bool) (ad ln : Nat → Nat) (zc zs kc ks : Nat) (hkc : kc ≤ zc) (hks : ks ≤ zs) (x1 : Int32) (al : Nat → Nat → Int32) : Prop := zB G Z (rmX9_lay zc zs) 2 (zTC r) ad ln kc ks 54 [(0, .ref (ad 0)), (1, .int x1)] [] al
abbrev BX9_lay_28 (G : zG) (Z : zC) (r : Bool) (ad ln : Nat → Nat) (zc zs kc ks : Nat) (hkc : kc ≤ zc) (hks : ks ≤ zs) (al : Nat → Nat → Int32) : Prop := zB G Z (rmX9_lay zc zs) 2 (zTC r) ad ln kc ks 28 [(0, .ref (ad 0))] [.ref (ad 0)] al
abbrev BX9_lay_10 (G : zG) (Z : zC) (r : Bool) (ad ln : Nat → Nat) (zc zs kc ks : Nat) (hkc : kc ≤ zc) (hks : ks ≤ zs) (al : Nat → Nat → Int32) : Prop := zB G Z (rmX9_lay zc zs) 2 (zTC r) ad ln kc ks 10 [] [] al
def vcX9_lay_112 (G : zG) (r : Bool) (ad ln : Nat → Nat) (zc zs kc ks : Nat) (hkc : kc ≤ zc) (hks : ks ≤ zs) (K10 : (Nat → Nat → Int32) → Prop) (K28 : (Nat → Nat → Int32) → Prop) (K54 : Int32 → (Nat → Nat → Int32) → Prop) (post : Int32 → (Nat → Nat → Int32) → Prop) (al : Nat → Nat → Int32) : Prop :=
  post (al 0 13) al
def vcX9_lay_0 (G : zG) (r : Bool) (ad ln : Nat → Nat) (zc zs kc ks : Nat) (hkc : kc ≤ zc) (hks : ks ≤ zs) (K10 : (Nat → Nat → Int32) → Prop) (K28 : (Nat → Nat → Int32) → Prop) (K54 : Int32 → (Nat → Nat → Int32) → Prop) (post : Int32 → (Nat → Nat → Int32) → Prop) (al : Nat → Nat → Int32) : Prop :=
  (¬ (al 4 1) = 0 → (¬ (al 0 12) = 0 → vcX9_lay_112 G r ad ln zc zs kc ks hkc hks K10 K28 K54 post  al) ∧ ((al 0 12) = 0 → K28  al)) ∧ ((al 4 1) = 0 → K10  al)
def vcX9_lay_31 (G : zG) (r : Bool) (ad ln : Nat → Nat) (zc zs kc ks : Nat) (hkc : kc ≤ zc) (hks : ks ≤ zs) (K10 : (Nat → Nat → Int32) → Prop) (K28 : (Nat → Nat → Int32) → Prop) (K54 : Int32 → (Nat → Nat → Int32) → Prop) (post : Int32 → (Nat → Nat → Int32) → Prop) (al : Nat → Nat → Int32) : Prop :=
  K54 (if (al 12 8) < (al 12 9) then (al 12 9) else (al 12 8)) (up2 al 0 12 (1 : Int32))
def vcX9_lay_106 (G : zG) (r : Bool) (ad ln : Nat → Nat) (zc zs kc ks : Nat) (hkc : kc ≤ zc) (hks : ks ≤ zs) (K10 : (Nat → Nat → Int32) → Prop) (K28 : (Nat → Nat → Int32) → Prop) (K54 : Int32 → (Nat → Nat → Int32) → Prop) (post : Int32 → (Nat → Nat → Int32) → Prop) (x1 : Int32) (al : Nat → Nat → Int32) : Prop :=
  K54 (x1 + (1 : Int32)) al
def vcX9_lay_54 (G : zG) (r : Bool) (ad ln : Nat → Nat) (zc zs kc ks : Nat) (hkc : kc ≤ zc) (hks : ks ≤ zs) (K10 : (Nat → Nat → Int32) → Prop) (K28 : (Nat → Nat → Int32) → Prop) (K54 : Int32 → (Nat → Nat → Int32) → Prop) (post : Int32 → (Nat → Nat → Int32) → Prop) (x1 : Int32) (al : Nat → Nat → Int32) : Prop :=
  (¬ (al 0 13) = 0 → vcX9_lay_112 G r ad ln zc zs kc ks hkc hks K10 K28 K54 post  al) ∧ ((al 0 13) = 0 → ((200 : Int32) < x1 → vcX9_lay_112 G r ad ln zc zs kc ks hkc hks K10 K28 K54 post  al) ∧ (¬ (200 : Int32) < x1 → zMi G yX8_findHeights wsX8_findHeights rmX8_findHeights (zTC r) ad ln [.ref (ad 12), .int x1] al (fun q3 a3 => (q3 = 0 → vcX9_lay_106 G r ad ln zc zs kc ks hkc hks K10 K28 K54 post x1 a3) ∧ (¬ q3 = 0 → zMi G yX7_fill wsX7_fill rmX7_fill (zTC r) ad ln [.ref (ad 18), .int x1] a3 (fun q5 a5 => (q5 = 0 → vcX9_lay_106 G r ad ln zc zs kc ks hkc hks K10 K28 K54 post x1 a5) ∧ (¬ q5 = 0 → zMi G yX6_fit wsX6_fit rmX6_fit (zTC r) ad ln [.ref (ad 22), .int x1] a5 (fun q7 a7 => (q7 = 0 → vcX9_lay_106 G r ad ln zc zs kc ks hkc hks K10 K28 K54 post x1 a7) ∧ (¬ q7 = 0 → vcX9_lay_106 G r ad ln zc zs kc ks hkc hks K10 K28 K54 post x1 (up2 a7 0 13 x1)))))))))
set_option maxRecDepth 20000 in
theorem tX9_lay_112 {G : zG} {Z : zC} {r : Bool} {ad ln : Nat → Nat} (X : zX G Z cX9_lay 2 RX9 wsX9_lay) (zc zs kc ks : Nat) (hkc : kc ≤ zc) (hks : ks ≤ zs) {K10 : (Nat → Nat → Int32) → Prop} {K28 : (Nat → Nat → Int32) → Prop} {K54 : Int32 → (Nat → Nat → Int32) → Prop} {post : Int32 → (Nat → Nat → Int32) → Prop} (hR : zRi G Z (rmX9_lay zc zs) 2 (zTC r) ad ln cX9_lay .int post) (hK10 : ∀ al, K10  al → zB G Z (rmX9_lay zc zs) 2 (zTC r) ad ln kc ks 10 [] [] al) (hK28 : ∀ al, K28  al → zB G Z (rmX9_lay zc zs) 2 (zTC r) ad ln kc ks 28 [(0, .ref (ad 0))] [.ref (ad 0)] al) (hK54 : ∀ x1 : Int32, ∀ al, K54 x1 al → zB G Z (rmX9_lay zc zs) 2 (zTC r) ad ln kc ks 54 [(0, .ref (ad 0)), (1, .int x1)] [] al) (al : Nat → Nat → Int32) (h : vcX9_lay_112 G r ad ln zc zs kc ks hkc hks K10 K28 K54 post  al) : zB G Z (rmX9_lay zc zs) 2 (zTC r) ad ln kc ks 112 [(0, .ref (ad 0))] [] al := by
  unfold vcX9_lay_112 at h
  refine zb_aload_n X dX9_lay_112 rfl 0 rfl ?_
  refine zb_getI X 0 (zTC_lt (by decide)) 9 [3, 0, 4, 5, 6, 9, 14, 20, 24, if r then 175 else 1, 0, 0, 0, 0, 0] rfl (C := RX9) (Tt := TX9) (N := 15) rfl kX9_lay_1 13 (by decide) rfl kX9_lay_5 rfl dX9_lay_113 (al 0 13) rfl ?_
  exact zb_widen hkc hks (hR 116 _ _ _ dX9_lay_116 rfl h)
set_option maxRecDepth 20000 in
theorem tX9_lay_0 {G : zG} {Z : zC} {r : Bool} {ad ln : Nat → Nat} (X : zX G Z cX9_lay 2 RX9 wsX9_lay) (zc zs kc ks : Nat) (hkc : kc ≤ zc) (hks : ks ≤ zs) {K10 : (Nat → Nat → Int32) → Prop} {K28 : (Nat → Nat → Int32) → Prop} {K54 : Int32 → (Nat → Nat → Int32) → Prop} {post : Int32 → (Nat → Nat → Int32) → Prop} (hR : zRi G Z (rmX9_lay zc zs) 2 (zTC r) ad ln cX9_lay .int post) (hK10 : ∀ al, K10  al → zB G Z (rmX9_lay zc zs) 2 (zTC r) ad ln kc ks 10 [] [] al) (hK28 : ∀ al, K28  al → zB G Z (rmX9_lay zc zs) 2 (zTC r) ad ln kc ks 28 [(0, .ref (ad 0))] [.ref (ad 0)] al) (hK54 : ∀ x1 : Int32, ∀ al, K54 x1 al → zB G Z (rmX9_lay zc zs) 2 (zTC r) ad ln kc ks 54 [(0, .ref (ad 0)), (1, .int x1)] [] al) (al : Nat → Nat → Int32) (h : vcX9_lay_0 G r ad ln zc zs kc ks hkc hks K10 K28 K54 post  al) : zB G Z (rmX9_lay zc zs) 2 (zTC r) ad ln kc ks 0 [(0, .ref (ad 0))] [] al := by
  unfold vcX9_lay_0 at h
  refine zb_aload_n X dX9_lay_0 rfl 0 rfl ?_
  refine zb_getR X 0 (zTC_lt (by decide)) 9 [3, 0, 4, 5, 6, 9, 14, 20, 24, if r then 175 else 1, 0, 0, 0, 0, 0] rfl (C := RX9) (Tt := TX9) (N := 15) rfl kX9_lay_1 4 (by decide) 4 rfl kX9_lay_0 rfl dX9_lay_1 ?_
  refine zb_getI X 4 (zTC_lt (by decide)) 0 [7, 0, 8] rfl (C := RX0) (Tt := TX0) (N := 3) rfl kX9_lay_3 1 (by decide) rfl kX9_lay_2 rfl dX9_lay_4 (al 4 1) rfl ?_
  refine zb_if_ne X 20 dX9_lay_7 (by decide) (fun c1 => ?_) (fun c1 => ?_)
  · have h := h.1 c1
    refine zb_aload_n X dX9_lay_20 rfl 0 rfl ?_
    refine zb_getI X 0 (zTC_lt (by decide)) 9 [3, 0, 4, 5, 6, 9, 14, 20, 24, if r then 175 else 1, 0, 0, 0, 0, 0] rfl (C := RX9) (Tt := TX9) (N := 15) rfl kX9_lay_1 12 (by decide) rfl kX9_lay_4 rfl dX9_lay_21 (al 0 12) rfl ?_
    refine zb_if_ne X 112 dX9_lay_24 (by decide) (fun c2 => ?_) (fun c2 => ?_)
    · have h := h.1 c2
      refine zb_sub [0] rfl ?_
      exact tX9_lay_112 X zc zs kc ks hkc hks hR hK10 hK28 hK54  al h
    · have h := h.2 c2
      refine zb_aload_n X dX9_lay_27 rfl 0 rfl ?_
      refine zb_sub [0] rfl ?_
      exact hK28  al h
  · have h := h.2 c1
    refine zb_sub [] rfl ?_
    exact hK10  al h
set_option maxRecDepth 20000 in
theorem tX9_lay_31 {G : zG} {Z : zC} {r : Bool} {ad ln : Nat → Nat} (X : zX G Z cX9_lay 2 RX9 wsX9_lay) (zc zs kc ks : Nat) (hkc : kc ≤ zc) (hks : ks ≤ zs) {K10 : (Nat → Nat → Int32) → Prop} {K28 : (Nat → Nat → Int32) → Prop} {K54 : Int32 → (Nat → Nat → Int32) → Prop} {post : Int32 → (Nat → Nat → Int32) → Prop} (hR : zRi G Z (rmX9_lay zc zs) 2 (zTC r) ad ln cX9_lay .int post) (hK10 : ∀ al, K10  al → zB G Z (rmX9_lay zc zs) 2 (zTC r) ad ln kc ks 10 [] [] al) (hK28 : ∀ al, K28  al → zB G Z (rmX9_lay zc zs) 2 (zTC r) ad ln kc ks 28 [(0, .ref (ad 0))] [.ref (ad 0)] al) (hK54 : ∀ x1 : Int32, ∀ al, K54 x1 al → zB G Z (rmX9_lay zc zs) 2 (zTC r) ad ln kc ks 54 [(0, .ref (ad 0)), (1, .int x1)] [] al) (al : Nat → Nat → Int32) (h : vcX9_lay_31 G r ad ln zc zs kc ks hkc hks K10 K28 K54 post  al) : zB G Z (rmX9_lay zc zs) 2 (zTC r) ad ln kc ks 31 [(0, .ref (ad 0))] [] al := by
  unfold vcX9_lay_31 at h
  refine zb_aload_n X dX9_lay_31 rfl 0 rfl ?_
  refine zb_iconst X (1 : Int32) dX9_lay_32 (by decide) ?_
  refine zb_putI X 0 (zTC_lt (by decide)) 9 [3, 0, 4, 5, 6, 9, 14, 20, 24, if r then 175 else 1, 0, 0, 0, 0, 0] rfl (C := RX9) (Tt := TX9) (N := 15) rfl kX9_lay_1 tyX9 tyX9_ok nmX9 12 (by decide) rfl kX9_lay_4 rfl rfl rfl rfl dX9_lay_33 ?_
  refine zb_aload_n X dX9_lay_36 rfl 0 rfl ?_
  refine zb_getR X 0 (zTC_lt (by decide)) 9 [3, 0, 4, 5, 6, 9, 14, 20, 24, if r then 175 else 1, 0, 0, 0, 0, 0] rfl (C := RX9) (Tt := TX9) (N := 15) rfl kX9_lay_1 6 (by decide) 12 rfl kX9_lay_6 rfl dX9_lay_37 ?_
  refine zb_getI X 12 (zTC_lt (by decide)) 8 [6, 4, 0, 15, 16, 17, 18, 19, 0, 0] rfl (C := RX8) (Tt := TX8) (N := 10) rfl kX9_lay_8 8 (by decide) rfl kX9_lay_7 rfl dX9_lay_40 (al 12 8) rfl ?_
  refine zb_aload_n X dX9_lay_43 rfl 0 rfl ?_
  refine zb_getR X 0 (zTC_lt (by decide)) 9 [3, 0, 4, 5, 6, 9, 14, 20, 24, if r then 175 else 1, 0, 0, 0, 0, 0] rfl (C := RX9) (Tt := TX9) (N := 15) rfl kX9_lay_1 6 (by decide) 12 rfl kX9_lay_6 rfl dX9_lay_44 ?_
  refine zb_getI X 12 (zTC_lt (by decide)) 8 [6, 4, 0, 15, 16, 17, 18, 19, 0, 0] rfl (C := RX8) (Tt := TX8) (N := 10) rfl kX9_lay_8 9 (by decide) rfl kX9_lay_9 rfl dX9_lay_47 (al 12 9) rfl ?_
  refine zb_mmax X kX9_lay_10 kX9_lay_11 kX9_lay_12 kX9_lay_13 ⟨⟨Nat.le_of_ble_eq_true rfl, Nat.le_of_ble_eq_true rfl⟩, hkc, hks⟩ dX9_lay_50 ?_
  refine zb_istore_n X (lv' := [(1, .int (if (al 12 8) < (al 12 9) then (al 12 9) else (al 12 8))), (0, .ref (ad 0))]) dX9_lay_53 rfl (by decide) rfl ?_
  refine zb_sub [1, 0] rfl ?_
  exact hK54 (if (al 12 8) < (al 12 9) then (al 12 9) else (al 12 8)) (up2 al 0 12 (1 : Int32)) h
set_option maxRecDepth 20000 in
theorem tX9_lay_106 {G : zG} {Z : zC} {r : Bool} {ad ln : Nat → Nat} (X : zX G Z cX9_lay 2 RX9 wsX9_lay) (zc zs kc ks : Nat) (hkc : kc ≤ zc) (hks : ks ≤ zs) {K10 : (Nat → Nat → Int32) → Prop} {K28 : (Nat → Nat → Int32) → Prop} {K54 : Int32 → (Nat → Nat → Int32) → Prop} {post : Int32 → (Nat → Nat → Int32) → Prop} (hR : zRi G Z (rmX9_lay zc zs) 2 (zTC r) ad ln cX9_lay .int post) (hK10 : ∀ al, K10  al → zB G Z (rmX9_lay zc zs) 2 (zTC r) ad ln kc ks 10 [] [] al) (hK28 : ∀ al, K28  al → zB G Z (rmX9_lay zc zs) 2 (zTC r) ad ln kc ks 28 [(0, .ref (ad 0))] [.ref (ad 0)] al) (hK54 : ∀ x1 : Int32, ∀ al, K54 x1 al → zB G Z (rmX9_lay zc zs) 2 (zTC r) ad ln kc ks 54 [(0, .ref (ad 0)), (1, .int x1)] [] al) (x1 : Int32) (al : Nat → Nat → Int32) (h : vcX9_lay_106 G r ad ln zc zs kc ks hkc hks K10 K28 K54 post x1 al) : zB G Z (rmX9_lay zc zs) 2 (zTC r) ad ln kc ks 106 [(0, .ref (ad 0)), (1, .int x1)] [] al := by
  unfold vcX9_lay_106 at h
  refine zb_iinc X (lv' := [(1, .int (x1 + (1 : Int32))), (0, .ref (ad 0))]) (x1 + (1 : Int32)) dX9_lay_106 1 rfl rfl (by decide) rfl ?_
  refine zb_goto X 54 dX9_lay_109 (by decide) ?_
  refine zb_sub [1, 0] rfl ?_
  exact hK54 (x1 + (1 : Int32)) al h
set_option maxRecDepth 20000 in
theorem tX9_lay_54 {G : zG} {Z : zC} {r : Bool} {ad ln : Nat → Nat} (X : zX G Z cX9_lay 2 RX9 wsX9_lay) (zc zs kc ks : Nat) (hkc : kc ≤ zc) (hks : ks ≤ zs) {K10 : (Nat → Nat → Int32) → Prop} {K28 : (Nat → Nat → Int32) → Prop} {K54 : Int32 → (Nat → Nat → Int32) → Prop} {post : Int32 → (Nat → Nat → Int32) → Prop} (hR : zRi G Z (rmX9_lay zc zs) 2 (zTC r) ad ln cX9_lay .int post) (hK10 : ∀ al, K10  al → zB G Z (rmX9_lay zc zs) 2 (zTC r) ad ln kc ks 10 [] [] al) (hK28 : ∀ al, K28  al → zB G Z (rmX9_lay zc zs) 2 (zTC r) ad ln kc ks 28 [(0, .ref (ad 0))] [.ref (ad 0)] al) (hK54 : ∀ x1 : Int32, ∀ al, K54 x1 al → zB G Z (rmX9_lay zc zs) 2 (zTC r) ad ln kc ks 54 [(0, .ref (ad 0)), (1, .int x1)] [] al) (x1 : Int32) (al : Nat → Nat → Int32) (h : vcX9_lay_54 G r ad ln zc zs kc ks hkc hks K10 K28 K54 post x1 al) : zB G Z (rmX9_lay zc zs) 2 (zTC r) ad ln kc ks 54 [(0, .ref (ad 0)), (1, .int x1)] [] al := by
  unfold vcX9_lay_54 at h
  refine zb_aload_n X dX9_lay_54 rfl 0 rfl ?_
  refine zb_getI X 0 (zTC_lt (by decide)) 9 [3, 0, 4, 5, 6, 9, 14, 20, 24, if r then 175 else 1, 0, 0, 0, 0, 0] rfl (C := RX9) (Tt := TX9) (N := 15) rfl kX9_lay_1 13 (by decide) rfl kX9_lay_5 rfl dX9_lay_55 (al 0 13) rfl ?_
  refine zb_if_ne X 112 dX9_lay_58 (by decide) (fun c1 => ?_) (fun c1 => ?_)
  · have h := h.1 c1
    refine zb_sub [0] rfl ?_
    exact tX9_lay_112 X zc zs kc ks hkc hks hR hK10 hK28 hK54  al h
  · have h := h.2 c1
    refine zb_iload_n X dX9_lay_61 rfl 1 rfl ?_
    refine zb_sipush X (200 : Int32) dX9_lay_62 (by decide) ?_
    refine zb_icmp_gt X 112 dX9_lay_65 (by decide) (fun c2 => ?_) (fun c2 => ?_)
    · have h := h.1 c2
      refine zb_sub [0] rfl ?_
      exact tX9_lay_112 X zc zs kc ks hkc hks hR hK10 hK28 hK54  al h
    · have h := h.2 c2
      refine zb_aload_n X dX9_lay_68 rfl 0 rfl ?_
      refine zb_getR X 0 (zTC_lt (by decide)) 9 [3, 0, 4, 5, 6, 9, 14, 20, 24, if r then 175 else 1, 0, 0, 0, 0, 0] rfl (C := RX9) (Tt := TX9) (N := 15) rfl kX9_lay_1 6 (by decide) 12 rfl kX9_lay_6 rfl dX9_lay_69 ?_
      refine zb_iload_n X dX9_lay_72 rfl 1 rfl ?_
      refine zb_callVi (n := 1) X 12 (zTC_lt (by decide)) 8 [6, 4, 0, 15, 16, 17, 18, 19, 0, 0] rfl (C := RX8) (Tt := TX8) (N := 10) rfl h gX9_lay_X8_findHeights rfl (by decide +kernel) ⟨⟨Nat.le_of_ble_eq_true rfl, Nat.le_of_ble_eq_true rfl⟩, hkc, hks⟩ rfl rfl (Nat.le_of_ble_eq_true rfl) dX9_lay_73 (kc' := kc) (ks' := ks) rfl rfl (fun q3 a3 h => ?_)
      refine zb_if_eq X 106 dX9_lay_76 (by decide) (fun c4 => ?_) (fun c4 => ?_)
      · have h := h.1 c4
        refine zb_sub [0, 1] rfl ?_
        exact tX9_lay_106 X zc zs kc ks hkc hks hR hK10 hK28 hK54 x1 a3 h
      · have h := h.2 c4
        refine zb_aload_n X dX9_lay_79 rfl 0 rfl ?_
        refine zb_getR X 0 (zTC_lt (by decide)) 9 [3, 0, 4, 5, 6, 9, 14, 20, 24, if r then 175 else 1, 0, 0, 0, 0, 0] rfl (C := RX9) (Tt := TX9) (N := 15) rfl kX9_lay_1 7 (by decide) 18 rfl kX9_lay_14 rfl dX9_lay_80 ?_
        refine zb_iload_n X dX9_lay_83 rfl 1 rfl ?_
        refine zb_callVi (n := 1) X 18 (zTC_lt (by decide)) 7 [6, 14, 4, 21, 22, 23, 0, 0, 0] rfl (C := RX7) (Tt := TX7) (N := 9) rfl h gX9_lay_X7_fill rfl (by decide +kernel) ⟨⟨Nat.le_of_ble_eq_true rfl, Nat.le_of_ble_eq_true rfl⟩, hkc, hks⟩ rfl rfl (Nat.le_of_ble_eq_true rfl) dX9_lay_84 (kc' := kc) (ks' := ks) rfl rfl (fun q5 a5 h => ?_)
        refine zb_if_eq X 106 dX9_lay_87 (by decide) (fun c6 => ?_) (fun c6 => ?_)
        · have h := h.1 c6
          refine zb_sub [0, 1] rfl ?_
          exact tX9_lay_106 X zc zs kc ks hkc hks hR hK10 hK28 hK54 x1 a5 h
        · have h := h.2 c6
          refine zb_aload_n X dX9_lay_90 rfl 0 rfl ?_
          refine zb_getR X 0 (zTC_lt (by decide)) 9 [3, 0, 4, 5, 6, 9, 14, 20, 24, if r then 175 else 1, 0, 0, 0, 0, 0] rfl (C := RX9) (Tt := TX9) (N := 15) rfl kX9_lay_1 8 (by decide) 22 rfl kX9_lay_15 rfl dX9_lay_91 ?_
          refine zb_iload_n X dX9_lay_94 rfl 1 rfl ?_
          refine zb_callVi (n := 1) X 22 (zTC_lt (by decide)) 6 [6, 20, 4, 25, 26, 27, 28, 29, 30, 0, 0, 0, 0] rfl (C := RX6) (Tt := TX6) (N := 13) rfl h gX9_lay_X6_fit rfl (by decide +kernel) ⟨⟨Nat.le_of_ble_eq_true rfl, Nat.le_of_ble_eq_true rfl⟩, hkc, hks⟩ rfl rfl (Nat.le_of_ble_eq_true rfl) dX9_lay_95 (kc' := kc) (ks' := ks) rfl rfl (fun q7 a7 h => ?_)
          refine zb_if_eq X 106 dX9_lay_98 (by decide) (fun c8 => ?_) (fun c8 => ?_)
          · have h := h.1 c8
            refine zb_sub [0, 1] rfl ?_
            exact tX9_lay_106 X zc zs kc ks hkc hks hR hK10 hK28 hK54 x1 a7 h
          · have h := h.2 c8
            refine zb_aload_n X dX9_lay_101 rfl 0 rfl ?_
            refine zb_iload_n X dX9_lay_102 rfl 1 rfl ?_
            refine zb_putI X 0 (zTC_lt (by decide)) 9 [3, 0, 4, 5, 6, 9, 14, 20, 24, if r then 175 else 1, 0, 0, 0, 0, 0] rfl (C := RX9) (Tt := TX9) (N := 15) rfl kX9_lay_1 tyX9 tyX9_ok nmX9 13 (by decide) rfl kX9_lay_5 rfl rfl rfl rfl dX9_lay_103 ?_
            refine zb_sub [0, 1] rfl ?_
            exact tX9_lay_106 X zc zs kc ks hkc hks hR hK10 hK28 hK54 x1 (up2 a7 0 13 x1) h
theorem uX9_lay_112 {G : zG} {Z : zC} {r : Bool} {ad ln : Nat → Nat} (X : zX G Z cX9_lay 2 RX9 wsX9_lay) (zc zs kc ks : Nat) (hkc : kc ≤ zc) (hks : ks ≤ zs) {post : Int32 → (Nat → Nat → Int32) → Prop} (hR : zRi G Z (rmX9_lay zc zs) 2 (zTC r) ad ln cX9_lay .int post) (al : Nat → Nat → Int32) (h : vcX9_lay_112 G r ad ln zc zs kc ks hkc hks (BX9_lay_10 G Z r ad ln zc zs kc ks hkc hks) (BX9_lay_28 G Z r ad ln zc zs kc ks hkc hks) (BX9_lay_54 G Z r ad ln zc zs kc ks hkc hks) post  al) : zB G Z (rmX9_lay zc zs) 2 (zTC r) ad ln kc ks 112 [(0, .ref (ad 0))] [] al := tX9_lay_112 X zc zs kc ks hkc hks hR (fun _ h => h) (fun _ h => h) (fun _ _ h => h)  al h
theorem uX9_lay_0 {G : zG} {Z : zC} {r : Bool} {ad ln : Nat → Nat} (X : zX G Z cX9_lay 2 RX9 wsX9_lay) (zc zs kc ks : Nat) (hkc : kc ≤ zc) (hks : ks ≤ zs) {post : Int32 → (Nat → Nat → Int32) → Prop} (hR : zRi G Z (rmX9_lay zc zs) 2 (zTC r) ad ln cX9_lay .int post) (al : Nat → Nat → Int32) (h : vcX9_lay_0 G r ad ln zc zs kc ks hkc hks (BX9_lay_10 G Z r ad ln zc zs kc ks hkc hks) (BX9_lay_28 G Z r ad ln zc zs kc ks hkc hks) (BX9_lay_54 G Z r ad ln zc zs kc ks hkc hks) post  al) : zB G Z (rmX9_lay zc zs) 2 (zTC r) ad ln kc ks 0 [(0, .ref (ad 0))] [] al := tX9_lay_0 X zc zs kc ks hkc hks hR (fun _ h => h) (fun _ h => h) (fun _ _ h => h)  al h
theorem uX9_lay_31 {G : zG} {Z : zC} {r : Bool} {ad ln : Nat → Nat} (X : zX G Z cX9_lay 2 RX9 wsX9_lay) (zc zs kc ks : Nat) (hkc : kc ≤ zc) (hks : ks ≤ zs) {post : Int32 → (Nat → Nat → Int32) → Prop} (hR : zRi G Z (rmX9_lay zc zs) 2 (zTC r) ad ln cX9_lay .int post) (al : Nat → Nat → Int32) (h : vcX9_lay_31 G r ad ln zc zs kc ks hkc hks (BX9_lay_10 G Z r ad ln zc zs kc ks hkc hks) (BX9_lay_28 G Z r ad ln zc zs kc ks hkc hks) (BX9_lay_54 G Z r ad ln zc zs kc ks hkc hks) post  al) : zB G Z (rmX9_lay zc zs) 2 (zTC r) ad ln kc ks 31 [(0, .ref (ad 0))] [] al := tX9_lay_31 X zc zs kc ks hkc hks hR (fun _ h => h) (fun _ h => h) (fun _ _ h => h)  al h
theorem uX9_lay_106 {G : zG} {Z : zC} {r : Bool} {ad ln : Nat → Nat} (X : zX G Z cX9_lay 2 RX9 wsX9_lay) (zc zs kc ks : Nat) (hkc : kc ≤ zc) (hks : ks ≤ zs) {post : Int32 → (Nat → Nat → Int32) → Prop} (hR : zRi G Z (rmX9_lay zc zs) 2 (zTC r) ad ln cX9_lay .int post) (x1 : Int32) (al : Nat → Nat → Int32) (h : vcX9_lay_106 G r ad ln zc zs kc ks hkc hks (BX9_lay_10 G Z r ad ln zc zs kc ks hkc hks) (BX9_lay_28 G Z r ad ln zc zs kc ks hkc hks) (BX9_lay_54 G Z r ad ln zc zs kc ks hkc hks) post x1 al) : zB G Z (rmX9_lay zc zs) 2 (zTC r) ad ln kc ks 106 [(0, .ref (ad 0)), (1, .int x1)] [] al := tX9_lay_106 X zc zs kc ks hkc hks hR (fun _ h => h) (fun _ h => h) (fun _ _ h => h) x1 al h
theorem uX9_lay_54 {G : zG} {Z : zC} {r : Bool} {ad ln : Nat → Nat} (X : zX G Z cX9_lay 2 RX9 wsX9_lay) (zc zs kc ks : Nat) (hkc : kc ≤ zc) (hks : ks ≤ zs) {post : Int32 → (Nat → Nat → Int32) → Prop} (hR : zRi G Z (rmX9_lay zc zs) 2 (zTC r) ad ln cX9_lay .int post) (x1 : Int32) (al : Nat → Nat → Int32) (h : vcX9_lay_54 G r ad ln zc zs kc ks hkc hks (BX9_lay_10 G Z r ad ln zc zs kc ks hkc hks) (BX9_lay_28 G Z r ad ln zc zs kc ks hkc hks) (BX9_lay_54 G Z r ad ln zc zs kc ks hkc hks) post x1 al) : zB G Z (rmX9_lay zc zs) 2 (zTC r) ad ln kc ks 54 [(0, .ref (ad 0)), (1, .int x1)] [] al := tX9_lay_54 X zc zs kc ks hkc hks hR (fun _ h => h) (fun _ h => h) (fun _ _ h => h) x1 al h
abbrev rmX9_row (zc zs : Nat) : Room := { frames := 6, cells := zc, slots := zs, locals := 82 }
theorem kX9_row_0 : Cond.fieldLink RX9 130 RX9 "distance" "I" ∈ wsX9_row := by decide +kernel
theorem kX9_row_1 : zIn RX9 TX9 15 wsX9_row := by decide +kernel
theorem kX9_row_2 : Cond.fieldLink RX9 31 RX9 "loop" "LLoopForge$Loop;" ∈ wsX9_row := by decide +kernel
theorem kX9_row_3 : Cond.fieldLink RX9 124 RX0 "size" "I" ∈ wsX9_row := by decide +kernel
theorem kX9_row_4 : zIn RX0 TX0 3 wsX9_row := by decide +kernel
theorem kX9_row_5 : Cond.fieldLink RX9 63 RX9 "table" "LLoopForge$Table;" ∈ wsX9_row := by decide +kernel
theorem kX9_row_6 : Cond.fieldLink RX9 185 RX7 "cycle" "[I" ∈ wsX9_row := by decide +kernel
theorem kX9_row_7 : zIn RX7 TX7 9 wsX9_row := by decide +kernel
theorem kX9_row_8 : Cond.fieldLink RX9 54 RX9 "waits" "LLoopForge$Waits;" ∈ wsX9_row := by decide +kernel
theorem kX9_row_9 : Cond.fieldLink RX9 188 RX8 "height" "[I" ∈ wsX9_row := by decide +kernel
theorem kX9_row_10 : zIn RX8 TX8 10 wsX9_row := by decide +kernel
theorem kX9_row_11 : Cond.fieldLink RX9 72 RX9 "spans" "LLoopForge$Spans;" ∈ wsX9_row := by decide +kernel
theorem kX9_row_12 : Cond.fieldLink RX9 191 RX6 "offset" "[I" ∈ wsX9_row := by decide +kernel
theorem kX9_row_13 : zIn RX6 TX6 13 wsX9_row := by decide +kernel
theorem kX9_row_14 : Cond.fieldLink RX9 194 RX6 "begin" "[I" ∈ wsX9_row := by decide +kernel
theorem kX9_row_15 : Cond.fieldLink RX9 197 RX6 "end" "[I" ∈ wsX9_row := by decide +kernel
abbrev BX9_row_126 (G : zG) (Z : zC) (r : Bool) (ad ln : Nat → Nat) (zc zs kc ks : Nat) (hkc : kc ≤ zc) (hks : ks ≤ zs) (p1 : Int32) (p2 : Int32) (al : Nat → Nat → Int32) : Prop := zB G Z (rmX9_row zc zs) 3 (zTC r) ad ln kc ks 126 [] [] al
abbrev BX9_row_32 (G : zG) (Z : zC) (r : Bool) (ad ln : Nat → Nat) (zc zs kc ks : Nat) (hkc : kc ≤ zc) (hks : ks ≤ zs) (p1 : Int32) (p2 : Int32) (al : Nat → Nat → Int32) : Prop := zB G Z (rmX9_row zc zs) 3 (zTC r) ad ln kc ks 32 [] [] al
abbrev BX9_row_7 (G : zG) (Z : zC) (r : Bool) (ad ln : Nat → Nat) (zc zs kc ks : Nat) (hkc : kc ≤ zc) (hks : ks ≤ zs) (p1 : Int32) (p2 : Int32) (al : Nat → Nat → Int32) : Prop := zB G Z (rmX9_row zc zs) 3 (zTC r) ad ln kc ks 7 [] [] al
def vcX9_row_0 (G : zG) (r : Bool) (ad ln : Nat → Nat) (zc zs kc ks : Nat) (hkc : kc ≤ zc) (hks : ks ≤ zs) (p1 : Int32) (p2 : Int32) (K7 : (Nat → Nat → Int32) → Prop) (K32 : (Nat → Nat → Int32) → Prop) (K126 : (Nat → Nat → Int32) → Prop) (post : Int32 → (Nat → Nat → Int32) → Prop) (al : Nat → Nat → Int32) : Prop :=
  (¬ (al 0 13) = 0 → (p1 < 0 → K32  al) ∧ (¬ p1 < 0 → (p1 < (al 4 1) → (p2 = (0 : Int32) → (vp_in p1 48 ∧ post (al 19 p1.toNatClampNeg) al)) ∧ (¬ p2 = (0 : Int32) → (p2 = (1 : Int32) → (vp_in p1 48 ∧ post (al 17 p1.toNatClampNeg) al)) ∧ (¬ p2 = (1 : Int32) → (p2 = (2 : Int32) → (vp_in p1 48 ∧ post (al 25 p1.toNatClampNeg) al)) ∧ (¬ p2 = (2 : Int32) → (p2 = (3 : Int32) → (vp_in p1 48 ∧ post (al 23 p1.toNatClampNeg) al)) ∧ (¬ p2 = (3 : Int32) → (p2 = (4 : Int32) → (vp_in p1 48 ∧ post (al 24 p1.toNatClampNeg) al)) ∧ (¬ p2 = (4 : Int32) → K126  al)))))) ∧ (¬ p1 < (al 4 1) → K32  al))) ∧ ((al 0 13) = 0 → K7  al)
set_option maxRecDepth 20000 in
theorem tX9_row_0 {G : zG} {Z : zC} {r : Bool} {ad ln : Nat → Nat} (X : zX G Z cX9_row 3 RX9 wsX9_row) (zc zs kc ks : Nat) (hkc : kc ≤ zc) (hks : ks ≤ zs) (p1 : Int32) (p2 : Int32) {K7 : (Nat → Nat → Int32) → Prop} {K32 : (Nat → Nat → Int32) → Prop} {K126 : (Nat → Nat → Int32) → Prop} {post : Int32 → (Nat → Nat → Int32) → Prop} (hR : zRi G Z (rmX9_row zc zs) 3 (zTC r) ad ln cX9_row .int post) (hK7 : ∀ al, K7  al → zB G Z (rmX9_row zc zs) 3 (zTC r) ad ln kc ks 7 [] [] al) (hK32 : ∀ al, K32  al → zB G Z (rmX9_row zc zs) 3 (zTC r) ad ln kc ks 32 [] [] al) (hK126 : ∀ al, K126  al → zB G Z (rmX9_row zc zs) 3 (zTC r) ad ln kc ks 126 [] [] al) (al : Nat → Nat → Int32) (h : vcX9_row_0 G r ad ln zc zs kc ks hkc hks p1 p2 K7 K32 K126 post  al) : zB G Z (rmX9_row zc zs) 3 (zTC r) ad ln kc ks 0 [(0, .ref (ad 0)), (1, .int p1), (2, .int p2)] [] al := by
  unfold vcX9_row_0 at h
  refine zb_aload_n X dX9_row_0 rfl 0 rfl ?_
  refine zb_getI X 0 (zTC_lt (by decide)) 9 [3, 0, 4, 5, 6, 9, 14, 20, 24, if r then 175 else 1, 0, 0, 0, 0, 0] rfl (C := RX9) (Tt := TX9) (N := 15) rfl kX9_row_1 13 (by decide) rfl kX9_row_0 rfl dX9_row_1 (al 0 13) rfl ?_
  refine zb_if_ne X 17 dX9_row_4 (by decide) (fun c1 => ?_) (fun c1 => ?_)
  · have h := h.1 c1
    refine zb_iload_n X dX9_row_17 rfl 1 rfl ?_
    refine zb_if_lt X 32 dX9_row_18 (by decide) (fun c2 => ?_) (fun c2 => ?_)
    · have h := h.1 c2
      refine zb_sub [] rfl ?_
      exact hK32  al h
    · have h := h.2 c2
      refine zb_iload_n X dX9_row_21 rfl 1 rfl ?_
      refine zb_aload_n X dX9_row_22 rfl 0 rfl ?_
      refine zb_getR X 0 (zTC_lt (by decide)) 9 [3, 0, 4, 5, 6, 9, 14, 20, 24, if r then 175 else 1, 0, 0, 0, 0, 0] rfl (C := RX9) (Tt := TX9) (N := 15) rfl kX9_row_1 4 (by decide) 4 rfl kX9_row_2 rfl dX9_row_23 ?_
      refine zb_getI X 4 (zTC_lt (by decide)) 0 [7, 0, 8] rfl (C := RX0) (Tt := TX0) (N := 3) rfl kX9_row_4 1 (by decide) rfl kX9_row_3 rfl dX9_row_26 (al 4 1) rfl ?_
      refine zb_icmp_lt X 42 dX9_row_29 (by decide) (fun c3 => ?_) (fun c3 => ?_)
      · have h := h.1 c3
        refine zb_iload_n X dX9_row_42 rfl 2 rfl ?_
        by_cases c4 : p2 = (0 : Int32)
        · have h := h.1 c4
          refine zb_tabIn X 76 dX9_row_43 (by rw [c4]; decide) (by rw [c4]; decide) (by rw [c4]; rfl) (by decide) ?_
          refine zb_aload_n X dX9_row_76 rfl 0 rfl ?_
          refine zb_getR X 0 (zTC_lt (by decide)) 9 [3, 0, 4, 5, 6, 9, 14, 20, 24, if r then 175 else 1, 0, 0, 0, 0, 0] rfl (C := RX9) (Tt := TX9) (N := 15) rfl kX9_row_1 7 (by decide) 18 rfl kX9_row_5 rfl dX9_row_77 ?_
          refine zb_getR X 18 (zTC_lt (by decide)) 7 [6, 14, 4, 21, 22, 23, 0, 0, 0] rfl (C := RX7) (Tt := TX7) (N := 9) rfl kX9_row_7 3 (by decide) 19 rfl kX9_row_6 rfl dX9_row_80 ?_
          refine zb_iload_n X dX9_row_83 rfl 1 rfl ?_
          obtain ⟨hz, h⟩ := h
          refine zb_iald X 19 (zTC_lt (by decide)) 1 48 0 0 rfl (Or.inl rfl) p1.toNatClampNeg rfl hz dX9_row_84 (al 19 p1.toNatClampNeg) rfl ?_
          exact zb_widen hkc hks (hR 85 _ _ _ dX9_row_85 rfl h)
        have h := h.2 c4
        by_cases c5 : p2 = (1 : Int32)
        · have h := h.1 c5
          refine zb_tabIn X 86 dX9_row_43 (by rw [c5]; decide) (by rw [c5]; decide) (by rw [c5]; rfl) (by decide) ?_
          refine zb_aload_n X dX9_row_86 rfl 0 rfl ?_
          refine zb_getR X 0 (zTC_lt (by decide)) 9 [3, 0, 4, 5, 6, 9, 14, 20, 24, if r then 175 else 1, 0, 0, 0, 0, 0] rfl (C := RX9) (Tt := TX9) (N := 15) rfl kX9_row_1 6 (by decide) 12 rfl kX9_row_8 rfl dX9_row_87 ?_
          refine zb_getR X 12 (zTC_lt (by decide)) 8 [6, 4, 0, 15, 16, 17, 18, 19, 0, 0] rfl (C := RX8) (Tt := TX8) (N := 10) rfl kX9_row_10 7 (by decide) 17 rfl kX9_row_9 rfl dX9_row_90 ?_
          refine zb_iload_n X dX9_row_93 rfl 1 rfl ?_
          obtain ⟨hz, h⟩ := h
          refine zb_iald X 17 (zTC_lt (by decide)) 1 48 0 0 rfl (Or.inl rfl) p1.toNatClampNeg rfl hz dX9_row_94 (al 17 p1.toNatClampNeg) rfl ?_
          exact zb_widen hkc hks (hR 95 _ _ _ dX9_row_95 rfl h)
        have h := h.2 c5
        by_cases c6 : p2 = (2 : Int32)
        · have h := h.1 c6
          refine zb_tabIn X 96 dX9_row_43 (by rw [c6]; decide) (by rw [c6]; decide) (by rw [c6]; rfl) (by decide) ?_
          refine zb_aload_n X dX9_row_96 rfl 0 rfl ?_
          refine zb_getR X 0 (zTC_lt (by decide)) 9 [3, 0, 4, 5, 6, 9, 14, 20, 24, if r then 175 else 1, 0, 0, 0, 0, 0] rfl (C := RX9) (Tt := TX9) (N := 15) rfl kX9_row_1 8 (by decide) 22 rfl kX9_row_11 rfl dX9_row_97 ?_
          refine zb_getR X 22 (zTC_lt (by decide)) 6 [6, 20, 4, 25, 26, 27, 28, 29, 30, 0, 0, 0, 0] rfl (C := RX6) (Tt := TX6) (N := 13) rfl kX9_row_13 5 (by decide) 25 rfl kX9_row_12 rfl dX9_row_100 ?_
          refine zb_iload_n X dX9_row_103 rfl 1 rfl ?_
          obtain ⟨hz, h⟩ := h
          refine zb_iald X 25 (zTC_lt (by decide)) 1 48 0 0 rfl (Or.inl rfl) p1.toNatClampNeg rfl hz dX9_row_104 (al 25 p1.toNatClampNeg) rfl ?_
          exact zb_widen hkc hks (hR 105 _ _ _ dX9_row_105 rfl h)
        have h := h.2 c6
        by_cases c7 : p2 = (3 : Int32)
        · have h := h.1 c7
          refine zb_tabIn X 106 dX9_row_43 (by rw [c7]; decide) (by rw [c7]; decide) (by rw [c7]; rfl) (by decide) ?_
          refine zb_aload_n X dX9_row_106 rfl 0 rfl ?_
          refine zb_getR X 0 (zTC_lt (by decide)) 9 [3, 0, 4, 5, 6, 9, 14, 20, 24, if r then 175 else 1, 0, 0, 0, 0, 0] rfl (C := RX9) (Tt := TX9) (N := 15) rfl kX9_row_1 8 (by decide) 22 rfl kX9_row_11 rfl dX9_row_107 ?_
          refine zb_getR X 22 (zTC_lt (by decide)) 6 [6, 20, 4, 25, 26, 27, 28, 29, 30, 0, 0, 0, 0] rfl (C := RX6) (Tt := TX6) (N := 13) rfl kX9_row_13 3 (by decide) 23 rfl kX9_row_14 rfl dX9_row_110 ?_
          refine zb_iload_n X dX9_row_113 rfl 1 rfl ?_
          obtain ⟨hz, h⟩ := h
          refine zb_iald X 23 (zTC_lt (by decide)) 1 48 0 0 rfl (Or.inl rfl) p1.toNatClampNeg rfl hz dX9_row_114 (al 23 p1.toNatClampNeg) rfl ?_
          exact zb_widen hkc hks (hR 115 _ _ _ dX9_row_115 rfl h)
        have h := h.2 c7
        by_cases c8 : p2 = (4 : Int32)
        · have h := h.1 c8
          refine zb_tabIn X 116 dX9_row_43 (by rw [c8]; decide) (by rw [c8]; decide) (by rw [c8]; rfl) (by decide) ?_
          refine zb_aload_n X dX9_row_116 rfl 0 rfl ?_
          refine zb_getR X 0 (zTC_lt (by decide)) 9 [3, 0, 4, 5, 6, 9, 14, 20, 24, if r then 175 else 1, 0, 0, 0, 0, 0] rfl (C := RX9) (Tt := TX9) (N := 15) rfl kX9_row_1 8 (by decide) 22 rfl kX9_row_11 rfl dX9_row_117 ?_
          refine zb_getR X 22 (zTC_lt (by decide)) 6 [6, 20, 4, 25, 26, 27, 28, 29, 30, 0, 0, 0, 0] rfl (C := RX6) (Tt := TX6) (N := 13) rfl kX9_row_13 4 (by decide) 24 rfl kX9_row_15 rfl dX9_row_120 ?_
          refine zb_iload_n X dX9_row_123 rfl 1 rfl ?_
          obtain ⟨hz, h⟩ := h
          refine zb_iald X 24 (zTC_lt (by decide)) 1 48 0 0 rfl (Or.inl rfl) p1.toNatClampNeg rfl hz dX9_row_124 (al 24 p1.toNatClampNeg) rfl ?_
          exact zb_widen hkc hks (hR 125 _ _ _ dX9_row_125 rfl h)
        have h := h.2 c8
        refine zb_tabOut X 126 dX9_row_43 (by have e0 := zne_int c4; have e1 := zne_int c5; have e2 := zne_int c6; have e3 := zne_int c7; have e4 := zne_int c8; rw [show (0 : Int32).toInt = 0 from by decide] at e0; rw [show (1 : Int32).toInt = 1 from by decide] at e1; rw [show (2 : Int32).toInt = 2 from by decide] at e2; rw [show (3 : Int32).toInt = 3 from by decide] at e3; rw [show (4 : Int32).toInt = 4 from by decide] at e4; omega) (by decide) ?_
        refine zb_sub [] rfl ?_
        exact hK126  al h
      · have h := h.2 c3
        refine zb_sub [] rfl ?_
        exact hK32  al h
  · have h := h.2 c1
    refine zb_sub [] rfl ?_
    exact hK7  al h
theorem uX9_row_0 {G : zG} {Z : zC} {r : Bool} {ad ln : Nat → Nat} (X : zX G Z cX9_row 3 RX9 wsX9_row) (zc zs kc ks : Nat) (hkc : kc ≤ zc) (hks : ks ≤ zs) (p1 : Int32) (p2 : Int32) {post : Int32 → (Nat → Nat → Int32) → Prop} (hR : zRi G Z (rmX9_row zc zs) 3 (zTC r) ad ln cX9_row .int post) (al : Nat → Nat → Int32) (h : vcX9_row_0 G r ad ln zc zs kc ks hkc hks p1 p2 (BX9_row_7 G Z r ad ln zc zs kc ks hkc hks p1 p2) (BX9_row_32 G Z r ad ln zc zs kc ks hkc hks p1 p2) (BX9_row_126 G Z r ad ln zc zs kc ks hkc hks p1 p2) post  al) : zB G Z (rmX9_row zc zs) 3 (zTC r) ad ln kc ks 0 [(0, .ref (ad 0)), (1, .int p1), (2, .int p2)] [] al := tX9_row_0 X zc zs kc ks hkc hks p1 p2 hR (fun _ h => h) (fun _ h => h) (fun _ h => h)  al h
abbrev rmX9_register (zc zs : Nat) : Room := { frames := 6, cells := zc, slots := zs, locals := 82 }
theorem kX9y_register_0 : Cond.fieldLink RX9 202 RX9 "runner" "LLoopForge$Runner;" ∈ wsX9_register := by decide +kernel
theorem kX9y_register_1 : zIn RX9 TX9 15 wsX9_register := by decide +kernel
theorem kX9y_register_2 : Cond.fieldLink RX9 118 RX9 "hasRun" "Z" ∈ wsX9_register := by decide +kernel
theorem kX9y_register_3 : Cond.fieldLink RX9 220 RX4 "registers" "[I" ∈ wsX9_register := by decide +kernel
theorem kX9y_register_4 : zIn RX4 TX4 10 wsX9_register := by decide +kernel
abbrev BX9y_register_36 (G : zG) (Z : zC)  (ad ln : Nat → Nat) (zc zs kc ks : Nat) (hkc : kc ≤ zc) (hks : ks ≤ zs) (p1 : Int32) (al : Nat → Nat → Int32) : Prop := zB G Z (rmX9_register zc zs) 3 (zTC true) ad ln kc ks 36 [] [] al
abbrev BX9y_register_16 (G : zG) (Z : zC)  (ad ln : Nat → Nat) (zc zs kc ks : Nat) (hkc : kc ≤ zc) (hks : ks ≤ zs) (p1 : Int32) (al : Nat → Nat → Int32) : Prop := zB G Z (rmX9_register zc zs) 3 (zTC true) ad ln kc ks 16 [] [] al
def vcX9y_register_0 (G : zG)  (ad ln : Nat → Nat) (zc zs kc ks : Nat) (hkc : kc ≤ zc) (hks : ks ≤ zs) (p1 : Int32) (K16 : (Nat → Nat → Int32) → Prop) (K36 : (Nat → Nat → Int32) → Prop) (post : Int32 → (Nat → Nat → Int32) → Prop) (al : Nat → Nat → Int32) : Prop :=
  ((al 0 14) = 0 → K16  al) ∧ (¬ (al 0 14) = 0 → (p1 < 0 → K36  al) ∧ (¬ p1 < 0 → (p1 < (32 : Int32) → (vp_in p1 32 ∧ post (al 175 p1.toNatClampNeg) al)) ∧ (¬ p1 < (32 : Int32) → K36  al)))
set_option maxRecDepth 20000 in
theorem tX9y_register_0 {G : zG} {Z : zC}  {ad ln : Nat → Nat} (X : zX G Z cX9_register 3 RX9 wsX9_register) (zc zs kc ks : Nat) (hkc : kc ≤ zc) (hks : ks ≤ zs) (p1 : Int32) {K16 : (Nat → Nat → Int32) → Prop} {K36 : (Nat → Nat → Int32) → Prop} {post : Int32 → (Nat → Nat → Int32) → Prop} (hR : zRi G Z (rmX9_register zc zs) 3 (zTC true) ad ln cX9_register .int post) (hK16 : ∀ al, K16  al → zB G Z (rmX9_register zc zs) 3 (zTC true) ad ln kc ks 16 [] [] al) (hK36 : ∀ al, K36  al → zB G Z (rmX9_register zc zs) 3 (zTC true) ad ln kc ks 36 [] [] al) (al : Nat → Nat → Int32) (h : vcX9y_register_0 G  ad ln zc zs kc ks hkc hks p1 K16 K36 post  al) : zB G Z (rmX9_register zc zs) 3 (zTC true) ad ln kc ks 0 [(0, .ref (ad 0)), (1, .int p1)] [] al := by
  unfold vcX9y_register_0 at h
  refine zb_aload_n X dX9_register_0 rfl 0 rfl ?_
  refine zb_getR X 0 (zTC_lt (by decide)) 9 [3, 0, 4, 5, 6, 9, 14, 20, 24, 175, 0, 0, 0, 0, 0] rfl (C := RX9) (Tt := TX9) (N := 15) rfl kX9y_register_1 9 (by decide) 173 rfl kX9y_register_0 rfl dX9_register_1 ?_
  refine zb_astore_n X (lv' := [(2, .ref (ad 173)), (0, .ref (ad 0)), (1, .int p1)]) dX9_register_4 rfl (by decide) rfl ?_
  refine zb_aload_n X dX9_register_5 rfl 1 rfl ?_
  refine zb_getI X 0 (zTC_lt (by decide)) 9 [3, 0, 4, 5, 6, 9, 14, 20, 24, 175, 0, 0, 0, 0, 0] rfl (C := RX9) (Tt := TX9) (N := 15) rfl kX9y_register_1 14 (by decide) rfl kX9y_register_2 rfl dX9_register_6 (al 0 14) rfl ?_
  refine zb_if_eq X 16 dX9_register_9 (by decide) (fun c1 => ?_) (fun c1 => ?_)
  · have h := h.1 c1
    refine zb_sub [] rfl ?_
    exact hK16  al h
  · have h := h.2 c1
    refine zb_aload_n X dX9_register_12 rfl 0 rfl ?_
    refine zb_ifnonnull X 26 dX9_register_13 (by decide) ?_
    refine zb_iload_n X dX9_register_26 rfl 2 rfl ?_
    refine zb_if_lt X 36 dX9_register_27 (by decide) (fun c2 => ?_) (fun c2 => ?_)
    · have h := h.1 c2
      refine zb_sub [] rfl ?_
      exact hK36  al h
    · have h := h.2 c2
      refine zb_iload_n X dX9_register_30 rfl 2 rfl ?_
      refine zb_bipush X (32 : Int32) dX9_register_31 (by decide) ?_
      refine zb_icmp_lt X 46 dX9_register_33 (by decide) (fun c3 => ?_) (fun c3 => ?_)
      · have h := h.1 c3
        refine zb_aload_n X dX9_register_46 rfl 0 rfl ?_
        refine zb_getR X 173 (zTC_ltR (by decide)) 4 [6, 20, 24, 4, 5, 176, 177, 178, 179, 0] rfl (C := RX4) (Tt := TX4) (N := 10) rfl kX9y_register_4 6 (by decide) 175 rfl kX9y_register_3 rfl dX9_register_47 ?_
        refine zb_iload_n X dX9_register_50 rfl 2 rfl ?_
        obtain ⟨hz, h⟩ := h
        refine zb_iald X 175 (zTC_ltR (by decide)) 1 32 0 0 rfl (Or.inl rfl) p1.toNatClampNeg rfl hz dX9_register_51 (al 175 p1.toNatClampNeg) rfl ?_
        exact zb_widen hkc hks (hR 52 _ _ _ dX9_register_52 rfl h)
      · have h := h.2 c3
        refine zb_sub [] rfl ?_
        exact hK36  al h
theorem uX9y_register_0 {G : zG} {Z : zC}  {ad ln : Nat → Nat} (X : zX G Z cX9_register 3 RX9 wsX9_register) (zc zs kc ks : Nat) (hkc : kc ≤ zc) (hks : ks ≤ zs) (p1 : Int32) {post : Int32 → (Nat → Nat → Int32) → Prop} (hR : zRi G Z (rmX9_register zc zs) 3 (zTC true) ad ln cX9_register .int post) (al : Nat → Nat → Int32) (h : vcX9y_register_0 G  ad ln zc zs kc ks hkc hks p1 (BX9y_register_16 G Z  ad ln zc zs kc ks hkc hks p1) (BX9y_register_36 G Z  ad ln zc zs kc ks hkc hks p1) post  al) : zB G Z (rmX9_register zc zs) 3 (zTC true) ad ln kc ks 0 [(0, .ref (ad 0)), (1, .int p1)] [] al := tX9y_register_0 X zc zs kc ks hkc hks p1 hR (fun _ h => h) (fun _ h => h)  al h
theorem kX9n_register_0 : Cond.fieldLink RX9 202 RX9 "runner" "LLoopForge$Runner;" ∈ wsX9_register := by decide +kernel
theorem kX9n_register_1 : zIn RX9 TX9 15 wsX9_register := by decide +kernel
theorem kX9n_register_2 : Cond.fieldLink RX9 118 RX9 "hasRun" "Z" ∈ wsX9_register := by decide +kernel
abbrev BX9n_register_16 (G : zG) (Z : zC)  (ad ln : Nat → Nat) (zc zs kc ks : Nat) (hkc : kc ≤ zc) (hks : ks ≤ zs) (p1 : Int32) (al : Nat → Nat → Int32) : Prop := zB G Z (rmX9_register zc zs) 3 (zTC false) ad ln kc ks 16 [] [] al
def vcX9n_register_0 (G : zG)  (ad ln : Nat → Nat) (zc zs kc ks : Nat) (hkc : kc ≤ zc) (hks : ks ≤ zs) (p1 : Int32) (K16 : (Nat → Nat → Int32) → Prop) (post : Int32 → (Nat → Nat → Int32) → Prop) (al : Nat → Nat → Int32) : Prop :=
  ((al 0 14) = 0 → K16  al) ∧ (¬ (al 0 14) = 0 → K16  al)
set_option maxRecDepth 20000 in
theorem tX9n_register_0 {G : zG} {Z : zC}  {ad ln : Nat → Nat} (X : zX G Z cX9_register 3 RX9 wsX9_register) (zc zs kc ks : Nat) (hkc : kc ≤ zc) (hks : ks ≤ zs) (p1 : Int32) {K16 : (Nat → Nat → Int32) → Prop} {post : Int32 → (Nat → Nat → Int32) → Prop} (hR : zRi G Z (rmX9_register zc zs) 3 (zTC false) ad ln cX9_register .int post) (hK16 : ∀ al, K16  al → zB G Z (rmX9_register zc zs) 3 (zTC false) ad ln kc ks 16 [] [] al) (al : Nat → Nat → Int32) (h : vcX9n_register_0 G  ad ln zc zs kc ks hkc hks p1 K16 post  al) : zB G Z (rmX9_register zc zs) 3 (zTC false) ad ln kc ks 0 [(0, .ref (ad 0)), (1, .int p1)] [] al := by
  unfold vcX9n_register_0 at h
  refine zb_aload_n X dX9_register_0 rfl 0 rfl ?_
  refine zb_getN X 0 (zTC_lt (by decide)) 9 [3, 0, 4, 5, 6, 9, 14, 20, 24, 1, 0, 0, 0, 0, 0] rfl (C := RX9) (Tt := TX9) (N := 15) rfl kX9n_register_1 9 (by decide) rfl kX9n_register_0 rfl dX9_register_1 ?_
  refine zb_astore_nN X (lv' := [(2, .null), (0, .ref (ad 0)), (1, .int p1)]) dX9_register_4 rfl (by decide) rfl ?_
  refine zb_aload_n X dX9_register_5 rfl 1 rfl ?_
  refine zb_getI X 0 (zTC_lt (by decide)) 9 [3, 0, 4, 5, 6, 9, 14, 20, 24, 1, 0, 0, 0, 0, 0] rfl (C := RX9) (Tt := TX9) (N := 15) rfl kX9n_register_1 14 (by decide) rfl kX9n_register_2 rfl dX9_register_6 (al 0 14) rfl ?_
  refine zb_if_eq X 16 dX9_register_9 (by decide) (fun c1 => ?_) (fun c1 => ?_)
  · have h := h.1 c1
    refine zb_sub [] rfl ?_
    exact hK16  al h
  · have h := h.2 c1
    refine zb_aload_nN X dX9_register_12 rfl 0 rfl ?_
    refine zb_ifnonnullN X dX9_register_13 ?_
    refine zb_sub [] rfl ?_
    exact hK16  al h
theorem uX9n_register_0 {G : zG} {Z : zC}  {ad ln : Nat → Nat} (X : zX G Z cX9_register 3 RX9 wsX9_register) (zc zs kc ks : Nat) (hkc : kc ≤ zc) (hks : ks ≤ zs) (p1 : Int32) {post : Int32 → (Nat → Nat → Int32) → Prop} (hR : zRi G Z (rmX9_register zc zs) 3 (zTC false) ad ln cX9_register .int post) (al : Nat → Nat → Int32) (h : vcX9n_register_0 G  ad ln zc zs kc ks hkc hks p1 (BX9n_register_16 G Z  ad ln zc zs kc ks hkc hks p1) post  al) : zB G Z (rmX9_register zc zs) 3 (zTC false) ad ln kc ks 0 [(0, .ref (ad 0)), (1, .int p1)] [] al := tX9n_register_0 X zc zs kc ks hkc hks p1 hR (fun _ h => h)  al h
abbrev rmX9_cell (zc zs : Nat) : Room := { frames := 6, cells := zc, slots := zs, locals := 82 }
theorem kX9y_cell_0 : Cond.fieldLink RX9 202 RX9 "runner" "LLoopForge$Runner;" ∈ wsX9_cell := by decide +kernel
theorem kX9y_cell_1 : zIn RX9 TX9 15 wsX9_cell := by decide +kernel
theorem kX9y_cell_2 : Cond.fieldLink RX9 118 RX9 "hasRun" "Z" ∈ wsX9_cell := by decide +kernel
theorem kX9y_cell_3 : Cond.fieldLink RX9 225 RX4 "cells" "[I" ∈ wsX9_cell := by decide +kernel
theorem kX9y_cell_4 : zIn RX4 TX4 10 wsX9_cell := by decide +kernel
abbrev BX9y_cell_46 (G : zG) (Z : zC)  (ad ln : Nat → Nat) (zc zs kc ks : Nat) (hkc : kc ≤ zc) (hks : ks ≤ zs) (p1 : Int32) (p2 : Int32) (al : Nat → Nat → Int32) : Prop := zB G Z (rmX9_cell zc zs) 4 (zTC true) ad ln kc ks 46 [] [] al
abbrev BX9y_cell_16 (G : zG) (Z : zC)  (ad ln : Nat → Nat) (zc zs kc ks : Nat) (hkc : kc ≤ zc) (hks : ks ≤ zs) (p1 : Int32) (p2 : Int32) (al : Nat → Nat → Int32) : Prop := zB G Z (rmX9_cell zc zs) 4 (zTC true) ad ln kc ks 16 [] [] al
def vcX9y_cell_0 (G : zG)  (ad ln : Nat → Nat) (zc zs kc ks : Nat) (hkc : kc ≤ zc) (hks : ks ≤ zs) (p1 : Int32) (p2 : Int32) (K16 : (Nat → Nat → Int32) → Prop) (K46 : (Nat → Nat → Int32) → Prop) (post : Int32 → (Nat → Nat → Int32) → Prop) (al : Nat → Nat → Int32) : Prop :=
  ((al 0 14) = 0 → K16  al) ∧ (¬ (al 0 14) = 0 → (p1 < 0 → K46  al) ∧ (¬ p1 < 0 → ((4 : Int32) ≤ p1 → K46  al) ∧ (¬ (4 : Int32) ≤ p1 → (p2 < 0 → K46  al) ∧ (¬ p2 < 0 → (p2 < (1024 : Int32) → (vp_in ((p1 * (1024 : Int32)) + p2) 4096 ∧ post (al 174 (((p1 * (1024 : Int32)) + p2).toNatClampNeg)) al)) ∧ (¬ p2 < (1024 : Int32) → K46  al)))))
set_option maxRecDepth 20000 in
theorem tX9y_cell_0 {G : zG} {Z : zC}  {ad ln : Nat → Nat} (X : zX G Z cX9_cell 4 RX9 wsX9_cell) (zc zs kc ks : Nat) (hkc : kc ≤ zc) (hks : ks ≤ zs) (p1 : Int32) (p2 : Int32) {K16 : (Nat → Nat → Int32) → Prop} {K46 : (Nat → Nat → Int32) → Prop} {post : Int32 → (Nat → Nat → Int32) → Prop} (hR : zRi G Z (rmX9_cell zc zs) 4 (zTC true) ad ln cX9_cell .int post) (hK16 : ∀ al, K16  al → zB G Z (rmX9_cell zc zs) 4 (zTC true) ad ln kc ks 16 [] [] al) (hK46 : ∀ al, K46  al → zB G Z (rmX9_cell zc zs) 4 (zTC true) ad ln kc ks 46 [] [] al) (al : Nat → Nat → Int32) (h : vcX9y_cell_0 G  ad ln zc zs kc ks hkc hks p1 p2 K16 K46 post  al) : zB G Z (rmX9_cell zc zs) 4 (zTC true) ad ln kc ks 0 [(0, .ref (ad 0)), (1, .int p1), (2, .int p2)] [] al := by
  unfold vcX9y_cell_0 at h
  refine zb_aload_n X dX9_cell_0 rfl 0 rfl ?_
  refine zb_getR X 0 (zTC_lt (by decide)) 9 [3, 0, 4, 5, 6, 9, 14, 20, 24, 175, 0, 0, 0, 0, 0] rfl (C := RX9) (Tt := TX9) (N := 15) rfl kX9y_cell_1 9 (by decide) 173 rfl kX9y_cell_0 rfl dX9_cell_1 ?_
  refine zb_astore_n X (lv' := [(3, .ref (ad 173)), (0, .ref (ad 0)), (1, .int p1), (2, .int p2)]) dX9_cell_4 rfl (by decide) rfl ?_
  refine zb_aload_n X dX9_cell_5 rfl 1 rfl ?_
  refine zb_getI X 0 (zTC_lt (by decide)) 9 [3, 0, 4, 5, 6, 9, 14, 20, 24, 175, 0, 0, 0, 0, 0] rfl (C := RX9) (Tt := TX9) (N := 15) rfl kX9y_cell_1 14 (by decide) rfl kX9y_cell_2 rfl dX9_cell_6 (al 0 14) rfl ?_
  refine zb_if_eq X 16 dX9_cell_9 (by decide) (fun c1 => ?_) (fun c1 => ?_)
  · have h := h.1 c1
    refine zb_sub [] rfl ?_
    exact hK16  al h
  · have h := h.2 c1
    refine zb_aload_n X dX9_cell_12 rfl 0 rfl ?_
    refine zb_ifnonnull X 26 dX9_cell_13 (by decide) ?_
    refine zb_iload_n X dX9_cell_26 rfl 2 rfl ?_
    refine zb_if_lt X 46 dX9_cell_27 (by decide) (fun c2 => ?_) (fun c2 => ?_)
    · have h := h.1 c2
      refine zb_sub [] rfl ?_
      exact hK46  al h
    · have h := h.2 c2
      refine zb_iload_n X dX9_cell_30 rfl 2 rfl ?_
      refine zb_iconst X (4 : Int32) dX9_cell_31 (by decide) ?_
      refine zb_icmp_ge X 46 dX9_cell_32 (by decide) (fun c3 => ?_) (fun c3 => ?_)
      · have h := h.1 c3
        refine zb_sub [] rfl ?_
        exact hK46  al h
      · have h := h.2 c3
        refine zb_iload_n X dX9_cell_35 rfl 3 rfl ?_
        refine zb_if_lt X 46 dX9_cell_36 (by decide) (fun c4 => ?_) (fun c4 => ?_)
        · have h := h.1 c4
          refine zb_sub [] rfl ?_
          exact hK46  al h
        · have h := h.2 c4
          refine zb_iload_n X dX9_cell_39 rfl 3 rfl ?_
          refine zb_sipush X (1024 : Int32) dX9_cell_40 (by decide) ?_
          refine zb_icmp_lt X 56 dX9_cell_43 (by decide) (fun c5 => ?_) (fun c5 => ?_)
          · have h := h.1 c5
            refine zb_aload_n X dX9_cell_56 rfl 0 rfl ?_
            refine zb_getR X 173 (zTC_ltR (by decide)) 4 [6, 20, 24, 4, 5, 176, 177, 178, 179, 0] rfl (C := RX4) (Tt := TX4) (N := 10) rfl kX9y_cell_4 5 (by decide) 174 rfl kX9y_cell_3 rfl dX9_cell_57 ?_
            refine zb_iload_n X dX9_cell_60 rfl 2 rfl ?_
            refine zb_sipush X (1024 : Int32) dX9_cell_61 (by decide) ?_
            refine zb_imul X dX9_cell_64 ?_
            refine zb_iload_n X dX9_cell_65 rfl 3 rfl ?_
            refine zb_iadd X dX9_cell_66 ?_
            obtain ⟨hz, h⟩ := h
            refine zb_iald X 174 (zTC_ltR (by decide)) 1 4096 0 0 rfl (Or.inl rfl) (((p1 * (1024 : Int32)) + p2).toNatClampNeg) rfl hz dX9_cell_67 (al 174 (((p1 * (1024 : Int32)) + p2).toNatClampNeg)) rfl ?_
            exact zb_widen hkc hks (hR 68 _ _ _ dX9_cell_68 rfl h)
          · have h := h.2 c5
            refine zb_sub [] rfl ?_
            exact hK46  al h
theorem uX9y_cell_0 {G : zG} {Z : zC}  {ad ln : Nat → Nat} (X : zX G Z cX9_cell 4 RX9 wsX9_cell) (zc zs kc ks : Nat) (hkc : kc ≤ zc) (hks : ks ≤ zs) (p1 : Int32) (p2 : Int32) {post : Int32 → (Nat → Nat → Int32) → Prop} (hR : zRi G Z (rmX9_cell zc zs) 4 (zTC true) ad ln cX9_cell .int post) (al : Nat → Nat → Int32) (h : vcX9y_cell_0 G  ad ln zc zs kc ks hkc hks p1 p2 (BX9y_cell_16 G Z  ad ln zc zs kc ks hkc hks p1 p2) (BX9y_cell_46 G Z  ad ln zc zs kc ks hkc hks p1 p2) post  al) : zB G Z (rmX9_cell zc zs) 4 (zTC true) ad ln kc ks 0 [(0, .ref (ad 0)), (1, .int p1), (2, .int p2)] [] al := tX9y_cell_0 X zc zs kc ks hkc hks p1 p2 hR (fun _ h => h) (fun _ h => h)  al h
theorem kX9n_cell_0 : Cond.fieldLink RX9 202 RX9 "runner" "LLoopForge$Runner;" ∈ wsX9_cell := by decide +kernel
theorem kX9n_cell_1 : zIn RX9 TX9 15 wsX9_cell := by decide +kernel
theorem kX9n_cell_2 : Cond.fieldLink RX9 118 RX9 "hasRun" "Z" ∈ wsX9_cell := by decide +kernel
abbrev BX9n_cell_16 (G : zG) (Z : zC)  (ad ln : Nat → Nat) (zc zs kc ks : Nat) (hkc : kc ≤ zc) (hks : ks ≤ zs) (p1 : Int32) (p2 : Int32) (al : Nat → Nat → Int32) : Prop := zB G Z (rmX9_cell zc zs) 4 (zTC false) ad ln kc ks 16 [] [] al
def vcX9n_cell_0 (G : zG)  (ad ln : Nat → Nat) (zc zs kc ks : Nat) (hkc : kc ≤ zc) (hks : ks ≤ zs) (p1 : Int32) (p2 : Int32) (K16 : (Nat → Nat → Int32) → Prop) (post : Int32 → (Nat → Nat → Int32) → Prop) (al : Nat → Nat → Int32) : Prop :=
  ((al 0 14) = 0 → K16  al) ∧ (¬ (al 0 14) = 0 → K16  al)
set_option maxRecDepth 20000 in
theorem tX9n_cell_0 {G : zG} {Z : zC}  {ad ln : Nat → Nat} (X : zX G Z cX9_cell 4 RX9 wsX9_cell) (zc zs kc ks : Nat) (hkc : kc ≤ zc) (hks : ks ≤ zs) (p1 : Int32) (p2 : Int32) {K16 : (Nat → Nat → Int32) → Prop} {post : Int32 → (Nat → Nat → Int32) → Prop} (hR : zRi G Z (rmX9_cell zc zs) 4 (zTC false) ad ln cX9_cell .int post) (hK16 : ∀ al, K16  al → zB G Z (rmX9_cell zc zs) 4 (zTC false) ad ln kc ks 16 [] [] al) (al : Nat → Nat → Int32) (h : vcX9n_cell_0 G  ad ln zc zs kc ks hkc hks p1 p2 K16 post  al) : zB G Z (rmX9_cell zc zs) 4 (zTC false) ad ln kc ks 0 [(0, .ref (ad 0)), (1, .int p1), (2, .int p2)] [] al := by
  unfold vcX9n_cell_0 at h
  refine zb_aload_n X dX9_cell_0 rfl 0 rfl ?_
  refine zb_getN X 0 (zTC_lt (by decide)) 9 [3, 0, 4, 5, 6, 9, 14, 20, 24, 1, 0, 0, 0, 0, 0] rfl (C := RX9) (Tt := TX9) (N := 15) rfl kX9n_cell_1 9 (by decide) rfl kX9n_cell_0 rfl dX9_cell_1 ?_
  refine zb_astore_nN X (lv' := [(3, .null), (0, .ref (ad 0)), (1, .int p1), (2, .int p2)]) dX9_cell_4 rfl (by decide) rfl ?_
  refine zb_aload_n X dX9_cell_5 rfl 1 rfl ?_
  refine zb_getI X 0 (zTC_lt (by decide)) 9 [3, 0, 4, 5, 6, 9, 14, 20, 24, 1, 0, 0, 0, 0, 0] rfl (C := RX9) (Tt := TX9) (N := 15) rfl kX9n_cell_1 14 (by decide) rfl kX9n_cell_2 rfl dX9_cell_6 (al 0 14) rfl ?_
  refine zb_if_eq X 16 dX9_cell_9 (by decide) (fun c1 => ?_) (fun c1 => ?_)
  · have h := h.1 c1
    refine zb_sub [] rfl ?_
    exact hK16  al h
  · have h := h.2 c1
    refine zb_aload_nN X dX9_cell_12 rfl 0 rfl ?_
    refine zb_ifnonnullN X dX9_cell_13 ?_
    refine zb_sub [] rfl ?_
    exact hK16  al h
theorem uX9n_cell_0 {G : zG} {Z : zC}  {ad ln : Nat → Nat} (X : zX G Z cX9_cell 4 RX9 wsX9_cell) (zc zs kc ks : Nat) (hkc : kc ≤ zc) (hks : ks ≤ zs) (p1 : Int32) (p2 : Int32) {post : Int32 → (Nat → Nat → Int32) → Prop} (hR : zRi G Z (rmX9_cell zc zs) 4 (zTC false) ad ln cX9_cell .int post) (al : Nat → Nat → Int32) (h : vcX9n_cell_0 G  ad ln zc zs kc ks hkc hks p1 p2 (BX9n_cell_16 G Z  ad ln zc zs kc ks hkc hks p1 p2) post  al) : zB G Z (rmX9_cell zc zs) 4 (zTC false) ad ln kc ks 0 [(0, .ref (ad 0)), (1, .int p1), (2, .int p2)] [] al := tX9n_cell_0 X zc zs kc ks hkc hks p1 p2 hR (fun _ h => h)  al h
