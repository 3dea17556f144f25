abbrev rmJ9_floorDiv_7cf53 : Room := { frames := 0, cells := 0, slots := 0, locals := 0 }
def vcJ9_floorDiv_7cf53_21 (G : zG) (T : zT) (ad ln : Nat → Nat) (p0 : Int32) (p1 : Int32)  (post : Int32 → (Nat → Nat → Int32) → Prop) (x2 : Int32) (al : Nat → Nat → Int32) : Prop :=
  post x2 al
def vcJ9_floorDiv_7cf53_0 (G : zG) (T : zT) (ad ln : Nat → Nat) (p0 : Int32) (p1 : Int32)  (post : Int32 → (Nat → Nat → Int32) → Prop) (al : Nat → Nat → Int32) : Prop :=
  (¬ p1 = 0 ∧ (0 ≤ (p0 ^^^ p1) → vcJ9_floorDiv_7cf53_21 G T ad ln p0 p1  post (p0 / p1) al) ∧ (¬ 0 ≤ (p0 ^^^ p1) → (((p0 / p1) * p1) = p0 → vcJ9_floorDiv_7cf53_21 G T ad ln p0 p1  post (p0 / p1) al) ∧ (¬ ((p0 / p1) * p1) = p0 → post ((p0 / p1) - (1 : Int32)) al)))
set_option maxRecDepth 20000 in
theorem tJ9_floorDiv_7cf53_21 {G : zG} {Z : zC} {T : zT} {ad ln : Nat → Nat} (X : zX G Z cJ9_floorDiv_7cf53 3 RJ9 wsJ9_floorDiv_7cf53) (p0 : Int32) (p1 : Int32)  {post : Int32 → (Nat → Nat → Int32) → Prop} (hR : zRi G Z rmJ9_floorDiv_7cf53 3 T ad ln cJ9_floorDiv_7cf53 .int post)  (x2 : Int32) (al : Nat → Nat → Int32) (h : vcJ9_floorDiv_7cf53_21 G T ad ln p0 p1  post x2 al) : zB G Z rmJ9_floorDiv_7cf53 3 T ad ln 0 0 21 [(2, .int x2)] [] al := by
  unfold vcJ9_floorDiv_7cf53_21 at h
  refine zb_iload_n X dJ9_floorDiv_7cf53_21 rfl 0 rfl ?_
  exact hR 22 _ _ _ dJ9_floorDiv_7cf53_22 rfl h
set_option maxRecDepth 20000 in
theorem tJ9_floorDiv_7cf53_0 {G : zG} {Z : zC} {T : zT} {ad ln : Nat → Nat} (X : zX G Z cJ9_floorDiv_7cf53 3 RJ9 wsJ9_floorDiv_7cf53) (p0 : Int32) (p1 : Int32)  {post : Int32 → (Nat → Nat → Int32) → Prop} (hR : zRi G Z rmJ9_floorDiv_7cf53 3 T ad ln cJ9_floorDiv_7cf53 .int post)  (al : Nat → Nat → Int32) (h : vcJ9_floorDiv_7cf53_0 G T ad ln p0 p1  post  al) : zB G Z rmJ9_floorDiv_7cf53 3 T ad ln 0 0 0 [(0, .int p0), (1, .int p1)] [] al := by
  unfold vcJ9_floorDiv_7cf53_0 at h
  refine zb_iload_n X dJ9_floorDiv_7cf53_0 rfl 0 rfl ?_
  refine zb_iload_n X dJ9_floorDiv_7cf53_1 rfl 1 rfl ?_
  obtain ⟨hz, h⟩ := h
  refine zb_idiv X dJ9_floorDiv_7cf53_2 hz ?_
  refine zb_istore_n X (lv' := [(2, .int (p0 / p1)), (0, .int p0), (1, .int p1)]) dJ9_floorDiv_7cf53_3 rfl (by decide) rfl ?_
  refine zb_iload_n X dJ9_floorDiv_7cf53_4 rfl 1 rfl ?_
  refine zb_iload_n X dJ9_floorDiv_7cf53_5 rfl 2 rfl ?_
  refine zb_ixor X dJ9_floorDiv_7cf53_6 ?_
  refine zb_if_ge X 21 dJ9_floorDiv_7cf53_7 (by decide) (fun c1 => ?_) (fun c1 => ?_)
  · have h := h.1 c1
    refine zb_sub [0] rfl ?_
    exact tJ9_floorDiv_7cf53_21 X p0 p1 hR  (p0 / p1) al h
  · have h := h.2 c1
    refine zb_iload_n X dJ9_floorDiv_7cf53_10 rfl 0 rfl ?_
    refine zb_iload_n X dJ9_floorDiv_7cf53_11 rfl 2 rfl ?_
    refine zb_imul X dJ9_floorDiv_7cf53_12 ?_
    refine zb_iload_n X dJ9_floorDiv_7cf53_13 rfl 1 rfl ?_
    refine zb_icmp_eq X 21 dJ9_floorDiv_7cf53_14 (by decide) (fun c2 => ?_) (fun c2 => ?_)
    · have h := h.1 c2
      refine zb_sub [0] rfl ?_
      exact tJ9_floorDiv_7cf53_21 X p0 p1 hR  (p0 / p1) al h
    · have h := h.2 c2
      refine zb_iload_n X dJ9_floorDiv_7cf53_17 rfl 0 rfl ?_
      refine zb_iconst X (1 : Int32) dJ9_floorDiv_7cf53_18 (by decide) ?_
      refine zb_isub X dJ9_floorDiv_7cf53_19 ?_
      exact hR 20 _ _ _ dJ9_floorDiv_7cf53_20 rfl h

abbrev rmJ9_floorMod_7cf53 : Room := { frames := 0, cells := 0, slots := 0, locals := 0 }
def vcJ9_floorMod_7cf53_18 (G : zG) (T : zT) (ad ln : Nat → Nat) (p0 : Int32) (p1 : Int32)  (post : Int32 → (Nat → Nat → Int32) → Prop) (x2 : Int32) (al : Nat → Nat → Int32) : Prop :=
  post x2 al
def vcJ9_floorMod_7cf53_0 (G : zG) (T : zT) (ad ln : Nat → Nat) (p0 : Int32) (p1 : Int32)  (post : Int32 → (Nat → Nat → Int32) → Prop) (al : Nat → Nat → Int32) : Prop :=
  (¬ p1 = 0 ∧ (0 ≤ (p0 ^^^ p1) → vcJ9_floorMod_7cf53_18 G T ad ln p0 p1  post (p0 - p0 / p1 * p1) al) ∧ (¬ 0 ≤ (p0 ^^^ p1) → ((p0 - p0 / p1 * p1) = 0 → vcJ9_floorMod_7cf53_18 G T ad ln p0 p1  post (p0 - p0 / p1 * p1) al) ∧ (¬ (p0 - p0 / p1 * p1) = 0 → post ((p0 - p0 / p1 * p1) + p1) al)))
set_option maxRecDepth 20000 in
theorem tJ9_floorMod_7cf53_18 {G : zG} {Z : zC} {T : zT} {ad ln : Nat → Nat} (X : zX G Z cJ9_floorMod_7cf53 3 RJ9 wsJ9_floorMod_7cf53) (p0 : Int32) (p1 : Int32)  {post : Int32 → (Nat → Nat → Int32) → Prop} (hR : zRi G Z rmJ9_floorMod_7cf53 3 T ad ln cJ9_floorMod_7cf53 .int post)  (x2 : Int32) (al : Nat → Nat → Int32) (h : vcJ9_floorMod_7cf53_18 G T ad ln p0 p1  post x2 al) : zB G Z rmJ9_floorMod_7cf53 3 T ad ln 0 0 18 [(2, .int x2)] [] al := by
  unfold vcJ9_floorMod_7cf53_18 at h
  refine zb_iload_n X dJ9_floorMod_7cf53_18 rfl 0 rfl ?_
  exact hR 19 _ _ _ dJ9_floorMod_7cf53_19 rfl h
set_option maxRecDepth 20000 in
theorem tJ9_floorMod_7cf53_0 {G : zG} {Z : zC} {T : zT} {ad ln : Nat → Nat} (X : zX G Z cJ9_floorMod_7cf53 3 RJ9 wsJ9_floorMod_7cf53) (p0 : Int32) (p1 : Int32)  {post : Int32 → (Nat → Nat → Int32) → Prop} (hR : zRi G Z rmJ9_floorMod_7cf53 3 T ad ln cJ9_floorMod_7cf53 .int post)  (al : Nat → Nat → Int32) (h : vcJ9_floorMod_7cf53_0 G T ad ln p0 p1  post  al) : zB G Z rmJ9_floorMod_7cf53 3 T ad ln 0 0 0 [(0, .int p0), (1, .int p1)] [] al := by
  unfold vcJ9_floorMod_7cf53_0 at h
  refine zb_iload_n X dJ9_floorMod_7cf53_0 rfl 0 rfl ?_
  refine zb_iload_n X dJ9_floorMod_7cf53_1 rfl 1 rfl ?_
  obtain ⟨hz, h⟩ := h
  refine zb_irem X dJ9_floorMod_7cf53_2 hz ?_
  refine zb_istore_n X (lv' := [(2, .int (p0 - p0 / p1 * p1)), (0, .int p0), (1, .int p1)]) dJ9_floorMod_7cf53_3 rfl (by decide) rfl ?_
  refine zb_iload_n X dJ9_floorMod_7cf53_4 rfl 1 rfl ?_
  refine zb_iload_n X dJ9_floorMod_7cf53_5 rfl 2 rfl ?_
  refine zb_ixor X dJ9_floorMod_7cf53_6 ?_
  refine zb_if_ge X 18 dJ9_floorMod_7cf53_7 (by decide) (fun c1 => ?_) (fun c1 => ?_)
  · have h := h.1 c1
    refine zb_sub [0] rfl ?_
    exact tJ9_floorMod_7cf53_18 X p0 p1 hR  (p0 - p0 / p1 * p1) al h
  · have h := h.2 c1
    refine zb_iload_n X dJ9_floorMod_7cf53_10 rfl 0 rfl ?_
    refine zb_if_eq X 18 dJ9_floorMod_7cf53_11 (by decide) (fun c2 => ?_) (fun c2 => ?_)
    · have h := h.1 c2
      refine zb_sub [0] rfl ?_
      exact tJ9_floorMod_7cf53_18 X p0 p1 hR  (p0 - p0 / p1 * p1) al h
    · have h := h.2 c2
      refine zb_iload_n X dJ9_floorMod_7cf53_14 rfl 0 rfl ?_
      refine zb_iload_n X dJ9_floorMod_7cf53_15 rfl 2 rfl ?_
      refine zb_iadd X dJ9_floorMod_7cf53_16 ?_
      exact hR 17 _ _ _ dJ9_floorMod_7cf53_17 rfl h

abbrev rmJ7_fill_53178 : Room := { frames := 0, cells := 0, slots := 0, locals := 0 }
abbrev BJ7_fill_53178_5 (G : zG) (Z : zC) (T : zT) (ad ln : Nat → Nat) (o0 t0 a0 b0 c0 : Nat) (ho : o0 < T.1 ∧ T.2 o0 = .inr (t0, a0, b0, c0) ∧ (t0 = 1 ∨ t0 = 2)) (p1 : Int32) (x2 x3 : Int32) (al : Nat → Nat → Int32) : Prop := zB G Z rmJ7_fill_53178 4 T ad ln 0 0 5 [(0, .ref (ad o0)), (1, .int p1), (2, .int x2), (3, .int x3)] [] al
def vcJ7_fill_53178_0 (G : zG) (T : zT) (ad ln : Nat → Nat) (o0 t0 a0 b0 c0 : Nat) (ho : o0 < T.1 ∧ T.2 o0 = .inr (t0, a0, b0, c0) ∧ (t0 = 1 ∨ t0 = 2)) (p1 : Int32) (K5 : Int32 → Int32 → (Nat → Nat → Int32) → Prop) (post : (Nat → Nat → Int32) → Prop) (al : Nat → Nat → Int32) : Prop :=
  K5 (0 : Int32) (nI (zLen ln o0 (.inr (t0, a0, b0, c0)))) al
def vcJ7_fill_53178_5 (G : zG) (T : zT) (ad ln : Nat → Nat) (o0 t0 a0 b0 c0 : Nat) (ho : o0 < T.1 ∧ T.2 o0 = .inr (t0, a0, b0, c0) ∧ (t0 = 1 ∨ t0 = 2)) (p1 : Int32) (K5 : Int32 → Int32 → (Nat → Nat → Int32) → Prop) (post : (Nat → Nat → Int32) → Prop) (x2 x3 : Int32) (al : Nat → Nat → Int32) : Prop :=
  (x3 ≤ x2 → post al) ∧ (¬ x3 ≤ x2 → (vp_in x2 (zLen ln o0 (.inr (t0, a0, b0, c0))) ∧ K5 (x2 + (1 : Int32)) x3 (up2 al o0 x2.toNatClampNeg p1)))
set_option maxRecDepth 20000 in
theorem tJ7_fill_53178_0 {G : zG} {Z : zC} {T : zT} {ad ln : Nat → Nat} (X : zX G Z cJ7_fill_53178 4 RJ7 wsJ7_fill_53178) (o0 t0 a0 b0 c0 : Nat) (ho : o0 < T.1 ∧ T.2 o0 = .inr (t0, a0, b0, c0) ∧ (t0 = 1 ∨ t0 = 2)) (p1 : Int32) {K5 : Int32 → Int32 → (Nat → Nat → Int32) → Prop} {post : (Nat → Nat → Int32) → Prop} (hR : zRv G Z rmJ7_fill_53178 4 T ad ln cJ7_fill_53178 post) (hK5 : ∀ x2 x3 : Int32, ∀ al, K5 x2 x3 al → zB G Z rmJ7_fill_53178 4 T ad ln 0 0 5 [(0, .ref (ad o0)), (1, .int p1), (2, .int x2), (3, .int x3)] [] al) (al : Nat → Nat → Int32) (h : vcJ7_fill_53178_0 G T ad ln o0 t0 a0 b0 c0 ho p1 K5 post  al) : zB G Z rmJ7_fill_53178 4 T ad ln 0 0 0 [(0, .ref (ad o0)), (1, .int p1)] [] al := by
  unfold vcJ7_fill_53178_0 at h
  refine zb_iconst X (0 : Int32) dJ7_fill_53178_0 (by decide) ?_
  refine zb_istore_n X (lv' := [(2, .int (0 : Int32)), (0, .ref (ad o0)), (1, .int p1)]) dJ7_fill_53178_1 rfl (by decide) rfl ?_
  refine zb_aload_n X dJ7_fill_53178_2 rfl 1 rfl ?_
  refine zb_alen X o0 ho.1 t0 a0 b0 c0 ho.2.1 ho.2.2 dJ7_fill_53178_3 ?_
  refine zb_istore_n X (lv' := [(3, .int (nI (zLen ln o0 (.inr (t0, a0, b0, c0))))), (2, .int (0 : Int32)), (0, .ref (ad o0)), (1, .int p1)]) dJ7_fill_53178_4 rfl (by decide) rfl ?_
  refine zb_sub [2, 3, 1, 0] rfl ?_
  exact hK5 (0 : Int32) (nI (zLen ln o0 (.inr (t0, a0, b0, c0)))) al h
set_option maxRecDepth 20000 in
theorem tJ7_fill_53178_5 {G : zG} {Z : zC} {T : zT} {ad ln : Nat → Nat} (X : zX G Z cJ7_fill_53178 4 RJ7 wsJ7_fill_53178) (o0 t0 a0 b0 c0 : Nat) (ho : o0 < T.1 ∧ T.2 o0 = .inr (t0, a0, b0, c0) ∧ (t0 = 1 ∨ t0 = 2)) (p1 : Int32) {K5 : Int32 → Int32 → (Nat → Nat → Int32) → Prop} {post : (Nat → Nat → Int32) → Prop} (hR : zRv G Z rmJ7_fill_53178 4 T ad ln cJ7_fill_53178 post) (hK5 : ∀ x2 x3 : Int32, ∀ al, K5 x2 x3 al → zB G Z rmJ7_fill_53178 4 T ad ln 0 0 5 [(0, .ref (ad o0)), (1, .int p1), (2, .int x2), (3, .int x3)] [] al) (x2 x3 : Int32) (al : Nat → Nat → Int32) (h : vcJ7_fill_53178_5 G T ad ln o0 t0 a0 b0 c0 ho p1 K5 post x2 x3 al) : zB G Z rmJ7_fill_53178 4 T ad ln 0 0 5 [(0, .ref (ad o0)), (1, .int p1), (2, .int x2), (3, .int x3)] [] al := by
  unfold vcJ7_fill_53178_5 at h
  refine zb_iload_n X dJ7_fill_53178_5 rfl 2 rfl ?_
  refine zb_iload_n X dJ7_fill_53178_6 rfl 3 rfl ?_
  refine zb_icmp_ge X 20 dJ7_fill_53178_7 (by decide) (fun c1 => ?_) (fun c1 => ?_)
  · have h := h.1 c1
    exact hR 20 _ _ dJ7_fill_53178_20 h
  · have h := h.2 c1
    refine zb_aload_n X dJ7_fill_53178_10 rfl 0 rfl ?_
    refine zb_iload_n X dJ7_fill_53178_11 rfl 2 rfl ?_
    refine zb_iload_n X dJ7_fill_53178_12 rfl 1 rfl ?_
    obtain ⟨hz, h⟩ := h
    refine zb_iast X o0 ho.1 t0 a0 b0 c0 ho.2.1 ho.2.2 x2.toNatClampNeg rfl hz dJ7_fill_53178_13 ?_
    refine zb_iinc X (lv' := [(2, .int (x2 + (1 : Int32))), (0, .ref (ad o0)), (1, .int p1), (3, .int x3)]) (x2 + (1 : Int32)) dJ7_fill_53178_14 2 rfl rfl (by decide) rfl ?_
    refine zb_goto X 5 dJ7_fill_53178_17 (by decide) ?_
    refine zb_sub [1, 2, 0, 3] rfl ?_
    exact hK5 (x2 + (1 : Int32)) x3 (up2 al o0 x2.toNatClampNeg p1) h
theorem uJ7_fill_53178_0 {G : zG} {Z : zC} {T : zT} {ad ln : Nat → Nat} (X : zX G Z cJ7_fill_53178 4 RJ7 wsJ7_fill_53178) (o0 t0 a0 b0 c0 : Nat) (ho : o0 < T.1 ∧ T.2 o0 = .inr (t0, a0, b0, c0) ∧ (t0 = 1 ∨ t0 = 2)) (p1 : Int32) {post : (Nat → Nat → Int32) → Prop} (hR : zRv G Z rmJ7_fill_53178 4 T ad ln cJ7_fill_53178 post) (al : Nat → Nat → Int32) (h : vcJ7_fill_53178_0 G T ad ln o0 t0 a0 b0 c0 ho p1 (BJ7_fill_53178_5 G Z T ad ln o0 t0 a0 b0 c0 ho p1) post  al) : zB G Z rmJ7_fill_53178 4 T ad ln 0 0 0 [(0, .ref (ad o0)), (1, .int p1)] [] al := tJ7_fill_53178_0 X o0 t0 a0 b0 c0 ho p1 hR (fun _ _ _ h => h)  al h
theorem uJ7_fill_53178_5 {G : zG} {Z : zC} {T : zT} {ad ln : Nat → Nat} (X : zX G Z cJ7_fill_53178 4 RJ7 wsJ7_fill_53178) (o0 t0 a0 b0 c0 : Nat) (ho : o0 < T.1 ∧ T.2 o0 = .inr (t0, a0, b0, c0) ∧ (t0 = 1 ∨ t0 = 2)) (p1 : Int32) {post : (Nat → Nat → Int32) → Prop} (hR : zRv G Z rmJ7_fill_53178 4 T ad ln cJ7_fill_53178 post) (x2 x3 : Int32) (al : Nat → Nat → Int32) (h : vcJ7_fill_53178_5 G T ad ln o0 t0 a0 b0 c0 ho p1 (BJ7_fill_53178_5 G Z T ad ln o0 t0 a0 b0 c0 ho p1) post x2 x3 al) : zB G Z rmJ7_fill_53178 4 T ad ln 0 0 5 [(0, .ref (ad o0)), (1, .int p1), (2, .int x2), (3, .int x3)] [] al := tJ7_fill_53178_5 X o0 t0 a0 b0 c0 ho p1 hR (fun _ _ _ h => h) x2 x3 al h
