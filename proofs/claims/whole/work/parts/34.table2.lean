-- needs: 31 33
/-! the class's table, further: a row loses its cycle; room is made; the earliest cycle; waits that don't hold -/
theorem zTb0.up {al a : Nat → Nat → Int32} {n D : Nat} {kd st : Nat → Nat} {c lat c' lat' : Nat → Int} (h : zTb0 al n D kd st c lat) (hfr : zFr [19, 20, 21] al a) (hc : ∀ x, x < n → a 19 x = zI (c' x) ∧ -1 ≤ c' x ∧ c' x ≤ 1000000) (hl : ∀ x, x < n → a 20 x = zI (lat' x) ∧ -1 ≤ lat' x ∧ lat' x ≤ 1000000) : zTb0 a n D kd st c' lat' := by
  obtain ⟨h1, h2, h3, h4, h5, h6, h7, h8⟩ := h
  refine ⟨by rw [hfr 4 (by decide)]; exact h1, h2, by rw [hfr 18 (by decide)]; exact h3, h4, fun x hx => ?_, hc, hl, fun j hj => ?_⟩
  · rw [hfr _ (by simp; omega)]
    exact h5 x hx
  · rw [hfr 2 (by decide)]
    exact h8 j hj
section TABLE2
variable (G : zG) (r : Bool) (ad ln : Nat → Nat) (al : Nat → Nat → Int32) {n D : Nat} {kd st : Nat → Nat} {c lat : Nat → Int}
theorem c_drop (h : zTb al n D kd st c lat) {x : Nat} (hx : x < n) (hc : 0 ≤ c x) : zMv G yX7_drop wsX7_drop rmX7_drop (zTC r) ad ln [.ref (ad 18), .int (nI x)] al (fun a => zFr [19, 21] al a ∧ zTb a n D kd st (iup c x (-1)) lat) := by
  refine zMv.of (cc := cX7_drop) (nL := 2) (by decide) rfl (Nat.le_of_ble_eq_true rfl) (fun Z X hR => ?_)
  refine tX7_drop_0 X _ hR al ?_
  unfold vcX7_drop_0
  refine (c_changeUse G r ad ln al h.1 hx hc (-1)).mono (fun a1 hq => ?_)
  obtain ⟨hfr, hu⟩ := hq
  have hn := h.1.2.1
  have h6 := h.1.2.2.2.2.2.1
  have h7 := h.1.2.2.2.2.2.2.1
  rw [nI_clamp (by omega)]
  have hfr1 : zFr [19, 21] al (up2 a1 19 x (-1)) := (hfr.mono (by decide)).up (by decide) _ _
  refine ⟨vp_in_nI (by omega) (by omega), hfr1, h.1.up (hfr1.mono (by decide)) (fun y hy => ?_) (fun y hy => ?_), fun g j hg hj => ?_⟩
  · by_cases e : y = x
    · subst e
      rw [up2_self, iup_self]
      exact ⟨rfl, by omega, by omega⟩
    · rw [up2_ne _ _ (fun z => e z.2), iup_ne c _ e, hfr 19 (by decide)]
      exact h6 y hy
  · rw [up2_ne _ _ (fun z => absurd z.1 (by decide)), hfr 20 (by decide)]
    exact h7 y hy
  · rw [up2_ne _ _ (fun z => absurd z.1 (by decide)), hu g j hg hj, h.2 g j hg hj]
    have e := sCnt_up D kd (c := c) (x := x) (v := -1) (g := g) (j := j) n hx
    rw [sAt_none D kd (iup_self c x (-1))] at e
    have hcp := sCnt_le D kd c g j n
    by_cases q : sAt D kd c g j x = true
    · rw [if_pos q] at e ⊢
      rw [show sCnt D kd c g j n = sCnt D kd (iup c x (-1)) g j n + 1 by simp at e; omega, pk_m1]
    · rw [if_neg q] at e ⊢
      rw [Int32.add_zero, show sCnt D kd c g j n = sCnt D kd (iup c x (-1)) g j n by simp at e; omega]
theorem zdec (y : Nat) : nI (y + 1) + -1 = nI y := pk_m1 y
theorem c_makeRoom (h : zTb al n D kd st c lat) {x : Nat} (hx : x < n) {t : Int} (ht : zR t) : zMv G yX7_makeRoom wsX7_makeRoom rmX7_makeRoom (zTC r) ad ln [.ref (ad 18), .int (nI x), .int (zI t)] al (fun a => zFr [19, 21] al a ∧ zTb a n D kd st (sMake n D kd st x t 4 0 c) lat) := by
  refine zMv.of (cc := cX7_makeRoom) (nL := 5) (by decide) rfl (Nat.le_of_ble_eq_true rfl) (fun Z X hR => ?_)
  have hn := h.1.2.1
  generalize htg : sMake n D kd st x t 4 0 c = tgt at hR
  have inner : ∀ (g : Nat) (cg : Nat → Int), g < 4 → (∀ a, zFr [19, 21] al a → zTb a n D kd st cg lat → BX7_makeRoom_2 G Z r ad ln (nI x) (zI t) (nI (g + 1)) a) → ∀ (y : Nat) (cc : Nat → Int) (a : Nat → Nat → Int32), y ≤ n → zFr [19, 21] al a → zTb a n D kd st cc lat → sDropG n D kd st g t y cc = cg → BX7_makeRoom_37 G Z r ad ln (nI x) (zI t) (nI g) (zI ((y : Int) - 1)) a := by
    intro g cg hg out y
    induction y with
    | zero =>
      intro cc a hy hfr ha e
      refine uX7_makeRoom_37 X _ _ hR _ _ _ ?_
      unfold vcX7_makeRoom_37 vcX7_makeRoom_93
      refine ⟨fun _ => ?_, fun q => absurd (by decide) q⟩
      rw [nI_1]
      exact out a hfr (e ▸ ha)
    | succ y ih =>
      intro cc a hy hfr ha e
      have ey : zI (((y + 1 : Nat) : Int) - 1) = nI y := by
        rw [zI_n]
        congr 1
        omega
      have ey2 : nI y + -1 = zI ((y : Int) - 1) := by
        rw [zI_n, zI_m1, zI_add]
        rfl
      rw [ey]
      refine uX7_makeRoom_37 X _ _ hR _ _ _ ?_
      unfold vcX7_makeRoom_37 vcX7_makeRoom_87 vcX7_makeRoom_93
      refine ⟨fun q => absurd q (nI_pos (by omega)), fun _ => ?_⟩
      refine (c_isFull G r ad ln a ha hg ht).mono (fun q a2 hq => ?_)
      obtain ⟨rfl, e2⟩ := hq
      obtain rfl := e2.symm
      unfold sDropG at e
      have hk := ha.1.2.2.2.2.1 y (by omega)
      rw [nI_clamp (by omega), hk.1, ey2, nI_1]
      refine ⟨fun q => ?_, fun q => ⟨vp_in_nI (by omega) (by omega), ?_⟩⟩
      · rw [zb_0] at q
        rw [if_neg (by rw [q]; simp)] at e
        exact out a hfr (e ▸ ha)
      · rw [if_pos (zb_t q)] at e
        refine (c_isInGroup G r ad ln a hk.2 hg).mono (fun q5 a5 hq => ?_)
        obtain ⟨rfl, e2⟩ := hq
        obtain rfl := e2.symm
        refine ⟨fun q5 => ?_, fun q5 => ?_⟩
        · rw [zb_0] at q5
          rw [if_neg (by unfold sAt; rw [q5, Bool.and_false]; simp)] at e
          exact ih cc a (by omega) hfr ha e
        · have q5' := zb_t q5
          refine (c_sharesRest G r ad ln a ha.1 (show y < n by omega) ht).mono (fun q7 a7 hq => ?_)
          obtain ⟨rfl, e2⟩ := hq
          obtain rfl := e2.symm
          refine ⟨fun q7 => ?_, fun q7 => ?_⟩
          · rw [zb_0] at q7
            rw [if_neg (by unfold sAt; rw [q7, Bool.false_and]; simp)] at e
            exact ih cc a (by omega) hfr ha e
          · have q7' := zb_t q7
            have hat : sAt D kd cc g (sRest D t) y = true := by
              unfold sAt
              rw [q7', q5']
              rfl
            rw [if_pos hat] at e
            have hcy : 0 ≤ cc y := by
              simp at q7'
              exact q7'.1
            refine (c_drop G r ad ln a ha (show y < n by omega) hcy).mono (fun a9 hq => ?_)
            exact ih _ a9 (by omega) (hfr.tr hq.1) hq.2 e
  have outer : ∀ (f g : Nat) (cc : Nat → Int) (a : Nat → Nat → Int32), g + f = 4 → zFr [19, 21] al a → zTb a n D kd st cc lat → sMake n D kd st x t f g cc = tgt → BX7_makeRoom_2 G Z r ad ln (nI x) (zI t) (nI g) a := by
    intro f
    induction f with
    | zero =>
      intro g cc a hg hfr ha e
      refine uX7_makeRoom_2 X _ _ hR _ _ ?_
      unfold vcX7_makeRoom_2
      rw [show (4 : Int32) = nI 4 from rfl, nI_leI (by omega) (by omega)]
      exact ⟨fun _ => ⟨hfr, e ▸ ha⟩, fun q => absurd (by omega) q⟩
    | succ f ih =>
      intro g cc a hg hfr ha e
      have hk := ha.1.2.2.2.2.1 x hx
      refine uX7_makeRoom_2 X _ _ hR _ _ ?_
      unfold vcX7_makeRoom_2 vcX7_makeRoom_93
      rw [show (4 : Int32) = nI 4 from rfl, nI_leI (by omega) (by omega), nI_clamp (by omega), hk.1]
      refine ⟨fun q => absurd q (by omega), fun _ => ⟨vp_in_nI (by omega) (by omega), ?_⟩⟩
      refine (c_isInGroup G r ad ln a hk.2 (show g < 4 by omega)).mono (fun q a3 hq => ?_)
      obtain ⟨rfl, e2⟩ := hq
      obtain rfl := e2.symm
      unfold sMake at e
      refine ⟨fun q => ?_, fun q => ?_⟩
      · rw [zb_0] at q
        rw [if_neg (by rw [q]; simp)] at e
        rw [nI_1]
        exact ih (g + 1) cc a (by omega) hfr ha e
      · rw [if_pos (zb_t q)] at e
        have e1 : a 4 1 - 1 = zI ((n : Int) - 1) := by
          rw [ha.1.1, zI_n, zI_1, zI_sub]
        rw [e1]
        exact inner g _ (by omega) (fun a' hf' ha' => ih (g + 1) _ a' (by omega) hf' ha' e) n cc a (Nat.le_refl _) hfr ha rfl
  refine uX7_makeRoom_0 X _ _ hR al ?_
  unfold vcX7_makeRoom_0
  exact outer 4 0 c al rfl zFr.rf h htg
variable {m : Nat} {fr to ov dl : Nat → Nat}
theorem c_boundOf (hw : zWt al ln n m fr to ov dl) (h : zTb0 al n D kd st c lat) {i : Nat} (hi : i < m) : zMi G yX7_boundOf wsX7_boundOf rmX7_boundOf (zTC r) ad ln [.ref (ad 18), .int (nI i)] al (fun q a => q = zI (sBound D fr ov dl c i) ∧ a = al) := by
  refine zMi.of (cc := cX7_boundOf) (nL := 2) (rt := .int) (by decide) rfl (Nat.le_of_ble_eq_true rfl) (fun Z X hR => ?_)
  refine tX7_boundOf_0 X _ hR al ?_
  unfold vcX7_boundOf_0
  obtain ⟨hm, hm2, hn, ⟨l13, l14, l15, l16⟩, ⟨k13, k14, k15, k16⟩, hi'⟩ := hw
  obtain ⟨⟨e13, e14, e15, e16⟩, bf, bt, bo, bd⟩ := hi' i hi
  rw [nI_clamp (by omega), e13, nI_clamp (by omega), e15, e16, h.2.2.1, (h.2.2.2.2.2.1 _ bf).1]
  refine ⟨vp_in_nI (by omega) (by omega), vp_in_nI (by omega) (by omega), vp_in_nI (by omega) (by omega), vp_in_nI (by omega) (by omega), ?_, rfl⟩
  rw [zI_n, zI_n, zI_n, zI_add, zI_mul, zI_sub]
  rfl
theorem sBound_rng (hw : zWt al ln n m fr to ov dl) (h : zTb0 al n D kd st c lat) {i : Nat} (hi : i < m) : -20000 ≤ sBound D fr ov dl c i ∧ sBound D fr ov dl c i ≤ c (fr i) + 20 := by
  obtain ⟨-, -, -, -, -, hi'⟩ := hw
  obtain ⟨-, bf, bt, bo, bd⟩ := hi' i hi
  have hc := h.2.2.2.2.2.1 _ bf
  have hD := h.2.2.2.1
  have := zmul_small bo hD.2
  unfold sBound
  omega
theorem sEar_rng (hw : zWt al ln n m fr to ov dl) (h : zTb0 al n D kd st c lat) {B : Int} (hB : ∀ x, x < n → c x ≤ B) (x : Nat) : ∀ k, k ≤ m → 0 ≤ sEar D fr to ov dl c x k ∧ (sEar D fr to ov dl c x k ≤ B + 20 ∨ sEar D fr to ov dl c x k = 0)
  | 0, _ => ⟨Int.le_refl _, Or.inr rfl⟩
  | k + 1, hk => by
    have ih := sEar_rng hw h hB x k (by omega)
    have hb := sBound_rng ln al hw h (show k < m by omega)
    have hf := (hw.2.2.2.2.2 k (by omega)).2.1
    have := hB _ hf
    unfold sEar
    split
    · split <;> omega
    · exact ih
theorem c_earliestOf (hw : zWt al ln n m fr to ov dl) (h : zTb0 al n D kd st c lat) {x : Nat} (hx : x < n) : zMi G yX7_earliestOf wsX7_earliestOf rmX7_earliestOf (zTC r) ad ln [.ref (ad 18), .int (nI x)] al (fun q a => q = zI (sEar D fr to ov dl c x m) ∧ a = al) := by
  refine zMi.of (cc := cX7_earliestOf) (nL := 5) (rt := .int) (by decide) rfl (Nat.le_of_ble_eq_true rfl) (fun Z X hR => ?_)
  have hw0 := hw
  obtain ⟨hm, hm2, hn, ⟨l13, l14, l15, l16⟩, ⟨k13, k14, k15, k16⟩, hi'⟩ := hw0
  have hB : ∀ x, x < n → c x ≤ 1000000 := fun x hx => (h.2.2.2.2.2.1 x hx).2.2
  have loop : ∀ (f i : Nat), i + f = m → BX7_earliestOf_4 G Z r ad ln (nI x) (zI (sEar D fr to ov dl c x i)) (nI i) al := by
    intro f
    induction f with
    | zero =>
      intro i hi
      refine uX7_earliestOf_4 X _ hR _ _ _ ?_
      unfold vcX7_earliestOf_4
      rw [hm, nI_leI (by omega) (by omega)]
      refine ⟨fun _ => ⟨?_, rfl⟩, fun q => absurd (by omega) q⟩
      rw [show i = m by omega]
    | succ f ih =>
      intro i hi
      obtain ⟨⟨e13, e14, e15, e16⟩, bf, bt, bo, bd⟩ := hi' i (by omega)
      have hcf := h.2.2.2.2.2.1 _ bf
      have nxt := ih (i + 1) (by omega)
      have s1 := sEar_rng ln al hw h hB x i (by omega)
      have s2 := sBound_rng ln al hw h (show i < m by omega)
      refine uX7_earliestOf_4 X _ hR _ _ _ ?_
      unfold vcX7_earliestOf_4 vcX7_earliestOf_66
      rw [hm, nI_leI (by omega) (by omega), nI_clamp (by omega), e13, e14, nI_clamp (by omega), nI_eq (by omega) (by omega), nI_eq (by omega) (by omega), hcf.1, zI_m1, zI_eq ⟨by omega, by omega⟩ ⟨by omega, by omega⟩, nI_1]
      have skip : ¬ (to i = x ∧ fr i ≠ x ∧ c (fr i) ≠ -1) → BX7_earliestOf_4 G Z r ad ln (nI x) (zI (sEar D fr to ov dl c x i)) (nI (i + 1)) al := by
        intro q
        have : sEar D fr to ov dl c x (i + 1) = sEar D fr to ov dl c x i := by
          show (if _ then _ else _) = _
          rw [if_neg q]
        rw [this] at nxt
        exact nxt
      refine ⟨fun q => absurd q (by omega), fun _ => ⟨vp_in_nI (by omega) (by omega), vp_in_nI (by omega) (by omega), fun q => skip (fun z => q z.1), fun q1 => ⟨fun q => skip (fun z => z.2.1 q), fun q2 => ⟨vp_in_nI (by omega) (by omega), fun q => skip (fun z => z.2.2 q), fun q3 => ?_⟩⟩⟩⟩
      refine (c_boundOf G r ad ln al hw h (show i < m by omega)).mono (fun q a hq => ?_)
      obtain ⟨rfl, e2⟩ := hq
      obtain rfl := e2.symm
      have : sEar D fr to ov dl c x (i + 1) = if sEar D fr to ov dl c x i < sBound D fr ov dl c i then sBound D fr ov dl c i else sEar D fr to ov dl c x i := by
        show (if _ then _ else _) = _
        rw [if_pos ⟨q1, q2, q3⟩]
      rw [this] at nxt
      by_cases q4 : sEar D fr to ov dl c x i < sBound D fr ov dl c i
      · rw [if_pos q4] at nxt
        rw [if_pos ((zI_lt ⟨by omega, by omega⟩ ⟨by omega, by omega⟩).mpr q4)]
        exact nxt
      · rw [if_neg q4] at nxt
        rw [if_neg (fun z => q4 ((zI_lt ⟨by omega, by omega⟩ ⟨by omega, by omega⟩).mp z))]
        exact nxt
  refine uX7_earliestOf_0 X _ hR al ?_
  unfold vcX7_earliestOf_0
  exact loop m 0 (by omega)
theorem c_dropBroken (hw : zWt al ln n m fr to ov dl) (h : zTb al n D kd st c lat) {x : Nat} (hx : x < n) : zMv G yX7_dropBroken wsX7_dropBroken rmX7_dropBroken (zTC r) ad ln [.ref (ad 18), .int (nI x)] al (fun a => zFr [19, 21] al a ∧ zTb a n D kd st (sBrk D fr to ov dl x m 0 c) lat) := by
  refine zMv.of (cc := cX7_dropBroken) (nL := 5) (by decide) rfl (Nat.le_of_ble_eq_true rfl) (fun Z X hR => ?_)
  have hw0 := hw
  obtain ⟨hm, hm2, hn, ⟨l13, l14, l15, l16⟩, ⟨k13, k14, k15, k16⟩, hi'⟩ := hw0
  generalize htg : sBrk D fr to ov dl x m 0 c = tgt at hR
  have loop : ∀ (f i : Nat) (cc : Nat → Int) (a : Nat → Nat → Int32), i + f = m → zFr [19, 21] al a → zTb a n D kd st cc lat → sBrk D fr to ov dl x f i cc = tgt → BX7_dropBroken_2 G Z r ad ln (nI x) (nI i) a := by
    intro f
    induction f with
    | zero =>
      intro i cc a hi hfr ha e
      refine uX7_dropBroken_2 X _ hR _ _ ?_
      unfold vcX7_dropBroken_2
      rw [hfr 12 (by decide), hm, nI_leI (by omega) (by omega)]
      exact ⟨fun _ => ⟨hfr, e ▸ ha⟩, fun q => absurd (by omega) q⟩
    | succ f ih =>
      intro i cc a hi hfr ha e
      obtain ⟨⟨e13, e14, e15, e16⟩, bf, bt, bo, bd⟩ := hi' i (by omega)
      have hwa : zWt a ln n m fr to ov dl := hw.fr (hfr 12 (by decide) ▸ rfl) (hfr 13 (by decide)) (hfr 14 (by decide)) (hfr 15 (by decide)) (hfr 16 (by decide))
      have hcf := ha.1.2.2.2.2.2.1 _ bf
      have hct := ha.1.2.2.2.2.2.1 _ bt
      have sb := sBound_rng ln a hwa ha.1 (show i < m by omega)
      unfold sBrk at e
      have skip : ¬ (fr i ≠ to i ∧ (fr i = x ∨ to i = x) ∧ cc (fr i) ≠ -1 ∧ cc (to i) ≠ -1 ∧ cc (to i) < sBound D fr ov dl cc i) → BX7_dropBroken_2 G Z r ad ln (nI x) (nI (i + 1)) a := by
        intro q
        rw [if_neg (by unfold sBad; rw [decide_eq_false q]; simp)] at e
        exact ih (i + 1) cc a (by omega) hfr ha e
      have look : fr i ≠ to i → (fr i = x ∨ to i = x) → vcX7_dropBroken_54 G r ad ln (nI x) (BX7_dropBroken_2 G Z r ad ln (nI x)) (fun a => zFr [19, 21] al a ∧ zTb a n D kd st tgt lat) (nI i) (nI (fr i)) (nI (to i)) a := by
        intro q1 q2
        unfold vcX7_dropBroken_54 vcX7_dropBroken_102 vcX7_dropBroken_105
        have inf : vp_in (nI (fr i)) 48 := vp_in_nI (by omega) (by omega)
        have int : vp_in (nI (to i)) 48 := vp_in_nI (by omega) (by omega)
        rw [nI_clamp (by omega), nI_clamp (by omega), hcf.1, hct.1, zI_m1, zI_eq ⟨by omega, by omega⟩ ⟨by omega, by omega⟩, zI_eq ⟨by omega, by omega⟩ ⟨by omega, by omega⟩, nI_1, nI_eq (by omega) (by omega)]
        refine ⟨inf, fun q => skip (fun z => z.2.2.1 q), fun q3 => ⟨int, fun q => skip (fun z => z.2.2.2.1 q), fun q4 => ⟨int, ?_⟩⟩⟩
        refine (c_boundOf G r ad ln a hwa ha.1 (show i < m by omega)).mono (fun q a2 hq => ?_)
        obtain ⟨rfl, e2⟩ := hq
        obtain rfl := e2.symm
        rw [zI_le ⟨by omega, by omega⟩ ⟨by omega, by omega⟩]
        refine ⟨fun q => skip (fun z => by omega), fun q5 => ?_⟩
        have hbad : sBad D fr to ov dl x cc i = true := by
          unfold sBad
          exact decide_eq_true ⟨q1, q2, q3, q4, by omega⟩
        rw [if_pos hbad] at e
        refine ⟨fun q6 => ?_, fun q6 => ?_⟩
        · rw [if_neg q6] at e
          refine (c_drop G r ad ln a ha bf (by omega)).mono (fun a9 hq => ?_)
          exact ih (i + 1) _ a9 (by omega) (hfr.tr hq.1) hq.2 e
        · rw [if_pos q6] at e
          refine (c_drop G r ad ln a ha bt (by omega)).mono (fun a9 hq => ?_)
          exact ih (i + 1) _ a9 (by omega) (hfr.tr hq.1) hq.2 e
      refine uX7_dropBroken_2 X _ hR _ _ ?_
      unfold vcX7_dropBroken_2
      rw [hfr 12 (by decide), hm, nI_leI (by omega) (by omega), nI_clamp (by omega), hfr 13 (by decide), hfr 14 (by decide), e13, e14, nI_eq (by omega) (by omega), nI_eq (by omega) (by omega), nI_eq (by omega) (by omega)]
      refine ⟨fun q => absurd q (by omega), fun _ => ⟨vp_in_nI (by omega) (by omega), vp_in_nI (by omega) (by omega), fun q => ?_, fun q1 => ⟨fun q => look q1 (Or.inl q), fun q2 => ⟨fun q => look q1 (Or.inr q), fun q3 => ?_⟩⟩⟩⟩
      · unfold vcX7_dropBroken_105
        rw [nI_1]
        exact skip (fun z => z.1 q)
      · unfold vcX7_dropBroken_105
        rw [nI_1]
        exact skip (fun z => z.2.1.elim q2 q3)
  refine uX7_dropBroken_0 X _ hR al ?_
  unfold vcX7_dropBroken_0
  exact loop m 0 c al (by omega) zFr.rf h htg
end TABLE2
