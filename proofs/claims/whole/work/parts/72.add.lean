/-! Waits: adding a wait, and growing for it -/
theorem kX8_ag_0 : Cond.fieldLink RX8 9 RX8 "from" "[I" ∈ wsX8_add := by decide +kernel
theorem kX8_ag_1 : Cond.fieldLink RX8 15 RX8 "to" "[I" ∈ wsX8_add := by decide +kernel
theorem kX8_ag_2 : Cond.fieldLink RX8 18 RX8 "over" "[I" ∈ wsX8_add := by decide +kernel
theorem kX8_ag_3 : Cond.fieldLink RX8 21 RX8 "delay" "[I" ∈ wsX8_add := by decide +kernel
theorem kX8_ag_4 : Cond.fieldLink RX8 34 RX8 "size" "I" ∈ wsX8_add := by decide +kernel
theorem kX8_ag_5 : zIn RX8 TX8 10 wsX8_add := by decide +kernel
def zWc (a : Nat → Nat → Int32) (ln : Nat → Nat) (cap : Nat) (L : List zWe) : Prop := a 12 2 = nI L.length ∧ L.length ≤ cap ∧ (ln 13 = cap ∧ ln 14 = cap ∧ ln 15 = cap ∧ ln 16 = cap) ∧ (64 ≤ cap ∧ cap ≤ 9216) ∧ ∀ (i : Nat) e, L[i]? = some e → a 13 i = nI e.1 ∧ a 14 i = nI e.2.1 ∧ a 15 i = nI e.2.2.1 ∧ a 16 i = nI e.2.2.2
/-- the room of the rows when there are so many waits -/
def zCp (cap len : Nat) : Nat := if len ≤ cap then cap else 2 * cap
def zGr (ad ln ad' ln' : Nat → Nat) : Prop := ∀ k, ¬ (13 ≤ k ∧ k ≤ 16) → ad' k = ad k ∧ ln' k = ln k
theorem zGr.rf {ad ln : Nat → Nat} : zGr ad ln ad ln := fun _ _ => ⟨rfl, rfl⟩
theorem zGr.tr {ad ln ad' ln' ad'' ln'' : Nat → Nat} (h : zGr ad ln ad' ln') (h' : zGr ad' ln' ad'' ln'') : zGr ad ln ad'' ln'' := fun k hk => ⟨(h' k hk).1.trans (h k hk).1, (h' k hk).2.trans (h k hk).2⟩
theorem zTC_le (r : Bool) : (zTC r).1 ≤ 178 := by cases r <;> simp [zTC]
theorem zTC_3 (r : Bool) {k : Nat} (h : k < 29) : (zTC r).2 k = zDC r k := rfl
def zOnB (b : Bool) (x y : Nat) : Bool := match zDC b x with
  | .inl o => (List.range o.2.length).all (fun i => o.2[i]? != some (y + 2) || (x == 12 && i == y - 10))
  | .inr (t, _, _, _) => decide (t ≤ 2) || x == 5
theorem zOnlyC (r : Bool) {kk : Nat} (h1 : 13 ≤ kk) (h2 : kk ≤ 16) : zOnly (zTC r) 12 (kk - 10) kk := by
  intro k' hk' hne
  by_cases q : k' < 29
  · have all : ∀ b : Bool, ∀ x, x < 29 → ∀ y, y < 17 → 13 ≤ y → zOnB b x y = true := by decide +kernel
    have a1 := all r k' q kk (by omega) h1
    unfold zOnB at a1
    show match zDC r k' with
      | .inl o => ∀ i : Nat, o.2[i]? = some (kk + 2) → k' = 12 ∧ i = kk - 10
      | .inr (t, a, b, c) => t ≤ 2 ∨ ∀ i, b + c * i ≠ kk
    match hT : zDC r k' with
    | .inl o =>
      rw [hT] at a1
      intro i hi
      have a2 := List.all_eq_true.mp a1 i (List.mem_range.mpr (List.getElem?_eq_some_iff.mp hi).1)
      rw [hi] at a2
      simp at a2
      exact a2
    | .inr (t, a, b, c) =>
      rw [hT] at a1
      have a2 : t ≤ 2 ∨ k' = 5 := by simpa using a1
      refine a2.imp id (fun e5 i => ?_)
      subst e5
      have e6 : zDC r 5 = .inr (3, 48, 29, 3) := rfl
      rw [e6] at hT
      cases hT
      omega
  · by_cases q2 : k' < 173
    · show match zDC r k' with
        | .inl o => ∀ i : Nat, o.2[i]? = some (kk + 2) → k' = 12 ∧ i = kk - 10
        | .inr (t, a, b, c) => t ≤ 2 ∨ ∀ i, b + c * i ≠ kk
      unfold zDC
      rw [if_neg q, if_pos q2]
      by_cases q3 : (k' - 29) % 3 = 0
      · rw [if_pos q3]
        intro i hi
        exfalso
        match i, hi with
        | 0, hi => simp at hi
        | 1, hi => simp at hi
        | 2, hi => simp at hi
        | 3, hi => simp at hi
        | 4, hi => simp at hi
        | 5, hi => simp at hi
        | 6, hi => simp at hi
        | 7, hi => simp at hi; omega
        | 8, hi => simp at hi; omega
        | i + 9, hi => simp at hi
      · rw [if_neg q3]
        intro i hi
        exfalso
        match i, hi with
        | 0, hi => simp at hi
        | 1, hi => simp at hi
        | i + 2, hi => simp at hi
    · have hk : k' < 178 := Nat.lt_of_lt_of_le hk' (zTC_le r)
      rcases (show k' = 173 ∨ k' = 174 ∨ k' = 175 ∨ k' = 176 ∨ k' = 177 by omega) with e | e | e | e | e
      · subst e
        intro i hi
        exfalso
        have hl : i < 10 := (List.getElem?_eq_some_iff.mp hi).1
        have dec : ∀ i, i < 10 → ∀ y, y < 17 → 13 ≤ y → ([6, 20, 24, 4, 5, 176, 177, 178, 179, 0] : List Nat)[i]? ≠ some (y + 2) := by decide
        exact dec i hl kk (by omega) h1 hi
      · subst e
        exact Or.inl (show 1 ≤ 2 by omega)
      · subst e
        exact Or.inl (show 1 ≤ 2 by omega)
      · subst e
        exact Or.inl (show 1 ≤ 2 by omega)
      · subst e
        exact Or.inl (show 1 ≤ 2 by omega)
section ADD
variable (G : zG) (r : Bool) (ad ln : Nat → Nat) (al : Nat → Nat → Int32) {cap : Nat} {L : List zWe}
theorem c_add (h : zWc al ln cap L) (hL : L.length < 4608) {x y d t : Nat} : zMgv G yX8_add wsX8_add (rmX8_add (zCp cap (L.length + 1) - cap) (8 * (zCp cap (L.length + 1) - cap))) (zTC r, ad, ln, al) [.ref (ad 12), .int (nI x), .int (nI y), .int (nI d), .int (nI t)] (fun u => u.1 = zTC r ∧ zGr ad ln u.2.1 u.2.2.1 ∧ zFr [12, 13, 14, 15, 16] al u.2.2.2 ∧ (∀ j, j ≠ 2 → u.2.2.2 12 j = al 12 j) ∧ zWc u.2.2.2 u.2.2.1 (zCp cap (L.length + 1)) (L ++ [(x, y, d, t)])) := by
  refine zMgv.of (cc := cX8_add) (nL := 5) (by decide) rfl (Nat.le_of_ble_eq_true rfl) (fun Z X hR => ?_)
  show zB G Z (rmX8_add (zCp cap (L.length + 1) - cap) (8 * (zCp cap (L.length + 1) - cap))) 5 (zTC r) ad ln 0 0 0 [(0, .ref (ad 12)), (1, .int (nI x)), (2, .int (nI y)), (3, .int (nI d)), (4, .int (nI t))] [] al
  generalize hc0 : zCp cap (L.length + 1) - cap = c0 at hR
  -- the storing
  have tail : ∀ (ad1 ln1 : Nat → Nat) (a1 : Nat → Nat → Int32) (kc ks : Nat), kc ≤ c0 → ks ≤ 8 * c0 → zGr ad ln ad1 ln1 → zFr [13, 14, 15, 16] al a1 → zWc a1 ln1 (zCp cap (L.length + 1)) L → L.length < zCp cap (L.length + 1) → zB G Z (rmX8_add c0 (8 * c0)) 5 (zTC r) ad1 ln1 kc ks 80 [(0, .ref (ad1 12)), (1, .int (nI x)), (2, .int (nI y)), (3, .int (nI d)), (4, .int (nI t))] [] a1 := by
    intro ad1 ln1 a1 kc ks hkc hks hgr hf hw hlt
    refine tX8_add_80 X c0 (8 * c0) kc ks hkc hks _ _ _ _ (hR (zTC r) ad1 ln1) a1 ?_
    unfold vcX8_add_80
    obtain ⟨w1, w2, ⟨w3, w4, w5, w6⟩, w7, w8⟩ := hw
    rw [w1, w3, w4, w5, w6, nI_clamp (by omega), nI_1]
    have v : vp_in (nI L.length) (zCp cap (L.length + 1)) := vp_in_nI hlt (by omega)
    refine ⟨v, v, v, v, rfl, hgr, ?_, fun j hj => ?_, ?_, ?_, ⟨w3, w4, w5, w6⟩, w7, fun i e hi => ?_⟩
    · exact ((((((hf.mono (by decide)).up (by decide) _ _).up (by decide) _ _).up (by decide) _ _).up (by decide) _ _).up (by decide) _ _)
    · show (up2 (up2 (up2 (up2 (up2 a1 13 L.length (nI x)) 14 L.length (nI y)) 15 L.length (nI d)) 16 L.length (nI t)) 12 2 (nI (L.length + 1))) 12 j = al 12 j
      rw [up2_ne _ _ (fun z => hj z.2), up2_name _ _ _ (by decide), up2_name _ _ _ (by decide), up2_name _ _ _ (by decide), up2_name _ _ _ (by decide), hf 12 (by decide)]
    · have el : (L ++ [(x, y, d, t)]).length = L.length + 1 := by rw [List.length_append]; rfl
      rw [el]
      exact up2_self (up2 (up2 (up2 (up2 a1 13 L.length (nI x)) 14 L.length (nI y)) 15 L.length (nI d)) 16 L.length (nI t)) 12 2 (nI (L.length + 1))
    · rw [List.length_append]
      exact hlt
    · show (up2 (up2 (up2 (up2 (up2 a1 13 L.length (nI x)) 14 L.length (nI y)) 15 L.length (nI d)) 16 L.length (nI t)) 12 2 (nI (L.length + 1))) 13 i = nI e.1 ∧ (up2 (up2 (up2 (up2 (up2 a1 13 L.length (nI x)) 14 L.length (nI y)) 15 L.length (nI d)) 16 L.length (nI t)) 12 2 (nI (L.length + 1))) 14 i = nI e.2.1 ∧ (up2 (up2 (up2 (up2 (up2 a1 13 L.length (nI x)) 14 L.length (nI y)) 15 L.length (nI d)) 16 L.length (nI t)) 12 2 (nI (L.length + 1))) 15 i = nI e.2.2.1 ∧ (up2 (up2 (up2 (up2 (up2 a1 13 L.length (nI x)) 14 L.length (nI y)) 15 L.length (nI d)) 16 L.length (nI t)) 12 2 (nI (L.length + 1))) 16 i = nI e.2.2.2
      by_cases q : i < L.length
      · rw [List.getElem?_append_left q] at hi
        obtain ⟨e1, e2, e3, e4⟩ := w8 i e hi
        have hne : i ≠ L.length := by omega
        exact ⟨by simp [up2, hne]; exact e1, by simp [up2, hne]; exact e2, by simp [up2, hne]; exact e3, by simp [up2, hne]; exact e4⟩
      · rw [List.getElem?_append_right (by omega)] at hi
        have h1 := (List.getElem?_eq_some_iff.mp hi).1
        simp at h1
        have ei : i = L.length := by omega
        subst ei
        rw [Nat.sub_self] at hi
        have he : (x, y, d, t) = e := Option.some.inj hi
        subst he
        exact ⟨by simp [up2], by simp [up2], by simp [up2], by simp [up2]⟩
  obtain ⟨w1, w2, ⟨w3, w4, w5, w6⟩, w7, w8⟩ := h
  refine zb_aload_n X dX8_add_0 rfl 0 rfl ?_
  refine zb_getI X 12 (zTC_lt (by decide)) 8 [6, 4, 0, 15, 16, 17, 18, 19, 0, 0] rfl (C := RX8) (Tt := TX8) (N := 10) rfl kX8_ag_5 2 (by decide) rfl kX8_ag_4 rfl dX8_add_1 (nI L.length) w1 ?_
  refine zb_aload_n X dX8_add_4 rfl 0 rfl ?_
  refine zb_getR X 12 (zTC_lt (by decide)) 8 [6, 4, 0, 15, 16, 17, 18, 19, 0, 0] rfl (C := RX8) (Tt := TX8) (N := 10) rfl kX8_ag_5 3 (by decide) 13 rfl kX8_ag_0 rfl dX8_add_5 ?_
  refine zb_alen X 13 (zTC_lt (by decide)) 2 0 0 0 rfl (Or.inr rfl) dX8_add_8 ?_
  refine zb_icmp_lt X 80 dX8_add_9 (by decide) (fun c1 => ?_) (fun c1 => ?_)
  · have c1' : L.length < cap := by
      have : nI L.length < nI (ln 13) := c1
      rw [w3, nI_ltI (by omega) (by omega)] at this
      exact this
    have ec : zCp cap (L.length + 1) = cap := if_pos c1'
    exact tail ad ln al 0 0 (by omega) (by omega) zGr.rf zFr.rf (by rw [ec]; exact ⟨w1, w2, ⟨w3, w4, w5, w6⟩, w7, w8⟩) (by rw [ec]; exact c1')
  · have c1' : L.length = cap := by
      have : ¬ nI L.length < nI (ln 13) := c1
      rw [w3, nI_ltI (by omega) (by omega)] at this
      omega
    have ec : zCp cap (L.length + 1) = 2 * cap := if_neg (by omega)
    have ecc : c0 = cap := by omega
    have e2 : (2 : Int32) * nI L.length = nI (2 * cap) := by
      rw [show (2 : Int32) = nI 2 from rfl, zI_n, zI_n, zI_n, zI_mul, c1']
      congr 1
    -- from
    refine zb_aload_n X dX8_add_12 rfl 0 rfl ?_
    refine zb_aload_n X dX8_add_13 rfl 0 rfl ?_
    refine zb_getR X 12 (zTC_lt (by decide)) 8 [6, 4, 0, 15, 16, 17, 18, 19, 0, 0] rfl (C := RX8) (Tt := TX8) (N := 10) rfl kX8_ag_5 3 (by decide) 13 rfl kX8_ag_0 rfl dX8_add_14 ?_
    refine zb_iconst X (2 : Int32) dX8_add_17 (by decide) ?_
    refine zb_aload_n X dX8_add_18 rfl 0 rfl ?_
    refine zb_getI X 12 (zTC_lt (by decide)) 8 [6, 4, 0, 15, 16, 17, 18, 19, 0, 0] rfl (C := RX8) (Tt := TX8) (N := 10) rfl kX8_ag_5 2 (by decide) rfl kX8_ag_4 rfl dX8_add_19 (nI L.length) w1 ?_
    refine zb_imul X dX8_add_22 ?_
    rw [e2]
    refine zb_copyOf X 13 (zTC_lt (by decide)) rfl (N := 2 * cap) (by rw [w3]; omega) (by omega) gX8_add_J7_copyOf_59c91 ⟨⟨Nat.le_of_ble_eq_true rfl, Nat.le_of_ble_eq_true rfl⟩, by show 0 + 1 ≤ c0; omega, by show 0 + 2 * cap ≤ 8 * c0; omega⟩ (Nat.le_of_ble_eq_true rfl) dX8_add_23 (fun q0 => ?_)
    refine zq_put X 12 13 3 (zTC_lt (by decide)) (zTC_lt (by decide)) (by decide) 8 [6, 4, 0, 15, 16, 17, 18, 19, 0, 0] rfl (C := RX8) (Tt := TX8) (N0 := 10) rfl kX8_ag_5 tyX8 tyX8_ok nmX8 (by decide) rfl kX8_ag_0 rfl rfl (fun _ => rfl) (fun _ => rfl) (zOnlyC r (by decide) (by decide)) rfl dX8_add_26 ?_
    generalize hd1 : adU ad 13 q0 = ad1
    generalize hn1 : adU ln 13 (2 * cap) = ln1
    generalize ha1 : alU al 13 (fun j => if j < ln 13 then al 13 j else 0) = a1
    have d12_1 : ad1 12 = ad 12 := by rw [← hd1]; exact adU_ne _ _ (by decide)
    have e12_1 : a1 12 = al 12 := by rw [← ha1, alU_ne _ _ (by decide)]
    have z1 : a1 12 2 = nI L.length := by rw [e12_1]; exact w1
    have l1 : ln1 14 = cap := by rw [← hn1, adU_ne _ _ (by decide)]; exact w4
    rw [← d12_1]
    refine zb_widen (kc' := 1) (ks' := 1 * (2 * cap)) (by omega) (by omega) ?_
    -- to
    refine zb_aload_n X dX8_add_29 rfl 0 rfl ?_
    refine zb_aload_n X dX8_add_30 rfl 0 rfl ?_
    refine zb_getR X 12 (zTC_lt (by decide)) 8 [6, 4, 0, 15, 16, 17, 18, 19, 0, 0] rfl (C := RX8) (Tt := TX8) (N := 10) rfl kX8_ag_5 4 (by decide) 14 rfl kX8_ag_1 rfl dX8_add_31 ?_
    refine zb_iconst X (2 : Int32) dX8_add_34 (by decide) ?_
    refine zb_aload_n X dX8_add_35 rfl 0 rfl ?_
    refine zb_getI X 12 (zTC_lt (by decide)) 8 [6, 4, 0, 15, 16, 17, 18, 19, 0, 0] rfl (C := RX8) (Tt := TX8) (N := 10) rfl kX8_ag_5 2 (by decide) rfl kX8_ag_4 rfl dX8_add_36 (nI L.length) z1 ?_
    refine zb_imul X dX8_add_39 ?_
    rw [e2]
    refine zb_copyOf X 14 (zTC_lt (by decide)) rfl (N := 2 * cap) (by rw [l1]; omega) (by omega) gX8_add_J7_copyOf_59c91 ⟨⟨Nat.le_of_ble_eq_true rfl, Nat.le_of_ble_eq_true rfl⟩, by show 1 + 1 ≤ c0; omega, by show 1 * (2 * cap) + 2 * cap ≤ 8 * c0; omega⟩ (Nat.le_of_ble_eq_true rfl) dX8_add_40 (fun q1 => ?_)
    refine zq_put X 12 14 4 (zTC_lt (by decide)) (zTC_lt (by decide)) (by decide) 8 [6, 4, 0, 15, 16, 17, 18, 19, 0, 0] rfl (C := RX8) (Tt := TX8) (N0 := 10) rfl kX8_ag_5 tyX8 tyX8_ok nmX8 (by decide) rfl kX8_ag_1 rfl rfl (fun _ => rfl) (fun _ => rfl) (zOnlyC r (by decide) (by decide)) rfl dX8_add_43 ?_
    generalize hd2 : adU ad1 14 q1 = ad2
    generalize hn2 : adU ln1 14 (2 * cap) = ln2
    generalize ha2 : alU a1 14 (fun j => if j < ln1 14 then a1 14 j else 0) = a2
    have d12_2 : ad2 12 = ad1 12 := by rw [← hd2]; exact adU_ne _ _ (by decide)
    have e12_2 : a2 12 = al 12 := by rw [← ha2, alU_ne _ _ (by decide)]; exact e12_1
    have z2 : a2 12 2 = nI L.length := by rw [e12_2]; exact w1
    have l2 : ln2 15 = cap := by rw [← hn2, adU_ne _ _ (by decide), ← hn1, adU_ne _ _ (by decide)]; exact w5
    rw [← d12_2]
    refine zb_widen (kc' := 2) (ks' := 2 * (2 * cap)) (by omega) (by omega) ?_
    -- over
    refine zb_aload_n X dX8_add_46 rfl 0 rfl ?_
    refine zb_aload_n X dX8_add_47 rfl 0 rfl ?_
    refine zb_getR X 12 (zTC_lt (by decide)) 8 [6, 4, 0, 15, 16, 17, 18, 19, 0, 0] rfl (C := RX8) (Tt := TX8) (N := 10) rfl kX8_ag_5 5 (by decide) 15 rfl kX8_ag_2 rfl dX8_add_48 ?_
    refine zb_iconst X (2 : Int32) dX8_add_51 (by decide) ?_
    refine zb_aload_n X dX8_add_52 rfl 0 rfl ?_
    refine zb_getI X 12 (zTC_lt (by decide)) 8 [6, 4, 0, 15, 16, 17, 18, 19, 0, 0] rfl (C := RX8) (Tt := TX8) (N := 10) rfl kX8_ag_5 2 (by decide) rfl kX8_ag_4 rfl dX8_add_53 (nI L.length) z2 ?_
    refine zb_imul X dX8_add_56 ?_
    rw [e2]
    refine zb_copyOf X 15 (zTC_lt (by decide)) rfl (N := 2 * cap) (by rw [l2]; omega) (by omega) gX8_add_J7_copyOf_59c91 ⟨⟨Nat.le_of_ble_eq_true rfl, Nat.le_of_ble_eq_true rfl⟩, by show 2 + 1 ≤ c0; omega, by show 2 * (2 * cap) + 2 * cap ≤ 8 * c0; omega⟩ (Nat.le_of_ble_eq_true rfl) dX8_add_57 (fun q2 => ?_)
    refine zq_put X 12 15 5 (zTC_lt (by decide)) (zTC_lt (by decide)) (by decide) 8 [6, 4, 0, 15, 16, 17, 18, 19, 0, 0] rfl (C := RX8) (Tt := TX8) (N0 := 10) rfl kX8_ag_5 tyX8 tyX8_ok nmX8 (by decide) rfl kX8_ag_2 rfl rfl (fun _ => rfl) (fun _ => rfl) (zOnlyC r (by decide) (by decide)) rfl dX8_add_60 ?_
    generalize hd3 : adU ad2 15 q2 = ad3
    generalize hn3 : adU ln2 15 (2 * cap) = ln3
    generalize ha3 : alU a2 15 (fun j => if j < ln2 15 then a2 15 j else 0) = a3
    have d12_3 : ad3 12 = ad2 12 := by rw [← hd3]; exact adU_ne _ _ (by decide)
    have e12_3 : a3 12 = al 12 := by rw [← ha3, alU_ne _ _ (by decide)]; exact e12_2
    have z3 : a3 12 2 = nI L.length := by rw [e12_3]; exact w1
    have l3 : ln3 16 = cap := by rw [← hn3, adU_ne _ _ (by decide), ← hn2, adU_ne _ _ (by decide), ← hn1, adU_ne _ _ (by decide)]; exact w6
    rw [← d12_3]
    refine zb_widen (kc' := 3) (ks' := 3 * (2 * cap)) (by omega) (by omega) ?_
    -- delay
    refine zb_aload_n X dX8_add_63 rfl 0 rfl ?_
    refine zb_aload_n X dX8_add_64 rfl 0 rfl ?_
    refine zb_getR X 12 (zTC_lt (by decide)) 8 [6, 4, 0, 15, 16, 17, 18, 19, 0, 0] rfl (C := RX8) (Tt := TX8) (N := 10) rfl kX8_ag_5 6 (by decide) 16 rfl kX8_ag_3 rfl dX8_add_65 ?_
    refine zb_iconst X (2 : Int32) dX8_add_68 (by decide) ?_
    refine zb_aload_n X dX8_add_69 rfl 0 rfl ?_
    refine zb_getI X 12 (zTC_lt (by decide)) 8 [6, 4, 0, 15, 16, 17, 18, 19, 0, 0] rfl (C := RX8) (Tt := TX8) (N := 10) rfl kX8_ag_5 2 (by decide) rfl kX8_ag_4 rfl dX8_add_70 (nI L.length) z3 ?_
    refine zb_imul X dX8_add_73 ?_
    rw [e2]
    refine zb_copyOf X 16 (zTC_lt (by decide)) rfl (N := 2 * cap) (by rw [l3]; omega) (by omega) gX8_add_J7_copyOf_59c91 ⟨⟨Nat.le_of_ble_eq_true rfl, Nat.le_of_ble_eq_true rfl⟩, by show 3 + 1 ≤ c0; omega, by show 3 * (2 * cap) + 2 * cap ≤ 8 * c0; omega⟩ (Nat.le_of_ble_eq_true rfl) dX8_add_74 (fun q3 => ?_)
    refine zq_put X 12 16 6 (zTC_lt (by decide)) (zTC_lt (by decide)) (by decide) 8 [6, 4, 0, 15, 16, 17, 18, 19, 0, 0] rfl (C := RX8) (Tt := TX8) (N0 := 10) rfl kX8_ag_5 tyX8 tyX8_ok nmX8 (by decide) rfl kX8_ag_3 rfl rfl (fun _ => rfl) (fun _ => rfl) (zOnlyC r (by decide) (by decide)) rfl dX8_add_77 ?_
    generalize hd4 : adU ad3 16 q3 = ad4
    generalize hn4 : adU ln3 16 (2 * cap) = ln4
    generalize ha4 : alU a3 16 (fun j => if j < ln3 16 then a3 16 j else 0) = a4
    have d12_4 : ad4 12 = ad3 12 := by rw [← hd4]; exact adU_ne _ _ (by decide)
    have e12_4 : a4 12 = al 12 := by rw [← ha4, alU_ne _ _ (by decide)]; exact e12_3
    have z4 : a4 12 2 = nI L.length := by rw [e12_4]; exact w1
    rw [← d12_4]
    refine zb_widen (kc' := 4) (ks' := 4 * (2 * cap)) (by omega) (by omega) ?_
    refine tail ad4 ln4 a4 4 (4 * (2 * cap)) (by omega) (by omega) ?_ ?_ ?_ (by omega)
    · intro k hk
      rw [← hd4, ← hd3, ← hd2, ← hd1, ← hn4, ← hn3, ← hn2, ← hn1]
      exact ⟨by rw [adU_ne _ _ (by omega), adU_ne _ _ (by omega), adU_ne _ _ (by omega), adU_ne _ _ (by omega)], by rw [adU_ne _ _ (by omega), adU_ne _ _ (by omega), adU_ne _ _ (by omega), adU_ne _ _ (by omega)]⟩
    · intro k hk
      simp at hk
      rw [← ha4, alU_ne _ _ (by omega), ← ha3, alU_ne _ _ (by omega), ← ha2, alU_ne _ _ (by omega), ← ha1, alU_ne _ _ (by omega)]
    · have f13 : a4 13 = fun j => if j < ln 13 then al 13 j else 0 := by rw [← ha4, alU_ne _ _ (by decide), ← ha3, alU_ne _ _ (by decide), ← ha2, alU_ne _ _ (by decide), ← ha1, alU_self]
      have f14 : a4 14 = fun j => if j < ln1 14 then a1 14 j else 0 := by rw [← ha4, alU_ne _ _ (by decide), ← ha3, alU_ne _ _ (by decide), ← ha2, alU_self]
      have f15 : a4 15 = fun j => if j < ln2 15 then a2 15 j else 0 := by rw [← ha4, alU_ne _ _ (by decide), ← ha3, alU_self]
      have f16 : a4 16 = fun j => if j < ln3 16 then a3 16 j else 0 := by rw [← ha4, alU_self]
      have g14 : a1 14 = al 14 := by rw [← ha1, alU_ne _ _ (by decide)]
      have g15 : a2 15 = al 15 := by rw [← ha2, alU_ne _ _ (by decide), ← ha1, alU_ne _ _ (by decide)]
      have g16 : a3 16 = al 16 := by rw [← ha3, alU_ne _ _ (by decide), ← ha2, alU_ne _ _ (by decide), ← ha1, alU_ne _ _ (by decide)]
      rw [ec]
      refine ⟨z4, by omega, ⟨?_, ?_, ?_, ?_⟩, by omega, fun i e hi => ?_⟩
      · rw [← hn4, adU_ne _ _ (by decide), ← hn3, adU_ne _ _ (by decide), ← hn2, adU_ne _ _ (by decide), ← hn1, adU_self]
      · rw [← hn4, adU_ne _ _ (by decide), ← hn3, adU_ne _ _ (by decide), ← hn2, adU_self]
      · rw [← hn4, adU_ne _ _ (by decide), ← hn3, adU_self]
      · rw [← hn4, adU_self]
      · have hlt := (List.getElem?_eq_some_iff.mp hi).1
        rw [f13, f14, f15, f16, g14, g15, g16, w3, l1, l2, l3]
        simp only [if_pos (show i < cap by omega)]
        exact w8 i e hi
end ADD
