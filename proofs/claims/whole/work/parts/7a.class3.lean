/-! THE CLASS: delay, lay -/
theorem zLc_ex {n : Nat} {rc : Nat → zRec} {st : Nat → Nat} (g : zGd n rc st) : ∃ c, zLcIs (zWL n rc st).length (wF (zWL n rc st)) (wT (zWL n rc st)) (wO (zWL n rc st)) (wD (zWL n rc st)) c := by
  have h960 := zFe_WL g
  have : ∀ k : Nat, zFe (zWL n rc st).length (wF (zWL n rc st)) (wT (zWL n rc st)) (wO (zWL n rc st)) (wD (zWL n rc st)) (k + 1) → k + 1 ≤ 960 → ∃ c, zLcIs (zWL n rc st).length (wF (zWL n rc st)) (wT (zWL n rc st)) (wO (zWL n rc st)) (wD (zWL n rc st)) c := by
    intro k
    induction k with
    | zero => intro h1 _; exact ⟨1, by omega, by omega, h1, fun D d1 d2 => absurd d2 (by omega)⟩
    | succ k ih =>
      intro h1 h2
      by_cases q : zFe (zWL n rc st).length (wF (zWL n rc st)) (wT (zWL n rc st)) (wO (zWL n rc st)) (wD (zWL n rc st)) (k + 1)
      · exact ih q (by omega)
      · exact ⟨k + 2, by omega, h2, h1, fun D d1 d2 z => q (zFe_mono z (by omega))⟩
  exact this 959 h960 (by omega)
section CLS3
variable (G : zG) (r : Bool) (ad ln : Nat → Nat) (al : Nat → Nat → Int32) {cap : Nat} {wk lk : Bool} {len : Nat} {ty : Nat → Int32} {st : Nat → Nat} {bg : Nat → Int32} {n : Nat} {rc : Nat → zRec} {re : Int32} {D : Nat} {ran : Bool} {rg ce : Nat → Int32}
theorem c_delay (h : zIC r al ln cap wk lk len ty st bg n rc re D ran rg ce) (p v w : Int32) : zXi G yX9_delay wsX9_delay (rmX9_delay (1 + (zCpM wk cap n rc st - cap)) (6 + 8 * (zCpM wk cap n rc st - cap))) (zTC r, ad, ln, al) [.ref (ad 0), .int p, .int v, .int w] (fun q u => u.1 = zTC r ∧ zGr ad ln u.2.1 u.2.2.1 ∧ (zIx p n ∧ zIx v n) ∧ (∃ i, zFnd (wF (zWL n rc st)) (wT (zWL n rc st)) (wO (zWL n rc st)) p v w (zWL n rc st).length 0 = some i ∧ q = nI (wD (zWL n rc st) i)) ∧ ∃ cap' wk', cap ≤ cap' ∧ cap' ≤ zCpM wk cap n rc st ∧ zIC r u.2.2.2 u.2.2.1 cap' wk' lk len ty st bg n rc re D ran rg ce) (fun E u => u.1 = zTC r ∧ zGr ad ln u.2.1 u.2.2.1 ∧ ((¬ (zIx p n ∧ zIx v n) ∧ E = "java/lang/IndexOutOfBoundsException") ∨ ((zIx p n ∧ zIx v n) ∧ zFnd (wF (zWL n rc st)) (wT (zWL n rc st)) (wO (zWL n rc st)) p v w (zWL n rc st).length 0 = none ∧ E = "java/util/NoSuchElementException")) ∧ ∃ cap' wk', cap ≤ cap' ∧ cap' ≤ zCpM wk cap n rc st ∧ zIC r u.2.2.2 u.2.2.1 cap' wk' lk len ty st bg n rc re D ran rg ce) := by
  refine zXi.of (cc := cX9_delay) (nL := 5) (rt := .int) (by decide) rfl rfl (Nat.le_of_ble_eq_true rfl) (fun Z X hEZ hR hT => ?_)
  have hge := zCpM_ge wk cap n rc st
  have hcm : n ≠ 0 → zCpM wk cap n rc st = zCpN wk cap n rc st := fun n0 => if_neg n0
  generalize hcap : zCpM wk cap n rc st = cap' at hR hT hge hcm
  refine uX9_delay_0 X _ _ 0 0 (Nat.zero_le _) (Nat.zero_le _) p v w (hR (zTC r) ad ln) al ?_
  unfold vcX9_delay_0
  have h41 : al 4 1 = nI n := h.2.1.1.1
  have hn := h.2.1.1.2.1
  have thr : ¬ (zIx p n ∧ zIx v n) → BX9_delay_30 G Z r ad ln (1 + (cap' - cap)) (6 + 8 * (cap' - cap)) 0 0 (Nat.zero_le _) (Nat.zero_le _) p v w al := fun hb => zt_delay_30 hT ⟨⟨Nat.le_of_ble_eq_true rfl, Nat.le_of_ble_eq_true rfl⟩, by show 0 + 1 ≤ 1 + (cap' - cap); omega, by show 0 + 6 ≤ 6 + 8 * (cap' - cap); omega⟩ ⟨rfl, zGr.rf, Or.inl ⟨hb, rfl⟩, cap, wk, Nat.le_refl _, hge, h⟩
  rw [h41]
  refine ⟨fun q => thr (fun z => z.1.1 q), fun q => ⟨fun q2 => thr (fun z => Int32.not_lt.mpr q2 z.1.2), fun q2 => ⟨fun q3 => thr (fun z => z.2.1 q3), fun q3 => ⟨fun q4 => ?_, fun q4 => thr (fun z => q4 z.2.2)⟩⟩⟩⟩
  have ix : zIx p n ∧ zIx v n := ⟨⟨q, Int32.not_le.mp q2⟩, ⟨q3, q4⟩⟩
  obtain ⟨e1, e2⟩ := zInt_rng (by omega) ix.1.1 ix.1.2
  have n0 : n ≠ 0 := by omega
  have M := c_learnWaits G r ad ln al h n0
  rw [← hcm n0] at M
  refine zb_callVgv (n := 0) X 0 (zTC_lt (by decide)) 9 (cdX9 r) rfl (C := RX9) (Tt := TX9) (N := 15) rfl M gX9_delay_X9_learnWaits rfl (by decide +kernel) ⟨⟨Nat.le_of_ble_eq_true rfl, Nat.le_of_ble_eq_true rfl⟩, ?_, ?_⟩ rfl rfl (Nat.le_of_ble_eq_true rfl) dX9_delay_41 (kc' := cap' - cap) (ks' := 8 * (cap' - cap)) (Nat.zero_add _) (Nat.zero_add _) (fun u hu => ?_)
  · show 0 + (cap' - cap) ≤ 1 + (cap' - cap)
    omega
  · show 0 + 8 * (cap' - cap) ≤ 6 + 8 * (cap' - cap)
    omega
  · obtain ⟨T', ad', ln', a'⟩ := u
    obtain ⟨rfl, u2, u3⟩ := hu
    have e0 : ad' 0 = ad 0 := (u2 0 (by decide)).1
    rw [← e0]
    refine uX9_delay_44 X _ _ (cap' - cap) (8 * (cap' - cap)) (by omega) (by omega) p v w (hR (zTC r) ad' ln') a' ?_
    unfold vcX9_delay_44
    have u3' : zIC r a' ln' cap' true lk len ty st bg n rc re D ran rg ce := u3
    have gd := u3'.gd r ln' n0
    obtain ⟨l1, l2, l3⟩ := (u3'.2.2.2.2.2.1 rfl).2
    obtain ⟨m1, m2⟩ := zWL_ok gd
    refine (c_find G r ad' ln' a' (l1.wt gd (zWL_63 gd)) p v w).mono (fun q1 a1 hq => ?_)
    obtain ⟨hq, e5⟩ := hq
    obtain rfl := e5.symm
    match hf : zFnd (wF (zWL n rc st)) (wT (zWL n rc st)) (wO (zWL n rc st)) p v w (zWL n rc st).length 0 with
    | some i =>
      rw [hf] at hq
      obtain ⟨rfl, hi⟩ := hq
      have l16 : ln' 16 = cap' := l1.2.2.1.2.2.2
      have lle := l1.2.1
      rw [nI_clamp (by omega)]
      refine ⟨fun _ => ⟨?_, rfl, u2, ix, ⟨i, rfl, ?_⟩, cap', true, hge, Nat.le_refl _, u3'⟩, fun z => absurd (by rw [show (0 : Int32) = nI 0 from rfl, nI_leI (by omega) (by omega)]; omega) z⟩
      · rw [l16]
        have := l1.2.2.2.1
        exact vp_in_nI (by omega) (by omega)
      · exact (l1.2.2.2.2 i _ (wG hi)).2.2.2
    | none =>
      rw [hf] at hq
      subst hq
      refine ⟨fun z => absurd z (by decide), fun _ => ?_⟩
      exact zt_delay_61 hT ⟨⟨Nat.le_of_ble_eq_true rfl, Nat.le_of_ble_eq_true rfl⟩, by show cap' - cap + 1 ≤ 1 + (cap' - cap); omega, by show 8 * (cap' - cap) + 6 ≤ 6 + 8 * (cap' - cap); omega⟩ ⟨rfl, u2, Or.inr ⟨ix, hf, rfl⟩, cap', true, hge, Nat.le_refl _, u3'⟩
theorem zCl.sn {a : Nat → Nat → Int32} (h : zCl a n rc st) (hn0 : 0 < n) {c : Nat → Int} (hc : ∀ x, x < n → a 19 x = zI (c x) ∧ 0 ≤ c x ∧ c x ≤ 1000000) : zSn a n (fun x => rKd (rc x)) st c (zSl n rc) (zSr2 n rc) := by
  obtain ⟨h1, h2, h3, h4, h5⟩ := h
  have hn := h1.2.1
  have h6 := h4 hn0
  have one : ∀ (o : Nat) (s v : Int32), zOpOk s v → a o 0 = s → a o 1 = v → (a o 0 = 114 → vp_in (a o 1) 32) ∧ (if a o 0 = 114 then a 6 (a o 1).toNatClampNeg else -1) = zI (if s = 114 then zSvI n rc v.toNatClampNeg else -1) ∧ -1 ≤ (if s = 114 then zSvI n rc v.toNatClampNeg else -1) ∧ (if s = 114 then zSvI n rc v.toNatClampNeg else -1) < n := by
    intro o s v ho e0 e1
    rw [e0, e1]
    refine ⟨fun z => (ho.v z).2.2, ?_, ?_⟩
    · by_cases q : s = 114
      · rw [if_pos q, if_pos q, h6 _ (ho.v q).1]
        unfold zSvI
        exact zI_of _
      · rw [if_neg q, if_neg q]
        rfl
    · split
      · rcases zSv_rng n rc v.toNatClampNeg with ⟨g1, g2⟩ | ⟨x', g1, g2, g3, g4⟩
        · unfold zSvI
          omega
        · have := g3 hn
          unfold zSvI
          omega
      · omega
  refine ⟨h1.1, hn, fun x hx => ?_, h2, hc, fun y hy => ?_, fun y hy => ?_⟩
  · obtain ⟨⟨p, hp⟩, ok⟩ := h1.2.2 x hx
    obtain ⟨k1, k2⟩ := rKd_ok ok
    exact ⟨by rw [hp.1]; exact k2, k1⟩
  · obtain ⟨⟨p, hp⟩, ok⟩ := h1.2.2 y hy
    exact one _ _ _ ok.2.2.2.2.2.2.2.1 hp.2.2.2.2.2.2.2.1 hp.2.2.2.2.2.2.2.2.1
  · obtain ⟨⟨p, hp⟩, ok⟩ := h1.2.2 y hy
    exact one _ _ _ ok.2.2.2.2.2.2.2.2.1 hp.2.2.2.2.2.2.2.2.2.1 hp.2.2.2.2.2.2.2.2.2.2
theorem c_lay (h : zIC r al ln cap wk lk len ty st bg n rc re D ran rg ce) : zXi G yX9_lay wsX9_lay (rmX9_lay (1 + (zCpM wk cap n rc st - cap)) (6 + 8 * (zCpM wk cap n rc st - cap))) (zTC r, ad, ln, al) [.ref (ad 0)] (fun q u => u.1 = zTC r ∧ zGr ad ln u.2.1 u.2.2.1 ∧ n ≠ 0 ∧ q = nI (zLy n rc st (zUsC n rc)) ∧ ∃ cap', cap ≤ cap' ∧ cap' ≤ zCpM wk cap n rc st ∧ zIC r u.2.2.2 u.2.2.1 cap' true true len ty st bg n rc re (zLy n rc st (zUsC n rc)) ran rg ce) (fun E u => zSame r ad ln u ∧ u.2.2.2 = al ∧ n = 0 ∧ E = "java/lang/IllegalStateException") := by
  refine zXi.of (cc := cX9_lay) (nL := 2) (rt := .int) (by decide) rfl rfl (Nat.le_of_ble_eq_true rfl) (fun Z X hEZ hR hT => ?_)
  have hge := zCpM_ge wk cap n rc st
  have hcm : n ≠ 0 → zCpM wk cap n rc st = zCpN wk cap n rc st := fun n0 => if_neg n0
  generalize hcap : zCpM wk cap n rc st = cap' at hR hT hge hcm
  refine uX9_lay_0 X _ _ 0 0 (Nat.zero_le _) (Nat.zero_le _) (hR (zTC r) ad ln) al ?_
  unfold vcX9_lay_0 vcX9_lay_112
  have h41 : al 4 1 = nI n := h.2.1.1.1
  have h12 : al 0 12 = zb lk := h.2.2.2.1.2.2.1
  have h13 : al 0 13 = nI D := h.2.2.2.1.2.2.2.1
  have hn := h.2.1.1.2.1
  rw [h41, h12, show (0 : Int32) = nI 0 from rfl, nI_eq (a := n) (by omega) (by omega), ← show (0 : Int32) = nI 0 from rfl]
  refine ⟨fun n0 => ⟨fun z => ?_, fun z => ?_⟩, fun n0 => zt_lay_10 hT ⟨⟨Nat.le_of_ble_eq_true rfl, Nat.le_of_ble_eq_true rfl⟩, by show 0 + 1 ≤ 1 + (cap' - cap); omega, by show 0 + 6 ≤ 6 + 8 * (cap' - cap); omega⟩ ⟨⟨rfl, rfl, rfl⟩, rfl, n0, rfl⟩⟩
  · have hl : lk = true := by
      cases hl : lk with
      | false => rw [hl] at z; exact absurd rfl z
      | true => rfl
    obtain ⟨w1, w2⟩ := h.2.2.2.2.2.2.1.1 hl
    refine ⟨rfl, zGr.rf, n0, ?_, cap, Nat.le_refl _, hge, ?_⟩
    · rw [h13, w2]
    · have h' := h
      rw [hl, w1] at h'
      rw [w2] at h'
      exact h'
  · have hl : lk = false := by
      cases hl : lk with
      | false => rfl
      | true => rw [hl] at z; exact absurd z (by decide)
    have d0 : D = 0 := h.2.2.2.2.2.2.1.2 hl
    have M := c_learnWaits G r ad ln al h n0
    rw [← hcm n0] at M
    refine zb_callVgv (n := 0) X 0 (zTC_lt (by decide)) 9 (cdX9 r) rfl (C := RX9) (Tt := TX9) (N := 15) rfl M gX9_lay_X9_learnWaits rfl (by decide +kernel) ⟨⟨Nat.le_of_ble_eq_true rfl, Nat.le_of_ble_eq_true rfl⟩, ?_, ?_⟩ rfl rfl (Nat.le_of_ble_eq_true rfl) dX9_lay_28 (kc' := cap' - cap) (ks' := 8 * (cap' - cap)) (Nat.zero_add _) (Nat.zero_add _) (fun u hu => ?_)
    · show 0 + (cap' - cap) ≤ 1 + (cap' - cap)
      omega
    · show 0 + 8 * (cap' - cap) ≤ 6 + 8 * (cap' - cap)
      omega
    · obtain ⟨T', ad', ln', a0⟩ := u
      obtain ⟨rfl, u2, u3⟩ := hu
      have e0 : ad' 0 = ad 0 := (u2 0 (by decide)).1
      rw [← e0]
      have u3' : zIC r a0 ln' cap' true lk len ty st bg n rc re D ran rg ce := u3
      have gd := u3'.gd r ln' n0
      obtain ⟨g1, g2, g3, g4, g5, g6, g7, g8, g9⟩ := u3'
      obtain ⟨l1, l2, l3⟩ := (g6 rfl).2
      obtain ⟨m1, m2⟩ := zWL_ok gd
      have hkc : cap' - cap ≤ 1 + (cap' - cap) := by omega
      have hks : 8 * (cap' - cap) ≤ 6 + 8 * (cap' - cap) := by omega
      -- what stays
      have keep : ∀ a, zFr [0, 17, 18, 19, 20, 21, 22, 23, 24, 25, 26, 27, 28] a0 a → (∀ j, j ≠ 12 → j ≠ 13 → a 0 j = a0 0 j) → zCl a n rc st ∧ zLrn a ln' n rc st cap' := fun a hf hj => ⟨g2.fr hf (by decide), (g6 rfl).2.fr (hf 12 (by decide)) (hf 13 (by decide)) (hf 14 (by decide)) (hf 15 (by decide)) (hf 16 (by decide))⟩
      -- the end
      have endd : ∀ a, zFr [0, 17, 18, 19, 20, 21, 22, 23, 24, 25, 26, 27, 28] a0 a → (∀ j, j ≠ 12 → j ≠ 13 → a 0 j = a0 0 j) → a 0 12 = 1 → a 0 13 = nI (zLy n rc st (zUsC n rc)) → (zLy n rc st (zUsC n rc) ≠ 0 → zCld a n rc st (zLy n rc st (zUsC n rc))) → zTC r = zTC r ∧ zGr ad ln ad' ln' ∧ n ≠ 0 ∧ a 0 13 = nI (zLy n rc st (zUsC n rc)) ∧ ∃ cap'', cap ≤ cap'' ∧ cap'' ≤ cap' ∧ zIC r a ln' cap'' true true len ty st bg n rc re (zLy n rc st (zUsC n rc)) ran rg ce := by
        intro a hf hj e12 e13 hcl
        obtain ⟨k1, k2⟩ := keep a hf hj
        refine ⟨rfl, u2, n0, e13, cap', hge, Nat.le_refl _, ?_, k1, ?_, ⟨?_, ?_, e12, e13, ?_⟩, ⟨_, k2.1⟩, fun _ => ⟨by omega, k2⟩, ⟨fun _ => ⟨rfl, rfl⟩, (fun z => by cases z)⟩, hcl, fun w => ?_⟩
        · rw [hj 1 (by decide) (by decide), hf 1 (by decide)]
          exact g1
        · rw [hf 3 (by decide)]
          exact g3
        · rw [hj 10 (by decide) (by decide)]
          exact g4.1
        · rw [hj 11 (by decide) (by decide)]
          exact g4.2.1
        · rw [hj 14 (by decide) (by decide)]
          exact g4.2.2.2.2
        · rw [hf 175 (by decide), hf 174 (by decide)]
          exact g9 w
      have hus := zUsC_ok g2.2.2.2.2 hn (fun x hx => (g2.1.2.2 x hx).2)
      have loop : ∀ (f E : Nat) (a : Nat → Nat → Int32), f = 201 - E → (1 ≤ E ∧ E ≤ 2000) → zFe (zWL n rc st).length (wF (zWL n rc st)) (wT (zWL n rc st)) (wO (zWL n rc st)) (wD (zWL n rc st)) E → zFr [0, 17, 18, 19, 20, 21, 22, 23, 24, 25, 26, 27, 28] a0 a → (∀ j, j ≠ 12 → j ≠ 13 → a 0 j = a0 0 j) → a 0 12 = 1 → a 0 13 = 0 → zLyF n rc st (zUsC n rc) f E = zLy n rc st (zUsC n rc) → BX9_lay_54 G Z r ad' ln' (1 + (cap' - cap)) (6 + 8 * (cap' - cap)) (cap' - cap) (8 * (cap' - cap)) hkc hks (nI E) a := by
        intro f
        induction f with
        | zero =>
          intro E a hfE hE hF hf hj e12 e13 e
          refine uX9_lay_54 X _ _ _ _ hkc hks (hR (zTC r) ad' ln') _ a ?_
          unfold vcX9_lay_54 vcX9_lay_112
          rw [show (200 : Int32) = nI 200 from rfl, nI_ltI (by omega) (by omega)]
          have e' : zLy n rc st (zUsC n rc) = 0 := e.symm
          exact ⟨fun z => absurd e13 z, fun _ => ⟨fun _ => endd a hf hj e12 (by rw [e13, e']; rfl) (fun z => absurd e' z), fun z => absurd (by omega) z⟩⟩
        | succ f ih =>
          intro E a hfE hE hF hf hj e12 e13 e
          have hE2 : E ≤ 200 := by omega
          obtain ⟨k1, k2⟩ := keep a hf hj
          refine uX9_lay_54 X _ _ _ _ hkc hks (hR (zTC r) ad' ln') _ a ?_
          unfold vcX9_lay_54 vcX9_lay_106
          rw [show (200 : Int32) = nI 200 from rfl, nI_ltI (by omega) (by omega), nI_1]
          have next : ∀ a3, zFr [0, 17, 18, 19, 20, 21, 22, 23, 24, 25, 26, 27, 28] a0 a3 → (∀ j, j ≠ 12 → j ≠ 13 → a3 0 j = a0 0 j) → a3 0 12 = 1 → a3 0 13 = 0 → ¬ zOkD n rc st (zUsC n rc) E → BX9_lay_54 G Z r ad' ln' (1 + (cap' - cap)) (6 + 8 * (cap' - cap)) (cap' - cap) (8 * (cap' - cap)) hkc hks (nI (E + 1)) a3 := fun a3 b1 b2 b3 b4 b5 => ih (E + 1) a3 (by omega) (by omega) (zFe_mono hF (by omega)) b1 b2 b3 b4 (by rw [← e, zLyF_n n rc st (zUsC n rc) b5])
          refine ⟨fun z => absurd e13 z, fun _ => ⟨fun z => absurd z (by omega), fun _ => ?_⟩⟩
          have wt := k2.1.wt gd (zWL_63 gd)
          refine (c_findHeights G r ad' ln' a wt gd.1 k1.1.1 (D := E) (by omega)).mono (fun q3 a3 hq => ?_)
          obtain ⟨f3, hq⟩ := hq
          have hf3 := hf.tr (f3.mono (by decide))
          have hj3 : ∀ j, a3 0 j = a 0 j := fun j => by rw [f3 0 (by decide)]
          have hj3' : ∀ j, j ≠ 12 → j ≠ 13 → a3 0 j = a0 0 j := fun j x1 x2 => by rw [hj3 j]; exact hj j x1 x2
          rcases hq with ⟨rfl, hh, mn, hh1⟩ | ⟨rfl, nof⟩
          · refine ⟨fun z => absurd z (by decide), fun _ => ?_⟩
            obtain ⟨k3, k4⟩ := keep a3 hf3 hj3'
            have wt3 := k4.1.wt gd (zWL_63 gd)
            have kd : ∀ x, x < n → a3 (29 + 3 * x) 0 = nI (rKd (rc x)) ∧ rKd (rc x) < 4 := fun x hx => by
              obtain ⟨⟨p, hp⟩, ok⟩ := k3.1.2.2 x hx
              obtain ⟨y1, y2⟩ := rKd_ok ok
              exact ⟨by rw [hp.1]; exact y2, y1⟩
            have hpos := (bfMin_b (fun i hi => (m2 i hi).1) (fun i hi => (m2 i hi).2.1) (fun i hi => (zWg_rng (D := E) (by omega) (m2 i hi).2.2.1 (m2 i hi).2.2.2.1).2) m1 hn mn)
            refine (c_fillT G r ad' ln' a3 wt3 gd.1 ⟨hE.1, hE2⟩ k3.1.1 kd k3.2.1 (hh := hh) (fun x hx => ⟨(hh1 x hx).1, by have := hpos x hx; exact ⟨by omega, by omega⟩⟩)).mono (fun q5 a5 hq => ?_)
            obtain ⟨f5, hqf, hqt⟩ := hq
            rw [zFl_eq mn] at hqf hqt
            have hf5 := hf3.tr (f5.mono (by decide))
            have hj5' : ∀ j, j ≠ 12 → j ≠ 13 → a5 0 j = a0 0 j := fun j x1 x2 => by rw [f5 0 (by decide)]; exact hj3' j x1 x2
            have e125 : a5 0 12 = 1 := by rw [f5 0 (by decide), hj3]; exact e12
            have e135 : a5 0 13 = 0 := by rw [f5 0 (by decide), hj3]; exact e13
            cases ht : (zFl n rc st E).2.2 with
            | false =>
              have := hqf ht
              subst this
              exact ⟨fun _ => next a5 hf5 hj5' e125 e135 (fun z => by rw [z.1] at ht; cases ht), fun z => absurd rfl z⟩
            | true =>
              obtain ⟨rfl, t7, t8, t19⟩ := hqt ht
              refine ⟨fun z => absurd z (by decide), fun _ => ?_⟩
              obtain ⟨cy1, cy2, cy3, cy4, cy5⟩ := zCy_ok gd ⟨hE.1, hE2⟩ hF ht
              obtain ⟨k5, k6⟩ := keep a5 hf5 hj5'
              have sn := k5.sn gd.1 (c := zCy n rc st E) (fun x hx => ⟨(t19 x hx).1, (cy2 x hx).1, by have := (cy2 x hx).2; omega⟩)
              refine (c_fit G r ad' ln' a5 sn ⟨hE.1, hE2⟩ (fun x hx h0 => span_ok (us := zUsC n rc) hus cy4 hx h0)).mono (fun q7 a7 hq => ?_)
              obtain ⟨f7, hq⟩ := hq
              have hq' : match lF n rc st (zUsC n rc) E with
                | some (sz, off) => q7 = 1 ∧ a7 22 11 = zI (lNd n rc st (zUsC n rc) E) ∧ a7 22 12 = nI sz ∧ (1 ≤ sz ∧ sz ≤ 128) ∧ ∀ x, x < n → a7 23 x = zI (lB n rc st (zUsC n rc) E x) ∧ a7 24 x = zI (lE n rc st (zUsC n rc) E x) ∧ a7 25 x = zI (off x)
                | none => q7 = 0 := hq
              have hf7 := hf5.tr (f7.mono (by decide))
              have hj7' : ∀ j, j ≠ 12 → j ≠ 13 → a7 0 j = a0 0 j := fun j x1 x2 => by rw [f7 0 (by decide)]; exact hj5' j x1 x2
              have e127 : a7 0 12 = 1 := by rw [f7 0 (by decide)]; exact e125
              have e137 : a7 0 13 = 0 := by rw [f7 0 (by decide)]; exact e135
              clear hq
              match hl : lF n rc st (zUsC n rc) E, hq' with
              | none, hq' =>
                exact ⟨fun _ => next a7 hf7 hj7' e127 e137 (fun z => z.2 hl), fun z => absurd hq' z⟩
              | some (sz, off), hq' =>
                obtain ⟨rfl, q11, q12, qs, qx⟩ := hq'
                refine ⟨fun z => absurd z (by decide), fun _ => ?_⟩
                have ok : zOkD n rc st (zUsC n rc) E := ⟨ht, by rw [hl]; exact fun z => by cases z⟩
                have eD : zLy n rc st (zUsC n rc) = E := by rw [← e, zLyF_y n rc st (zUsC n rc) ok]
                -- the next turn ends it
                refine uX9_lay_54 X _ _ _ _ hkc hks (hR (zTC r) ad' ln') _ _ ?_
                unfold vcX9_lay_54 vcX9_lay_112
                rw [up2_self]
                have nE : ¬ nI E = 0 := by
                  rw [show (0 : Int32) = nI 0 from rfl, nI_eq (by omega) (by omega)]
                  omega
                refine ⟨fun _ => ?_, fun z => absurd z nE⟩
                have f8 : zFr [0] a7 (up2 a7 0 13 (nI E)) := zFr.rf.up (by decide) _ _
                have fin := endd (up2 a7 0 13 (nI E)) (hf7.tr (f8.mono (by decide))) (fun j x1 x2 => by rw [up2_ne _ _ (fun z => x2 z.2)]; exact hj7' j x1 x2) (by rw [up2_ne _ _ (by decide)]; exact e127) (by rw [up2_self, eD]) (fun _ => ?_)
                · rw [up2_self] at fin
                  exact fin
                · rw [eD]
                  refine ⟨?_, ?_, fun x hx => ⟨?_, ?_, ?_, ?_⟩, ?_, sz, off, hl, qs, ?_, fun x hx => ?_⟩
                  · rw [f8 18 (by decide), f7 18 (by decide)]
                    exact t7
                  · rw [f8 18 (by decide), f7 18 (by decide)]
                    exact t8
                  · rw [f8 19 (by decide), f7 19 (by decide)]
                    exact (t19 x hx).1
                  · rw [f8 17 (by decide), f7 17 (by decide), f5 17 (by decide), (hh1 x hx).1, zHt_eq mn x hx]
                  · rw [f8 23 (by decide)]
                    exact (qx x hx).1
                  · rw [f8 24 (by decide)]
                    exact (qx x hx).2.1
                  · rw [f8 22 (by decide)]
                    exact q11
                  · rw [f8 22 (by decide)]
                    exact q12
                  · rw [f8 25 (by decide)]
                    exact (qx x hx).2.2
          · exact absurd hF nof
      refine uX9_lay_31 X _ _ (cap' - cap) (8 * (cap' - cap)) hkc hks (hR (zTC r) ad' ln') a0 ?_
      unfold vcX9_lay_31
      rw [l2, l3]
      have hcc : ∃ c, zLcIs (zWL n rc st).length (wF (zWL n rc st)) (wT (zWL n rc st)) (wO (zWL n rc st)) (wD (zWL n rc st)) c := zLc_ex gd
      obtain ⟨cc, hcc⟩ := hcc
      have ec := zCi_eq hcc
      have lu := zLu_le gd.2.2.2.2 (fun x => rKd (rc x)) (n := n) 4 (Nat.le_refl _)
      have lu1 : 1 ≤ zLu (fun x => rKd (rc x)) st n 4 := by
        have h7 : 1 ≤ zLu (fun x => rKd (rc x)) st n 1 := zLu_pos gd.1 (gd.2.2.2.2 7 (by omega)).1
        have mono : ∀ g, zLu (fun x => rKd (rc x)) st n g ≤ zLu (fun x => rKd (rc x)) st n (g + 1) := fun g => Nat.le_max_left _ _
        exact Nat.le_trans h7 (Nat.le_trans (mono 1) (Nat.le_trans (mono 2) (mono 3)))
      obtain ⟨cc1, cc2, cc3, cc4⟩ := hcc
      have ed : (if nI (zLu (fun x => rKd (rc x)) st n 4) < nI (zCi n rc st) then nI (zCi n rc st) else nI (zLu (fun x => rKd (rc x)) st n 4)) = nI (zD0 n rc st) := by
        unfold zD0
        rw [← ec]
        by_cases q : zLu (fun x => rKd (rc x)) st n 4 < cc
        · rw [if_pos q, if_pos ((nI_ltI (by omega) (by omega)).mpr q)]
        · rw [if_neg q, if_neg (fun z => q ((nI_ltI (by omega) (by omega)).mp z))]
      rw [ed]
      have hd : (1 ≤ zD0 n rc st ∧ zD0 n rc st ≤ 2000) ∧ cc ≤ zD0 n rc st := by
        unfold zD0
        rw [← ec]
        split <;> omega
      exact loop _ (zD0 n rc st) _ rfl hd.1 (zFe_mono cc3 hd.2) (zFr.rf.up (by decide) _ _) (fun j x1 _ => up2_ne _ _ (fun z => x1 z.2)) (up2_self _ _ _ _) (by rw [up2_ne _ _ (by decide), g4.2.2.2.1, d0]; rfl) rfl
end CLS3
