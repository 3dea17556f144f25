/-! THE CLASS: register, cell, the waits' knowing, count, delay -/
abbrev cdX9 (r : Bool) : List Nat := [3, 0, 4, 5, 6, 9, 14, 20, 24, if r then 175 else 1, 0, 0, 0, 0, 0]
section CLS2
variable (G : zG) (r : Bool) (ad ln : Nat → Nat) (al : Nat → Nat → Int32) {cap : Nat} {wk lk : Bool} {len : Nat} {ty : Nat → Int32} {st : Nat → Nat} {bg : Nat → Int32} {n : Nat} {rc : Nat → zRec} {re : Int32} {D : Nat} {ran : Bool} {rg ce : Nat → Int32}
theorem c_register (h : zIC r al ln cap wk lk len ty st bg n rc re D ran rg ce) (p : Int32) : zXi G yX9_register wsX9_register (rmX9_register 1 6) (zTC r, ad, ln, al) [.ref (ad 0), .int p] (fun q u => zSame r ad ln u ∧ u.2.2.2 = al ∧ (ran = true ∧ zIx p 32) ∧ q = rg p.toNatClampNeg) (fun E u => zSame r ad ln u ∧ u.2.2.2 = al ∧ ((ran = false ∧ E = "java/lang/IllegalStateException") ∨ (ran = true ∧ ¬ zIx p 32 ∧ E = "java/lang/IllegalArgumentException"))) := by
  refine zXi.of (cc := cX9_register) (nL := 3) (rt := .int) (by decide) rfl rfl (Nat.le_of_ble_eq_true rfl) (fun Z X hEZ hR hT => ?_)
  have rm6 : (6 ≤ (rmX9_register 1 6).frames ∧ 82 ≤ (rmX9_register 1 6).locals) ∧ 0 + 1 ≤ (rmX9_register 1 6).cells ∧ 0 + 6 ≤ (rmX9_register 1 6).slots := ⟨⟨Nat.le_of_ble_eq_true rfl, Nat.le_of_ble_eq_true rfl⟩, Nat.le_of_ble_eq_true rfl, Nat.le_of_ble_eq_true rfl⟩
  have h14 : al 0 14 = zb ran := h.2.2.2.1.2.2.2.2
  have hrg := h.2.2.2.2.2.2.2.2
  have no : ran = false → zB G Z (rmX9_register 1 6) 3 (zTC r) ad ln 0 0 16 [] [] al := fun hr => zt_register_16 hT rm6 ⟨⟨rfl, rfl, rfl⟩, rfl, Or.inl ⟨hr, rfl⟩⟩
  have zr : zb ran = 0 → ran = false := fun z => by
    cases ran with
    | false => rfl
    | true => exact absurd z (by decide)
  cases r with
  | false =>
    have hf : ran = false := by
      cases hr : ran with
      | false => rfl
      | true => exact absurd (hrg hr).1 (by decide)
    refine uX9n_register_0 X 1 6 0 0 (by omega) (by omega) p (hR (zTC false) ad ln) al ?_
    unfold vcX9n_register_0
    exact ⟨fun _ => no hf, fun _ => no hf⟩
  | true =>
    refine uX9y_register_0 X 1 6 0 0 (by omega) (by omega) p (hR (zTC true) ad ln) al ?_
    unfold vcX9y_register_0
    rw [h14]
    refine ⟨fun z => no (zr z), fun z => ?_⟩
    have ht : ran = true := by
      cases hr : ran with
      | false => rw [hr] at z; exact absurd rfl z
      | true => rfl
    have two : ¬ zIx p 32 → BX9y_register_36 G Z ad ln 1 6 0 0 (by omega) (by omega) p al := fun hb => zt_register_36 hT rm6 ⟨⟨rfl, rfl, rfl⟩, rfl, Or.inr ⟨ht, hb, rfl⟩⟩
    refine ⟨fun q => two (fun z => z.1 q), fun q => ⟨fun q2 => ?_, fun q2 => two (fun z => q2 z.2)⟩⟩
    have ix : zIx p 32 := ⟨q, q2⟩
    obtain ⟨e1, e2⟩ := zInt_rng (by omega) ix.1 ix.2
    exact ⟨by rw [e1]; exact vp_in_nI e2 (by omega), ⟨rfl, rfl, rfl⟩, rfl, ⟨ht, ix⟩, (hrg ht).2.1 _ e2⟩
theorem c_cell (h : zIC r al ln cap wk lk len ty st bg n rc re D ran rg ce) (p v : Int32) : zXi G yX9_cell wsX9_cell (rmX9_cell 1 6) (zTC r, ad, ln, al) [.ref (ad 0), .int p, .int v] (fun q u => zSame r ad ln u ∧ u.2.2.2 = al ∧ (ran = true ∧ zIx p 4 ∧ zIx v 1024) ∧ q = ce (p.toNatClampNeg * 1024 + v.toNatClampNeg)) (fun E u => zSame r ad ln u ∧ u.2.2.2 = al ∧ ((ran = false ∧ E = "java/lang/IllegalStateException") ∨ (ran = true ∧ ¬ (zIx p 4 ∧ zIx v 1024) ∧ E = "java/lang/IndexOutOfBoundsException"))) := by
  refine zXi.of (cc := cX9_cell) (nL := 4) (rt := .int) (by decide) rfl rfl (Nat.le_of_ble_eq_true rfl) (fun Z X hEZ hR hT => ?_)
  have rm6 : (6 ≤ (rmX9_cell 1 6).frames ∧ 82 ≤ (rmX9_cell 1 6).locals) ∧ 0 + 1 ≤ (rmX9_cell 1 6).cells ∧ 0 + 6 ≤ (rmX9_cell 1 6).slots := ⟨⟨Nat.le_of_ble_eq_true rfl, Nat.le_of_ble_eq_true rfl⟩, Nat.le_of_ble_eq_true rfl, Nat.le_of_ble_eq_true rfl⟩
  have h14 : al 0 14 = zb ran := h.2.2.2.1.2.2.2.2
  have hrg := h.2.2.2.2.2.2.2.2
  have no : ran = false → zB G Z (rmX9_cell 1 6) 4 (zTC r) ad ln 0 0 16 [] [] al := fun hr => zt_cell_16 hT rm6 ⟨⟨rfl, rfl, rfl⟩, rfl, Or.inl ⟨hr, rfl⟩⟩
  have zr : zb ran = 0 → ran = false := fun z => by
    cases ran with
    | false => rfl
    | true => exact absurd z (by decide)
  cases r with
  | false =>
    have hf : ran = false := by
      cases hr : ran with
      | false => rfl
      | true => exact absurd (hrg hr).1 (by decide)
    refine uX9n_cell_0 X 1 6 0 0 (by omega) (by omega) p v (hR (zTC false) ad ln) al ?_
    unfold vcX9n_cell_0
    exact ⟨fun _ => no hf, fun _ => no hf⟩
  | true =>
    refine uX9y_cell_0 X 1 6 0 0 (by omega) (by omega) p v (hR (zTC true) ad ln) al ?_
    unfold vcX9y_cell_0
    rw [h14]
    refine ⟨fun z => no (zr z), fun z => ?_⟩
    have ht : ran = true := by
      cases hr : ran with
      | false => rw [hr] at z; exact absurd rfl z
      | true => rfl
    have two : ¬ (zIx p 4 ∧ zIx v 1024) → BX9y_cell_46 G Z ad ln 1 6 0 0 (by omega) (by omega) p v al := fun hb => zt_cell_46 hT rm6 ⟨⟨rfl, rfl, rfl⟩, rfl, Or.inr ⟨ht, hb, rfl⟩⟩
    refine ⟨fun q => two (fun z => z.1.1 q), fun q => ⟨fun q2 => two (fun z => Int32.not_lt.mpr q2 z.1.2), fun q2 => ⟨fun q3 => two (fun z => z.2.1 q3), fun q3 => ⟨fun q4 => ?_, fun q4 => two (fun z => q4 z.2.2)⟩⟩⟩⟩
    have ix : zIx p 4 := ⟨q, Int32.not_le.mp q2⟩
    have iv : zIx v 1024 := ⟨q3, q4⟩
    obtain ⟨e1, e2⟩ := zInt_rng (by omega) ix.1 ix.2
    obtain ⟨d1, d2⟩ := zInt_rng (by omega) iv.1 iv.2
    have ei : p * 1024 + v = nI (p.toNatClampNeg * 1024 + v.toNatClampNeg) := by
      rw [e1, d1, nI_clamp (by omega), nI_clamp (by omega), show (1024 : Int32) = nI 1024 from rfl, zI_n, zI_n, zI_n, zI_n, zI_mul, zI_add]
      congr 1
    rw [ei, nI_clamp (by omega)]
    exact ⟨vp_in_nI (by omega) (by omega), ⟨rfl, rfl, rfl⟩, rfl, ⟨ht, ix, iv⟩, (hrg ht).2.2 _ (by omega)⟩
/-- the room of the waits once they are known -/
noncomputable def zCpN (wk : Bool) (cap n : Nat) (rc : Nat → zRec) (st : Nat → Nat) : Nat := if wk = true then cap else zCpL cap 0 (zWL n rc st).length
theorem zCpN_ge (wk : Bool) (cap n : Nat) (rc : Nat → zRec) (st : Nat → Nat) : cap ≤ zCpN wk cap n rc st := by
  unfold zCpN
  split
  · exact Nat.le_refl _
  · exact zCpL_ge _ _ _
theorem c_learnWaits (h : zIC r al ln cap wk lk len ty st bg n rc re D ran rg ce) (hn : n ≠ 0) : zMgv G yX9_learnWaits wsX9_learnWaits (rmX9_learnWaits (zCpN wk cap n rc st - cap) (8 * (zCpN wk cap n rc st - cap))) (zTC r, ad, ln, al) [.ref (ad 0)] (fun u => u.1 = zTC r ∧ zGr ad ln u.2.1 u.2.2.1 ∧ zIC r u.2.2.2 u.2.2.1 (zCpN wk cap n rc st) true lk len ty st bg n rc re D ran rg ce) := by
  refine zMgv.of (cc := cX9_learnWaits) (nL := 1) (by decide) rfl (Nat.le_of_ble_eq_true rfl) (fun Z X hR => ?_)
  generalize hcap : zCpN wk cap n rc st = cap' at hR ⊢
  refine uX9_learnWaits_0 X _ _ 0 0 (Nat.zero_le _) (Nat.zero_le _) (hR (zTC r) ad ln) al ?_
  unfold vcX9_learnWaits_0 vcX9_learnWaits_19
  have h11 : al 0 11 = zb wk := h.2.2.2.1.2.1
  rw [h11]
  cases hw : wk with
  | true =>
    rw [hw] at h hcap
    have ec : cap = cap' := by rw [← hcap]; exact (if_pos rfl).symm
    rw [← ec]
    exact ⟨fun _ => ⟨rfl, zGr.rf, h⟩, fun z => absurd z (by decide)⟩
  | false =>
    rw [hw] at h hcap
    have ec : cap' = zCpL cap 0 (zWL n rc st).length := by rw [← hcap]; exact if_neg (by decide)
    refine ⟨fun z => absurd rfl z, fun _ => ?_⟩
    have hge : cap ≤ cap' := by rw [ec]; exact zCpL_ge _ _ _
    obtain ⟨g1, g2, g3, g4, ⟨L, g5⟩, g6, g7, g8, g9⟩ := h
    have hlk : lk = false := by
      cases lk with
      | false => rfl
      | true => exact absurd (g7.1 rfl).1 (by decide)
    have d0 : D = 0 := g7.2 hlk
    refine zb_callVgv (n := 0) X 12 (zTC_lt (by decide)) 8 [6, 4, 0, 15, 16, 17, 18, 19, 0, 0] rfl (C := RX8) (Tt := TX8) (N := 10) rfl (c_learn G r ad ln al g2 (by omega) g5 ec.symm) gX9_learnWaits_X8_learn rfl (by decide +kernel) ⟨⟨Nat.le_of_ble_eq_true rfl, Nat.le_of_ble_eq_true rfl⟩, ?_, ?_⟩ rfl rfl (Nat.le_of_ble_eq_true rfl) dX9_learnWaits_11 (kc' := cap' - cap) (ks' := 8 * (cap' - cap)) (Nat.zero_add _) (Nat.zero_add _) (fun u hu => ?_)
    · show 0 + (cap' - cap) ≤ cap' - cap
      omega
    · show 0 + 8 * (cap' - cap) ≤ 8 * (cap' - cap)
      omega
    · obtain ⟨T', ad', ln', a'⟩ := u
      obtain ⟨rfl, u2, u3, u4⟩ := hu
      have e0 : ad' 0 = ad 0 := (u2 0 (by decide)).1
      rw [← e0]
      refine uX9_learnWaits_14 X _ _ (cap' - cap) (8 * (cap' - cap)) (Nat.le_refl _) (Nat.le_refl _) (hR (zTC r) ad' ln') a' ?_
      unfold vcX9_learnWaits_14 vcX9_learnWaits_19
      have u3' : zFr [12, 13, 14, 15, 16, 17] al a' := u3
      have u4' : zLrn a' ln' n rc st cap' := u4
      have f : zFr [0] a' (up2 a' 0 11 1) := zFr.rf.up (by decide) _ _
      have k4 : zLrn (up2 a' 0 11 1) ln' n rc st cap' := u4'.fr (f 12 (by decide)) (f 13 (by decide)) (f 14 (by decide)) (f 15 (by decide)) (f 16 (by decide))
      have e0j : ∀ j, j ≠ 11 → up2 a' 0 11 1 0 j = al 0 j := fun j hj => by rw [up2_ne _ _ (fun z => hj z.2), u3' 0 (by decide)]
      have ff : zFr [0, 12, 13, 14, 15, 16, 17] al (up2 a' 0 11 1) := (u3'.mono (by decide)).up (by decide) _ _
      refine ⟨rfl, u2, ?_, g2.fr ff (by decide), ?_, ⟨?_, up2_self a' 0 11 1, ?_, ?_, ?_⟩, ⟨_, k4.1⟩, fun _ => ⟨by omega, k4⟩, ⟨fun z => ⟨rfl, (g7.1 z).2⟩, g7.2⟩, fun d => absurd d0 d, fun w => ?_⟩
      · show up2 a' 0 11 1 0 1 = nI len ∧ len ≤ 4096 ∧ ∀ j, j < len → up2 a' 0 11 1 1 j = ty j ∧ zBt (ty j)
        rw [e0j 1 (by decide), ff 1 (by decide)]
        exact g1
      · show ∀ i, i < 32 → up2 a' 0 11 1 3 i = bg i
        rw [ff 3 (by decide)]
        exact g3
      · exact (e0j 10 (by decide)).trans g4.1
      · exact (e0j 12 (by decide)).trans g4.2.2.1
      · exact (e0j 13 (by decide)).trans g4.2.2.2.1
      · exact (e0j 14 (by decide)).trans g4.2.2.2.2
      · show r = true ∧ (∀ i, i < 32 → up2 a' 0 11 1 175 i = rg i) ∧ ∀ i, i < 4096 → up2 a' 0 11 1 174 i = ce i
        rw [ff 175 (by decide), ff 174 (by decide)]
        exact g9 w
/-- .. or not, where there is no loop -/
noncomputable def zCpM (wk : Bool) (cap n : Nat) (rc : Nat → zRec) (st : Nat → Nat) : Nat := if n = 0 then cap else zCpN wk cap n rc st
theorem zCpM_ge (wk : Bool) (cap n : Nat) (rc : Nat → zRec) (st : Nat → Nat) : cap ≤ zCpM wk cap n rc st := by
  unfold zCpM
  split
  · exact Nat.le_refl _
  · exact zCpN_ge _ _ _ _ _
theorem c_countWaits (h : zIC r al ln cap wk lk len ty st bg n rc re D ran rg ce) {k : Nat} (hk : k = 3 ∨ k = 4 ∨ k = 5) : zMgi G yX9_countWaits wsX9_countWaits (rmX9_countWaits (zCpM wk cap n rc st - cap) (8 * (zCpM wk cap n rc st - cap))) (zTC r, ad, ln, al) [.ref (ad 0), .int (nI k)] (fun q u => u.1 = zTC r ∧ zGr ad ln u.2.1 u.2.2.1 ∧ q = zCnt len n rc st re D k ∧ ∃ wk', zIC r u.2.2.2 u.2.2.1 (zCpM wk cap n rc st) wk' lk len ty st bg n rc re D ran rg ce) := by
  refine zMgi.of (cc := cX9_countWaits) (nL := 2) (rt := .int) (by decide) rfl (Nat.le_of_ble_eq_true rfl) (fun Z X hR => ?_)
  generalize hcap : zCpM wk cap n rc st = cap' at hR ⊢
  refine uX9_countWaits_0 X _ _ 0 0 (Nat.zero_le _) (Nat.zero_le _) (nI k) (hR (zTC r) ad ln) al ?_
  unfold vcX9_countWaits_0
  have h41 : al 4 1 = nI n := h.2.1.1.1
  have hn := h.2.1.1.2.1
  rw [h41, show (0 : Int32) = nI 0 from rfl, nI_eq (by omega) (by omega), ← show (0 : Int32) = nI 0 from rfl]
  refine ⟨fun n0 => ?_, fun n0 => ?_⟩
  · have ec : cap' = zCpN wk cap n rc st := by rw [← hcap]; exact if_neg n0
    have M := c_learnWaits G r ad ln al h n0
    rw [← ec] at M
    refine zb_callVgv (n := 0) X 0 (zTC_lt (by decide)) 9 (cdX9 r) rfl (C := RX9) (Tt := TX9) (N := 15) rfl M gX9_countWaits_X9_learnWaits rfl (by decide +kernel) ⟨⟨Nat.le_of_ble_eq_true rfl, Nat.le_of_ble_eq_true rfl⟩, ?_, ?_⟩ rfl rfl (Nat.le_of_ble_eq_true rfl) dX9_countWaits_13 (kc' := cap' - cap) (ks' := 8 * (cap' - cap)) (Nat.zero_add _) (Nat.zero_add _) (fun u hu => ?_)
    · show 0 + (cap' - cap) ≤ cap' - cap
      omega
    · show 0 + 8 * (cap' - cap) ≤ 8 * (cap' - cap)
      omega
    · obtain ⟨T', ad', ln', a'⟩ := u
      obtain ⟨rfl, u2, u3⟩ := hu
      have e0 : ad' 0 = ad 0 := (u2 0 (by decide)).1
      rw [← e0]
      refine uX9_countWaits_16 X _ _ (cap' - cap) (8 * (cap' - cap)) (Nat.le_refl _) (Nat.le_refl _) (nI k) (hR (zTC r) ad' ln') a' ?_
      unfold vcX9_countWaits_16 vcX9_countWaits_53
      have u3' : zIC r a' ln' cap' true lk len ty st bg n rc re D ran rg ce := u3
      obtain ⟨l1, l2, l3⟩ := (u3'.2.2.2.2.2.1 rfl).2
      rcases hk with rfl | rfl | rfl
      · refine ⟨fun z => absurd rfl z, fun _ => ⟨rfl, u2, l1.1, _, u3'⟩⟩
      · refine ⟨fun _ => ⟨fun z => absurd rfl z, fun _ => ⟨rfl, u2, ?_, _, u3'⟩⟩, fun z => absurd z (by decide)⟩
        rw [l2]
        unfold zCnt
        rw [if_neg (by omega), if_neg (by omega), if_neg (by omega), if_neg (by omega), if_pos rfl, if_neg n0]
      · refine ⟨fun _ => ⟨fun _ => ⟨rfl, u2, ?_, _, u3'⟩, fun z => absurd z (by decide)⟩, fun z => absurd z (by decide)⟩
        rw [l3]
        unfold zCnt
        rw [if_neg (by omega), if_neg (by omega), if_neg (by omega), if_neg (by omega), if_neg (by omega), if_pos rfl, if_neg n0]
  · have ec : cap = cap' := by rw [← hcap]; exact (if_pos n0).symm
    rw [← ec]
    refine ⟨rfl, zGr.rf, ?_, wk, h⟩
    subst n0
    rcases hk with rfl | rfl | rfl
    · rfl
    · rfl
    · rfl
theorem c_countLaying (h : zIC r al ln cap wk lk len ty st bg n rc re D ran rg ce) (d : D ≠ 0) {k : Nat} (hk : 6 ≤ k ∧ k < 12) : zMi G yX9_countLaying wsX9_countLaying rmX9_countLaying (zTC r) ad ln [.ref (ad 0), .int (nI k)] al (fun q a => q = zCnt len n rc st re D k ∧ a = al) := by
  refine zMi.of (cc := cX9_countLaying) (nL := 2) (rt := .int) (by decide) rfl (Nat.le_of_ble_eq_true rfl) (fun Z X hR => ?_)
  refine tX9_countLaying_0 X _ hR al ?_
  unfold vcX9_countLaying_0
  have h13 : al 0 13 = nI D := h.2.2.2.1.2.2.2.1
  obtain ⟨hD, hD2⟩ := h.dle r ln
  obtain ⟨n0, hlk, eD⟩ := hD2 d
  obtain ⟨l1, l2, l3, l4, sz, off, l5, l6, l7, l8⟩ := h.2.2.2.2.2.2.2.1 d
  have gd := h.gd r ln n0
  obtain ⟨y1, y2, y3⟩ := zLy_ok (us := zUsC n rc) gd (by rw [← eD]; exact d)
  rw [← eD] at y1 y2 y3
  obtain ⟨cy1, cy2, cy3, cy4, cy5⟩ := zCy_ok gd y1 y3 y2.1
  rcases (show k = 6 ∨ k = 7 ∨ k = 8 ∨ k = 9 ∨ k = 10 ∨ k = 11 by omega) with rfl | rfl | rfl | rfl | rfl | rfl
  · exact ⟨fun _ => ⟨h13, rfl⟩, fun z => absurd rfl z⟩
  · refine ⟨fun z => absurd z (by decide), fun _ => ⟨fun _ => ?_, fun z => absurd rfl z⟩⟩
    rw [l2, h13, zI_n D]
    refine (c_quotient G r ad ln al (x := zGt n rc st D) (y := (D : Int)) ⟨by omega, by omega⟩ ⟨by omega, by omega⟩ (by omega)).mono (fun q a hq => ?_)
    obtain ⟨rfl, rfl⟩ := hq
    refine ⟨?_, rfl⟩
    rw [zI_1, zI_add]
    unfold zCnt
    rw [if_neg (by omega), if_neg (by omega), if_neg (by omega), if_neg (by omega), if_neg (by omega), if_neg (by omega), if_neg (by omega), if_neg d, if_pos rfl]
  · refine ⟨fun z => absurd z (by decide), fun _ => ⟨fun z => absurd z (by decide), fun _ => ⟨fun _ => ⟨?_, rfl⟩, fun z => absurd rfl z⟩⟩⟩
    rw [l1]
    unfold zCnt
    rw [if_neg (by omega), if_neg (by omega), if_neg (by omega), if_neg (by omega), if_neg (by omega), if_neg (by omega), if_neg (by omega), if_neg d, if_neg (by omega), if_pos rfl]
  · refine ⟨fun z => absurd z (by decide), fun _ => ⟨fun z => absurd z (by decide), fun _ => ⟨fun z => absurd z (by decide), fun _ => ⟨fun _ => ⟨?_, rfl⟩, fun z => absurd rfl z⟩⟩⟩⟩
    rw [l2]
    unfold zCnt
    rw [if_neg (by omega), if_neg (by omega), if_neg (by omega), if_neg (by omega), if_neg (by omega), if_neg (by omega), if_neg (by omega), if_neg d, if_neg (by omega), if_neg (by omega), if_pos rfl]
  · refine ⟨fun z => absurd z (by decide), fun _ => ⟨fun z => absurd z (by decide), fun _ => ⟨fun z => absurd z (by decide), fun _ => ⟨fun z => absurd z (by decide), fun _ => ⟨fun _ => ⟨?_, rfl⟩, fun z => absurd rfl z⟩⟩⟩⟩⟩
    rw [l4]
    unfold zCnt
    rw [if_neg (by omega), if_neg (by omega), if_neg (by omega), if_neg (by omega), if_neg (by omega), if_neg (by omega), if_neg (by omega), if_neg d, if_neg (by omega), if_neg (by omega), if_neg (by omega), if_pos rfl]
  · refine ⟨fun z => absurd z (by decide), fun _ => ⟨fun z => absurd z (by decide), fun _ => ⟨fun z => absurd z (by decide), fun _ => ⟨fun z => absurd z (by decide), fun _ => ⟨fun z => absurd z (by decide), fun _ => ⟨?_, rfl⟩⟩⟩⟩⟩⟩
    rw [l7]
    unfold zCnt
    rw [if_neg (by omega), if_neg (by omega), if_neg (by omega), if_neg (by omega), if_neg (by omega), if_neg (by omega), if_neg (by omega), if_neg d, if_neg (by omega), if_neg (by omega), if_neg (by omega), if_neg (by omega)]
    unfold zSzO
    rw [l5]
theorem c_count (h : zIC r al ln cap wk lk len ty st bg n rc re D ran rg ce) (p : Int32) : zXi G yX9_count wsX9_count (rmX9_count (1 + (zCpM wk cap n rc st - cap)) (6 + 8 * (zCpM wk cap n rc st - cap))) (zTC r, ad, ln, al) [.ref (ad 0), .int p] (fun q u => u.1 = zTC r ∧ zGr ad ln u.2.1 u.2.2.1 ∧ zIx p 12 ∧ q = zCnt len n rc st re D p.toNatClampNeg ∧ ∃ cap' wk', cap ≤ cap' ∧ cap' ≤ zCpM wk cap n rc st ∧ zIC r u.2.2.2 u.2.2.1 cap' wk' lk len ty st bg n rc re D ran rg ce) (fun E u => zSame r ad ln u ∧ u.2.2.2 = al ∧ ¬ zIx p 12 ∧ E = "java/lang/IllegalArgumentException") := by
  refine zXi.of (cc := cX9_count) (nL := 2) (rt := .int) (by decide) rfl rfl (Nat.le_of_ble_eq_true rfl) (fun Z X hEZ hR hT => ?_)
  have hge := zCpM_ge wk cap n rc st
  refine uX9_count_0 X _ _ 0 0 (Nat.zero_le _) (Nat.zero_le _) p (hR (zTC r) ad ln) al ?_
  unfold vcX9_count_0 vcX9_count_55 vcX9_count_83
  have h13 : al 0 13 = nI D := h.2.2.2.1.2.2.2.1
  have h41 : al 4 1 = nI n := h.2.1.1.1
  obtain ⟨hD, hD2⟩ := h.dle r ln
  have thr : ¬ zIx p 12 → BX9_count_10 G Z r ad ln (1 + (zCpM wk cap n rc st - cap)) (6 + 8 * (zCpM wk cap n rc st - cap)) 0 0 (Nat.zero_le _) (Nat.zero_le _) p al := fun hb => zt_count_10 hT ⟨⟨Nat.le_of_ble_eq_true rfl, Nat.le_of_ble_eq_true rfl⟩, by show 0 + 1 ≤ 1 + (zCpM wk cap n rc st - cap); omega, by show 0 + 6 ≤ 6 + 8 * (zCpM wk cap n rc st - cap); omega⟩ ⟨⟨rfl, rfl, rfl⟩, rfl, hb, rfl⟩
  have le12 : p ≤ 11 ↔ p < nI 12 := zInt_le (m := 11) (by omega)
  refine ⟨fun q => thr (fun z => z.1 q), fun q => ⟨fun q2 => ?_, fun q2 => thr (fun z => q2 (le12.mpr z.2))⟩⟩
  have ix : zIx p 12 := ⟨q, le12.mp q2⟩
  obtain ⟨e1, e2⟩ := zInt_rng (by omega) ix.1 ix.2
  have hkk : ∃ k, k < 12 ∧ p = nI k := ⟨_, e2, e1⟩
  clear e1 e2 thr
  obtain ⟨k, hk2, rfl⟩ := hkk
  have fin : ∀ (q : Int32), q = zCnt len n rc st re D k → (zTC r, ad, ln, al).1 = zTC r ∧ zGr ad ln ad ln ∧ zIx (nI k) 12 ∧ q = zCnt len n rc st re D (nI k).toNatClampNeg ∧ ∃ cap' wk', cap ≤ cap' ∧ cap' ≤ zCpM wk cap n rc st ∧ zIC r al ln cap' wk' lk len ty st bg n rc re D ran rg ce := fun q hq => ⟨rfl, zGr.rf, ix, by rw [nI_clamp (by omega)]; exact hq, cap, wk, Nat.le_refl _, hge, h⟩
  rw [h13, h41, show (2 : Int32) = nI 2 from rfl, show (5 : Int32) = nI 5 from rfl, nI_ltI (by omega) (by omega), nI_ltI (by omega) (by omega), show (0 : Int32) = nI 0 from rfl, nI_eq (a := D) (by omega) (by omega), nI_eq (a := k) (b := 0) (by omega) (by omega), show (1 : Int32) = nI 1 from rfl, nI_eq (a := k) (b := 1) (by omega) (by omega), ← show (0 : Int32) = nI 0 from rfl]
  refine ⟨fun k2 => ⟨fun k5 => ⟨fun d => ?_, fun d => fin _ ?_⟩, fun k5 => ?_⟩, fun k2 => ⟨fun k0 => ⟨fun k1 => fin _ ?_, fun k1 => fin _ ?_⟩, fun k0 => fin _ ?_⟩⟩
  · refine (c_countLaying G r ad ln al h d (k := k) (by omega)).mono (fun q6 a6 hq => ?_)
    obtain ⟨rfl, e6⟩ := hq
    obtain rfl := e6.symm
    exact fin _ rfl
  · unfold zCnt
    rw [if_neg (by omega), if_neg (by omega), if_neg (by omega), if_neg (by omega), if_neg (by omega), if_neg (by omega)]
    by_cases q6 : k = 6
    · rw [if_pos q6, d]
      rfl
    · rw [if_neg q6, if_pos d]
  · refine zb_callVgi (n := 1) X 0 (zTC_lt (by decide)) 9 (cdX9 r) rfl (C := RX9) (Tt := TX9) (N := 15) rfl (c_countWaits G r ad ln al h (k := k) (by omega)) gX9_count_X9_countWaits rfl (by decide +kernel) ⟨⟨Nat.le_of_ble_eq_true rfl, Nat.le_of_ble_eq_true rfl⟩, ?_, ?_⟩ rfl rfl (Nat.le_of_ble_eq_true rfl) dX9_count_63 (kc' := zCpM wk cap n rc st - cap) (ks' := 8 * (zCpM wk cap n rc st - cap)) (Nat.zero_add _) (Nat.zero_add _) (fun q u hu => ?_)
    · show 0 + (zCpM wk cap n rc st - cap) ≤ 1 + (zCpM wk cap n rc st - cap)
      omega
    · show 0 + 8 * (zCpM wk cap n rc st - cap) ≤ 6 + 8 * (zCpM wk cap n rc st - cap)
      omega
    · obtain ⟨T', ad', ln', a'⟩ := u
      obtain ⟨rfl, u2, u3, wk', u4⟩ := hu
      refine uX9_count_66 X _ _ (zCpM wk cap n rc st - cap) (8 * (zCpM wk cap n rc st - cap)) (by omega) (by omega) (nI k) (hR (zTC r) ad' ln') _ a' ?_
      unfold vcX9_count_66
      refine ⟨rfl, u2, ix, ?_, _, wk', hge, Nat.le_refl _, u4⟩
      rw [nI_clamp (by omega)]
      exact u3
  · have : k = 2 := by omega
    subst this
    exact h.1.1
  · subst k1
    exact h.2.2.2.1.1
  · subst k0
    rfl
end CLS2
