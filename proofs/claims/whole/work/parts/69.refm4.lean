/-! THE REFERENCE: count -/
noncomputable def zSzO (n : Nat) (rc : Nat → zRec) (st : Nat → Nat) (us : Nat → Nat → Bool) (D : Nat) : Nat := match lF n rc st us D with
  | some (sz, _) => sz
  | none => 0
/-- what is counted -/
noncomputable def zCnt (len n : Nat) (rc : Nat → zRec) (st : Nat → Nat) (re : Int32) (D k : Nat) : Int32 :=
  if k = 0 then nI n else if k = 1 then re else if k = 2 then nI len else if k = 3 then nI (zWL n rc st).length
  else if k = 4 then (if n = 0 then 0 else nI (zLu (fun x => rKd (rc x)) st n 4)) else if k = 5 then (if n = 0 then 0 else nI (zCi n rc st))
  else if k = 6 then nI D else if D = 0 then 0 else if k = 7 then zI (zGt n rc st D / (D : Int) + 1) else if k = 8 then nI (zFl n rc st D).2.1
  else if k = 9 then zI (zGt n rc st D) else if k = 10 then zI (lNd n rc st (zUsC n rc) D) else nI (zSzO n rc st (zUsC n rc) D)
theorem zLy_ok {n : Nat} {rc : Nat → zRec} {st : Nat → Nat} {us : Nat → Nat → Bool} (g : zGd n rc st) (h : zLy n rc st us ≠ 0) : (1 ≤ zLy n rc st us ∧ zLy n rc st us ≤ 200) ∧ zOkD n rc st us (zLy n rc st us) ∧ zFe (zWL n rc st).length (wF (zWL n rc st)) (wT (zWL n rc st)) (wO (zWL n rc st)) (wD (zWL n rc st)) (zLy n rc st us) := by
  have hc : ∃ c, zLcIs (zWL n rc st).length (wF (zWL n rc st)) (wT (zWL n rc st)) (wO (zWL n rc st)) (wD (zWL n rc st)) c := by
    have h960 := zFe_WL g
    -- the least
    have : ∀ k : Nat, zFe (zWL n rc st).length (wF (zWL n rc st)) (wT (zWL n rc st)) (wO (zWL n rc st)) (wD (zWL n rc st)) (k + 1) → k + 1 ≤ 960 → ∃ c, zLcIs (zWL n rc st).length (wF (zWL n rc st)) (wT (zWL n rc st)) (wO (zWL n rc st)) (wD (zWL n rc st)) c := by
      intro k
      induction k with
      | zero => intro h1 _; exact ⟨1, by omega, by omega, h1, fun D d1 d2 => absurd d2 (by omega)⟩
      | succ k ih =>
        intro h1 h2
        by_cases q : zFe (zWL n rc st).length (wF (zWL n rc st)) (wT (zWL n rc st)) (wO (zWL n rc st)) (wD (zWL n rc st)) (k + 1)
        · exact ih q (by omega)
        · exact ⟨k + 2, by omega, h2, h1, fun D d1 d2 z => q (zFe_mono z (by omega))⟩
    exact this 959 h960 (by omega)
  obtain ⟨c, hc⟩ := hc
  have ec := zCi_eq hc
  have h5 : zLyF n rc st us (201 - zD0 n rc st) (zD0 n rc st) ≠ 0 := h
  rcases zLyF_rng n rc st us (201 - zD0 n rc st) (zD0 n rc st) with z | ⟨z1, z2, z3⟩
  · exact absurd z h5
  · have d0 : c ≤ zD0 n rc st := by
      unfold zD0
      rw [← ec]
      split <;> omega
    have e : zLy n rc st us = zLyF n rc st us (201 - zD0 n rc st) (zD0 n rc st) := rfl
    obtain ⟨c1, c2, c3, c4⟩ := hc
    refine ⟨by omega, z3, ?_⟩
    rw [e]
    exact zFe_mono c3 (by omega)
section REFM4
variable (G : zG) (ad ln : Nat → Nat) (al : Nat → Nat → Int32) {len : Nat} {ty : Nat → Int32} {st : Nat → Nat} {bg : Nat → Int32} {n : Nat} {rc : Nat → zRec} {re : Int32} {D : Nat} {ran : Bool} {rg ce : Nat → Int32}
theorem zIR.gd {a : Nat → Nat → Int32} (h : zIR a ln len ty st bg n rc re D ran rg ce) (hn : n ≠ 0) : zGd n rc st := ⟨by omega, h.2.2.2.1.2.1, fun x hx => (h.2.2.2.1.2.2 x hx).2, fun j hj => (h.2.1.1 j hj).2, h.2.1.2.2⟩
theorem r_count (h : zIR al ln len ty st bg n rc re D ran rg ce) (p : Int32) : zMi G yX11_count wsX11_count rmX11_count zTR ad ln [.ref (ad 0), .int p] al (fun q a => zIR a ln len ty st bg n rc re D ran rg ce ∧ (¬ zIx p 12 → a 0 50 = 1) ∧ (zIx p 12 → a 0 50 = 0 ∧ q = zCnt len n rc st re D p.toNatClampNeg)) := by
  refine zMi.of (cc := cX11_count) (nL := 5) (rt := .int) (by decide) rfl (Nat.le_of_ble_eq_true rfl) (fun Z X hR => ?_)
  generalize hP : (fun (q : Int32) (a : Nat → Nat → Int32) => zIR a ln len ty st bg n rc re D ran rg ce ∧ (¬ zIx p 12 → a 0 50 = 1) ∧ (zIx p 12 → a 0 50 = 0 ∧ q = zCnt len n rc st re D p.toNatClampNeg)) = P at hR
  have h33 : al 0 33 = nI D := h.2.2.2.2.2.2.2.1
  have h9 : al 0 9 = nI n := h.2.2.2.1.1
  have h46 : al 0 46 = (if n = 0 then 0 else 1) := h.2.2.2.2.2.1
  have hn := h.2.2.2.1.2.1
  have hlD : D ≠ 0 → n ≠ 0 ∧ D = zLy n rc st (zUsC n rc) ∧ zRl al n rc st (zUsC n rc) D := fun d => by
    obtain ⟨a, b, c⟩ := h.2.2.2.2.2.2.2.2.1.resolve_left d
    exact ⟨by omega, b, c⟩
  have hD : D ≤ 200 := by
    by_cases d : D = 0
    · omega
    · obtain ⟨a, b, c⟩ := hlD d
      have := (zLy_ok (us := zUsC n rc) (h.gd ln a) (by rw [← b]; exact d)).1
      omega
  have ir := h.u50 ln 0
  have fin : ∀ (k : Nat) (q : Int32) (a : Nat → Nat → Int32), k < 12 → p = nI k → zIR a ln len ty st bg n rc re D ran rg ce → a 0 50 = 0 → q = zCnt len n rc st re D k → P q a := by
    intro k q a hk hp ha h5 hq
    rw [← hP]
    refine ⟨ha, fun z => absurd ?_ z, fun _ => ⟨h5, by rw [hp, nI_clamp (by omega)]; exact hq⟩⟩
    rw [hp]
    refine ⟨?_, (nI_ltI (by omega) (by omega)).mpr hk⟩
    rw [show (0 : Int32) = nI 0 from rfl, nI_ltI (by omega) (by omega)]
    omega
  have t0 : up2 al 0 50 0 0 50 = 0 := up2_self _ _ _ _
  -- the greatest cycle
  have loop : p = nI 9 → D ≠ 0 → ∀ (f x : Nat), x + f = n → BX11_count_176 G Z ad ln p 1 (zI (zLs (zCy n rc st D) (fun _ => 0) x)) (nI x) (up2 al 0 50 0) := by
    intro hp d
    obtain ⟨n0, eD, hl⟩ := hlD d
    have gd := h.gd ln n0
    obtain ⟨l1, l2, l3⟩ := zLy_ok (us := zUsC n rc) gd (by rw [← eD]; exact d)
    rw [← eD] at l1 l2 l3
    obtain ⟨cy1, cy2, cy3, cy4, cy5⟩ := zCy_ok gd l1 l3 l2.1
    have rg1 : ∀ x, x ≤ n → 0 ≤ zLs (zCy n rc st D) (fun _ => 0) x ∧ zLs (zCy n rc st D) (fun _ => 0) x ≤ 100000 := by
      intro x
      induction x with
      | zero => intro _; exact ⟨Int.le_refl _, by show (0 : Int) ≤ 100000; omega⟩
      | succ x ih =>
        intro hx
        have := ih (by omega)
        have := cy2 x (by omega)
        show 0 ≤ zmx (zLs (zCy n rc st D) (fun _ => 0) x) (zCy n rc st D x + ((0 : Nat) : Int)) ∧ zmx (zLs (zCy n rc st D) (fun _ => 0) x) (zCy n rc st D x + ((0 : Nat) : Int)) ≤ 100000
        unfold zmx
        split <;> omega
    intro f
    induction f with
    | zero =>
      intro x hx
      refine uX11_count_176 X p hR _ _ _ _ ?_
      unfold vcX11_count_176 vcX11_count_207
      have : x = n := by omega
      subst this
      rw [up2_ne _ _ (by decide), h9]
      refine ⟨fun z => absurd z (by decide), fun _ => ⟨fun _ => fin 9 _ _ (by omega) hp ir t0 ?_, fun z => absurd (Int32.le_refl _) z⟩⟩
      unfold zCnt
      rw [if_neg (by omega), if_neg (by omega), if_neg (by omega), if_neg (by omega), if_neg (by omega), if_neg (by omega), if_neg (by omega), if_neg d, if_neg (by omega), if_neg (by omega), if_pos rfl]
      congr 1
      have e : zLs (zCy x rc st D) (fun _ => 0) x = zLs (fun y => (zFl x rc st D).1 y - sMin (zFl x rc st D).1 x) (fun _ => 0) x := rfl
      rw [e, zLs_mx (fun y hy => (cy1 y hy).1) x (Nat.le_refl _) (by omega)]
      unfold zGt at cy3 ⊢
      unfold zmx
      split <;> omega
    | succ f ih =>
      intro x hx
      refine uX11_count_176 X p hR _ _ _ _ ?_
      unfold vcX11_count_176
      have g1 := rg1 x (by omega)
      have g2 := cy2 x (by omega)
      rw [up2_ne _ _ (by decide), h9, nI_leI (by omega) (by omega), nI_clamp (by omega), up2_name _ _ _ (by decide), (hl.2.2.1 x (by omega)).1, zI_mx ⟨by omega, by omega⟩ ⟨by omega, by omega⟩, nI_1]
      refine ⟨fun z => absurd z (by decide), fun _ => ⟨fun z => absurd z (by omega), fun _ => ⟨vp_in_nI (by omega) (by omega), ?_⟩⟩⟩
      have es : zmx (zLs (zCy n rc st D) (fun _ => 0) x) (zCy n rc st D x) = zLs (zCy n rc st D) (fun _ => 0) (x + 1) := by
        show _ = zmx (zLs (zCy n rc st D) (fun _ => 0) x) (zCy n rc st D x + ((0 : Nat) : Int))
        rw [show ((0 : Nat) : Int) = 0 from rfl, Int.add_zero]
      rw [es]
      exact ih (x + 1) (by omega)
  have core : ∀ b : Bool, (b = true ↔ D ≠ 0) → vcX11_count_17 G ad ln p (BX11_count_176 G Z ad ln p) P (zb b) (up2 al 0 50 0) := by
    intro b hb
    have zb0 : zb b = 0 ↔ D = 0 := by
      cases b with
      | false => exact ⟨fun _ => Decidable.byContradiction (fun z => by have := hb.mpr z; cases this), fun _ => rfl⟩
      | true => exact ⟨fun z => absurd z (by decide), fun z => absurd z (hb.mp rfl)⟩
    unfold vcX11_count_17 vcX11_count_119 vcX11_count_139 vcX11_count_157 vcX11_count_170 vcX11_count_221 vcX11_count_234
    rw [zb0, up2_ne al _ (show ¬ (0 = 0 ∧ 9 = 50) by decide), up2_ne al _ (show ¬ (0 = 0 ∧ 48 = 50) by decide), up2_ne al _ (show ¬ (0 = 0 ∧ 11 = 50) by decide), up2_ne al _ (show ¬ (0 = 0 ∧ 46 = 50) by decide), up2_ne al _ (show ¬ (0 = 0 ∧ 33 = 50) by decide), up2_ne al _ (show ¬ (0 = 0 ∧ 35 = 50) by decide), up2_ne al _ (show ¬ (0 = 0 ∧ 34 = 50) by decide), up2_ne al _ (show ¬ (0 = 0 ∧ 40 = 50) by decide), up2_ne al _ (show ¬ (0 = 0 ∧ 41 = 50) by decide)]
    have sk : ∀ k, 6 < k → D = 0 → (0 : Int32) = zCnt len n rc st re D k := by
      intro k hk d
      unfold zCnt
      rw [if_neg (by omega), if_neg (by omega), if_neg (by omega), if_neg (by omega), if_neg (by omega), if_neg (by omega), if_neg (by omega), if_pos d]
    refine ⟨fun z => fin 0 _ _ (by omega) z ir t0 h9, fun z0 => ⟨fun z => fin 1 _ _ (by omega) z ir t0 h.2.2.2.2.2.2.1, fun z1 => ⟨fun z => fin 2 _ _ (by omega) z ir t0 h.1.1, fun z2 => ⟨fun z => ?_, fun z3 => ⟨fun z => ⟨fun y => ?_, fun y => ?_⟩, fun z4 => ⟨fun z => ?_, fun z5 => ⟨fun z => fin 6 _ _ (by omega) z ir t0 h33, fun z6 => ⟨fun z => ⟨fun y => fin 7 _ _ (by omega) z ir t0 (sk 7 (by omega) y), fun y => fin 7 _ _ (by omega) z ir t0 ?_⟩, fun z7 => ⟨fun z => ⟨fun y => fin 8 _ _ (by omega) z ir t0 (sk 8 (by omega) y), fun y => fin 8 _ _ (by omega) z ir t0 ?_⟩, fun z8 => ⟨fun z => ?_, fun z9 => ⟨fun z => ⟨fun y => fin 10 _ _ (by omega) z ir t0 (sk 10 (by omega) y), fun y => fin 10 _ _ (by omega) z ir t0 ?_⟩, fun z10 => ⟨fun z => ⟨fun y => fin 11 _ _ (by omega) z ir t0 (sk 11 (by omega) y), fun y => fin 11 _ _ (by omega) z ir t0 ?_⟩, fun z11 => ?_⟩⟩⟩⟩⟩⟩⟩⟩⟩⟩⟩⟩
    · refine (r_findWaits G ad ln _ ir.2.2.2.1 ir.2.1).mono (fun a5 hq => ?_)
      obtain ⟨f5, j5, w5⟩ := hq
      exact fin 3 _ _ (by omega) z (ir.fr ln f5 (fun j j1 _ => j5 j j1) (by decide)) (by rw [j5 50 (by decide)]; exact t0) w5.1
    · rw [h46] at y
      have n0 : n = 0 := Decidable.byContradiction (fun n0 => by rw [if_neg n0] at y; exact absurd y (by decide))
      refine fin 4 _ _ (by omega) z ir t0 ?_
      unfold zCnt
      rw [if_neg (by omega), if_neg (by omega), if_neg (by omega), if_neg (by omega), if_pos rfl, if_pos n0]
    · rw [h46] at y
      have n0 : n ≠ 0 := fun n0 => by rw [if_pos n0] at y; exact absurd rfl y
      refine (r_leastByUnits G ad ln _ ir.2.2.2.1 (by omega) ir.2.1).mono (fun q7 a7 hq => ?_)
      obtain ⟨rfl, e⟩ := hq
      obtain rfl := e.symm
      refine fin 4 _ _ (by omega) z ir t0 ?_
      unfold zCnt
      rw [if_neg (by omega), if_neg (by omega), if_neg (by omega), if_neg (by omega), if_pos rfl, if_neg n0]
    · refine (r_findWaits G ad ln _ ir.2.2.2.1 ir.2.1).mono (fun a7 hq => ?_)
      obtain ⟨f7, j7, w7⟩ := hq
      have ir7 : zIR a7 ln len ty st bg n rc re D ran rg ce := ir.fr ln f7 (fun j j1 _ => j7 j j1) (by decide)
      have t7 : a7 0 50 = 0 := by rw [j7 50 (by decide)]; exact t0
      rw [ir7.2.2.2.2.2.1]
      refine ⟨fun y => ?_, fun y => ?_⟩
      · have n0 : n = 0 := Decidable.byContradiction (fun n0 => by rw [if_neg n0] at y; exact absurd y (by decide))
        refine fin 5 _ _ (by omega) z ir7 t7 ?_
        unfold zCnt
        rw [if_neg (by omega), if_neg (by omega), if_neg (by omega), if_neg (by omega), if_neg (by omega), if_pos rfl, if_pos n0]
      · have n0 : n ≠ 0 := fun n0 => by rw [if_pos n0] at y; exact absurd rfl y
        have gd := h.gd ln n0
        have w7' : zWr a7 (zWL n rc st) := w7
        refine (r_leastByCircles G ad ln _ (w7'.wf gd ir7.2.2.2.1.1) (zFe_WL gd)).mono (fun q9 a9 hq => ?_)
        obtain ⟨f9, cc, rfl, hcc⟩ := hq
        refine fin 5 _ _ (by omega) z (ir7.fr ln f9 (fun j _ _ => by rw [f9 0 (by decide)]) (by decide)) (by rw [f9 0 (by decide)]; exact t7) ?_
        unfold zCnt
        rw [if_neg (by omega), if_neg (by omega), if_neg (by omega), if_neg (by omega), if_neg (by omega), if_pos rfl, if_neg n0, zCi_eq hcc]
    · obtain ⟨n0, eD, hl⟩ := hlD y
      rw [hl.2.1]
      unfold zCnt
      rw [if_neg (by omega), if_neg (by omega), if_neg (by omega), if_neg (by omega), if_neg (by omega), if_neg (by omega), if_neg (by omega), if_neg y, if_pos rfl]
    · obtain ⟨n0, eD, hl⟩ := hlD y
      rw [hl.1]
      unfold zCnt
      rw [if_neg (by omega), if_neg (by omega), if_neg (by omega), if_neg (by omega), if_neg (by omega), if_neg (by omega), if_neg (by omega), if_neg y, if_neg (by omega), if_pos rfl]
    · by_cases d : D = 0
      · have hb0 : b = false := by
          cases b with
          | false => rfl
          | true => exact absurd d (hb.mp rfl)
        subst hb0
        refine uX11_count_176 X p hR _ _ _ _ ?_
        unfold vcX11_count_176 vcX11_count_207
        exact ⟨fun _ => fin 9 _ _ (by omega) z ir t0 (sk 9 (by omega) d), fun y => absurd rfl y⟩
      · have hb1 : b = true := hb.mpr d
        subst hb1
        exact loop z d n 0 (by omega)
    · obtain ⟨n0, eD, hl⟩ := hlD y
      rw [hl.2.2.2.1]
      unfold zCnt
      rw [if_neg (by omega), if_neg (by omega), if_neg (by omega), if_neg (by omega), if_neg (by omega), if_neg (by omega), if_neg (by omega), if_neg y, if_neg (by omega), if_neg (by omega), if_neg (by omega), if_pos rfl]
    · obtain ⟨n0, eD, l1, l2, l3, l4, sz, off, l5, l6, l7, l8⟩ := hlD y
      rw [l7]
      unfold zCnt
      rw [if_neg (by omega), if_neg (by omega), if_neg (by omega), if_neg (by omega), if_neg (by omega), if_neg (by omega), if_neg (by omega), if_neg y, if_neg (by omega), if_neg (by omega), if_neg (by omega), if_neg (by omega)]
      unfold zSzO
      rw [l5]
    · refine (r_no G ad ln _ 1).mono (fun q a hq => ?_)
      obtain ⟨-, rfl⟩ := hq
      rw [← hP]
      refine ⟨ir.u50 ln 1, fun _ => up2_self _ _ _ _, fun z => ?_⟩
      exfalso
      obtain ⟨e3, e4⟩ := zInt_rng (by omega) z.1 z.2
      generalize p.toNatClampNeg = k at e3 e4
      rcases (show k = 0 ∨ k = 1 ∨ k = 2 ∨ k = 3 ∨ k = 4 ∨ k = 5 ∨ k = 6 ∨ k = 7 ∨ k = 8 ∨ k = 9 ∨ k = 10 ∨ k = 11 by omega) with rfl | rfl | rfl | rfl | rfl | rfl | rfl | rfl | rfl | rfl | rfl | rfl
      · exact z0 e3
      · exact z1 e3
      · exact z2 e3
      · exact z3 e3
      · exact z4 e3
      · exact z5 e3
      · exact z6 e3
      · exact z7 e3
      · exact z8 e3
      · exact z9 e3
      · exact z10 e3
      · exact z11 e3
  refine uX11_count_0 X _ hR al ?_
  unfold vcX11_count_0
  rw [h33, show (0 : Int32) = nI 0 from rfl, nI_leI (by omega) (by omega), ← show (0 : Int32) = nI 0 from rfl]
  exact ⟨fun d => core false ⟨fun z => (by cases z), fun z => absurd (by omega) z⟩, fun d => core true ⟨fun _ => by omega, fun _ => rfl⟩⟩
end REFM4
