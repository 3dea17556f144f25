-- needs: 5d
/-! THE REFERENCE: all the laying -/
section REFL
variable (G : zG) (ad ln : Nat → Nat) (al : Nat → Nat → Int32) {n : Nat} {rc : Nat → zRec} {st : Nat → Nat} {us : Nat → Nat → Bool}
def zLGn : List Nat := [0, 12, 13, 14, 15, 17, 18, 19, 20, 21, 22, 23] ++ zLG
abbrev zNo6 (a b : Nat → Nat → Int32) : Prop := ∀ j, j ≠ 28 → j ≠ 33 → j ≠ 34 → j ≠ 35 → j ≠ 40 → j ≠ 41 → b 0 j = a 0 j
/-- what the reference keeps of a loop that is laid -/
def zRl (a : Nat → Nat → Int32) (n : Nat) (rc : Nat → zRec) (st : Nat → Nat) (us : Nat → Nat → Bool) (D : Nat) : Prop := a 0 34 = nI (zFl n rc st D).2.1 ∧ a 0 35 = zI (zGt n rc st D / (D : Int) + 1) ∧ (∀ x, x < n → a 17 x = zI (zCy n rc st D x) ∧ a 19 x = zI (zHt n rc st D x) ∧ a 20 x = zI (lB n rc st us D x) ∧ a 21 x = zI (lE n rc st us D x)) ∧ a 0 40 = zI (lNd n rc st us D) ∧ ∃ sz off, lF n rc st us D = some (sz, off) ∧ (1 ≤ sz ∧ sz ≤ 128) ∧ a 0 41 = nI sz ∧ ∀ x, x < n → a 22 x = zI (off x)
theorem zWr.wf {a : Nat → Nat → Int32} (h : zWr a (zWL n rc st)) (g : zGd n rc st) (h9 : a 0 9 = nI n) : zWf a n (zWL n rc st).length (wF (zWL n rc st)) (wT (zWL n rc st)) (wO (zWL n rc st)) (wD (zWL n rc st)) := by
  obtain ⟨w1, w2⟩ := zWL_ok g
  refine ⟨h.1, w1, h9, g.2.1, fun i hi => ⟨h.2 i _ (wG hi), ?_⟩⟩
  obtain ⟨a, b, c, d, e⟩ := w2 i hi
  exact ⟨a, b, c, d⟩
theorem r_layAll (h1 : zRr al n rc) (h2 : zRst al st) (hn0 : 0 < n) (hus : ∀ x y, x < n → y < n → us x y = zUsX rc x y) : zMi G yX11_layAll wsX11_layAll rmX11_layAll zTR ad ln [.ref (ad 0)] al (fun _ a => zFr zLGn al a ∧ zNo6 al a ∧ zWr a (zWL n rc st) ∧ a 0 33 = nI (zLy n rc st us) ∧ (zLy n rc st us ≠ 0 → zRl a n rc st us (zLy n rc st us))) := by
  refine zMi.of (cc := cX11_layAll) (nL := 5) (rt := .boolean) (by decide) rfl (Nat.le_of_ble_eq_true rfl) (fun Z X hR => ?_)
  generalize hP : (fun (_ : Int32) (a : Nat → Nat → Int32) => zFr zLGn al a ∧ zNo6 al a ∧ zWr a (zWL n rc st) ∧ a 0 33 = nI (zLy n rc st us) ∧ (zLy n rc st us ≠ 0 → zRl a n rc st us (zLy n rc st us))) = P at hR
  have gd : zGd n rc st := ⟨hn0, h1.2.1, fun x hx => (h1.2.2 x hx).2, fun j hj => (h2.1 j hj).2, h2.2.2⟩
  have hn := h1.2.1
  obtain ⟨wl, wi⟩ := zWL_ok gd
  have inv : ∀ a, zFr zLGn al a → zNo6 al a → zRr a n rc ∧ zRst a st := by
    intro a hf hj
    exact ⟨h1.fr hf (hj 9 (by decide) (by decide) (by decide) (by decide) (by decide) (by decide)) (by decide), h2.fr (hf 11 (by decide)) (fun j j1 j2 => hj j (by omega) (by omega) (by omega) (by omega) (by omega) (by omega))⟩
  have zW' : ∀ a a' : Nat → Nat → Int32, zWr a (zWL n rc st) → a' 0 28 = a 0 28 → a' 12 = a 12 → a' 13 = a 13 → a' 14 = a 14 → a' 15 = a 15 → zWr a' (zWL n rc st) := by
    intro a a' h e0 e1 e2 e3 e4
    unfold zWr
    rw [e0, e1, e2, e3, e4]
    exact h
  have loop : ∀ (f D : Nat) (a : Nat → Nat → Int32), f = 201 - D → (1 ≤ D ∧ D ≤ 2000) → zFe (zWL n rc st).length (wF (zWL n rc st)) (wT (zWL n rc st)) (wO (zWL n rc st)) (wD (zWL n rc st)) D → zFr zLGn al a → zNo6 al a → zWr a (zWL n rc st) → a 0 33 = 0 → zLyF n rc st us f D = zLy n rc st us → BX11_layAll_21 G Z ad ln (nI D) a := by
    intro f
    induction f with
    | zero =>
      intro D a hfD hD hF hf hj hw h33 e
      refine uX11_layAll_21 X hR _ a ?_
      unfold vcX11_layAll_21
      rw [show (200 : Int32) = nI 200 from rfl, nI_ltI (by omega) (by omega)]
      refine ⟨fun _ => ?_, fun z => absurd (by omega) z⟩
      rw [← hP]
      refine ⟨hf, hj, hw, ?_, fun z => absurd e.symm z⟩
      rw [h33, ← e]
      rfl
    | succ f ih =>
      intro D a hfD hD hF hf hj hw h33 e
      have hD2 : D ≤ 200 := by omega
      obtain ⟨i1, i2⟩ := inv a hf hj
      refine uX11_layAll_21 X hR _ a ?_
      unfold vcX11_layAll_21 vcX11_layAll_147
      rw [show (200 : Int32) = nI 200 from rfl, nI_ltI (by omega) (by omega), nI_1]
      refine ⟨fun z => absurd z (by omega), fun _ => ?_⟩
      refine (r_tryAt G ad ln a i1 i2 (hw.wf gd i1.1) ⟨hD.1, hD2⟩ hF).mono (fun q2 a2 hq => ?_)
      obtain ⟨f2, j2, h, mn, hh, hq⟩ := hq
      rw [zFl_eq mn] at hq
      have f2' : zFr zLGn al a2 := hf.tr (f2.mono (by decide))
      have hj2 : zNo6 al a2 := fun j b1 b2 b3 b4 b5 b6 => by rw [j2 j b3]; exact hj j b1 b2 b3 b4 b5 b6
      have hw2 : zWr a2 (zWL n rc st) := zW' a a2 hw (j2 28 (by decide)) (f2 12 (by decide)) (f2 13 (by decide)) (f2 14 (by decide)) (f2 15 (by decide))
      have next : ∀ a3, zFr zLGn al a3 → zNo6 al a3 → zWr a3 (zWL n rc st) → a3 0 33 = 0 → ¬ zOkD n rc st us D → BX11_layAll_21 G Z ad ln (nI (D + 1)) a3 := by
        intro a3 b1 b2 b3 b4 b5
        refine ih (D + 1) a3 (by omega) (by omega) (zFe_mono hF (by omega)) b1 b2 b3 b4 ?_
        rw [← e, zLyF_n n rc st us b5]
      rcases hq with ⟨rfl, ht, h34, h17⟩ | ⟨rfl, ht⟩
      · refine ⟨fun _ => ⟨zvn (j := 0) (by omega) (by omega), ?_⟩, fun z => absurd z (by decide)⟩
        obtain ⟨cy1, cy2, cy3, cy4, cy5⟩ := zCy_ok gd ⟨hD.1, hD2⟩ hF ht
        generalize hc : (zFl n rc st D).1 = c at h17 cy1
        have hcy : ∀ x, zCy n rc st D x = c x - sMin c n := fun x => by unfold zCy; rw [hc]
        have mm := sMin_lo hn0 cy1
        have endd : ∀ a3, zFr zLGn al a3 → zNo6 al a3 → zWr a3 (zWL n rc st) → a3 0 33 = nI D → a3 0 34 = nI (zFl n rc st D).2.1 → (∀ x, x < n → a3 19 x = zI (h x)) → (∀ x, x < n → a3 17 x = zI (zCy n rc st D x)) → vcX11_layAll_86 G ad ln (BX11_layAll_21 G Z ad ln) (BX11_layAll_56 G Z ad ln) (BX11_layAll_86 G Z ad ln) P (nI D) (zI (sMin c n)) (zI (zGt n rc st D)) (nI n) a3 := by
          intro a3 b1 b2 b3 b4 b5 b6 b7
          unfold vcX11_layAll_86 vcX11_layAll_147
          obtain ⟨k1, k2⟩ := inv a3 b1 b2
          rw [k1.1, nI_1]
          refine ⟨fun _ => ⟨?_, ?_⟩, fun z => absurd (Int32.le_refl _) z⟩
          · rw [show (0 : Int32) = nI 0 from rfl, nI_eq (by omega) (by omega)]
            omega
          · have e35 : zI (zGt n rc st D) / nI D + 1 = zI (zGt n rc st D / (D : Int) + 1) := by
              rw [zI_n, zI_div ⟨by omega, by omega⟩ ⟨by omega, by omega⟩ (by omega), zI_1, zI_add, Int.tdiv_eq_ediv_of_nonneg (by omega)]
            rw [e35]
            generalize hv : zI (zGt n rc st D / (D : Int) + 1) = v35
            have fz : zFr [0] a3 (up2 a3 0 35 v35) := zFr.rf.up (by decide) _ _
            have jz : ∀ j, j ≠ 35 → up2 a3 0 35 v35 0 j = a3 0 j := fun j hj' => up2_ne _ _ (fun z => hj' z.2)
            refine (r_spans G ad ln (up2 a3 0 35 v35) (c := zCy n rc st D) (us := us) (k1.fr fz (jz 9 (by decide)) (by decide)) (k2.fr (fz 11 (by decide)) (fun j _ _ => jz j (by omega))) ⟨hD.1, hD2⟩ (by rw [jz 33 (by decide)]; exact b4) (fun x hx => ⟨by rw [fz 17 (by decide)]; exact b7 x hx, (cy2 x hx).1, by have := (cy2 x hx).2; omega⟩) hus (fun x hx h0 => span_ok hus cy4 hx h0)).mono (fun q4 a4 hq => ?_)
            obtain ⟨f4, j4, hq⟩ := hq
            have hq' : match lF n rc st us D with
              | some (sz, off) => q4 = 1 ∧ a4 0 40 = zI (lNd n rc st us D) ∧ a4 0 41 = nI sz ∧ (1 ≤ sz ∧ sz ≤ 128) ∧ ∀ x, x < n → a4 20 x = zI (lB n rc st us D x) ∧ a4 21 x = zI (lE n rc st us D x) ∧ a4 22 x = zI (off x)
              | none => q4 = 0 := hq
            have f5 : zFr zLGn al a4 := (b1.tr (fz.mono (by decide))).tr (f4.mono (by decide))
            have j5 : ∀ j, j ≠ 35 → j ≠ 40 → j ≠ 41 → a4 0 j = a3 0 j := fun j c1 c2 c3 => by rw [j4 j c2 c3, jz j c1]
            have j6 : zNo6 al a4 := fun j c1 c2 c3 c4 c5 c6 => by rw [j5 j c4 c5 c6]; exact b2 j c1 c2 c3 c4 c5 c6
            have w6 : zWr a4 (zWL n rc st) := zW' a3 a4 b3 (j5 28 (by decide) (by decide) (by decide)) (by rw [f4 12 (by decide), fz 12 (by decide)]) (by rw [f4 13 (by decide), fz 13 (by decide)]) (by rw [f4 14 (by decide), fz 14 (by decide)]) (by rw [f4 15 (by decide), fz 15 (by decide)])
            clear hq
            match hl : lF n rc st us D, hq' with
            | none, hq' =>
              refine ⟨fun _ => ?_, fun z => absurd hq' z⟩
              refine next _ (f5.up (by decide) _ _) (fun j c1 c2 c3 c4 c5 c6 => by rw [up2_ne _ _ (fun z => c2 z.2)]; exact j6 j c1 c2 c3 c4 c5 c6) (zW' a4 _ w6 (up2_ne _ _ (by decide)) (up2_name _ _ _ (by decide)) (up2_name _ _ _ (by decide)) (up2_name _ _ _ (by decide)) (up2_name _ _ _ (by decide))) (up2_self _ _ _ _) (fun z => z.2 hl)
            | some (sz, off), hq' =>
              obtain ⟨rfl, q40, q41, qs, qx⟩ := hq'
              refine ⟨fun z => absurd z (by decide), fun _ => ?_⟩
              have ok : zOkD n rc st us D := ⟨ht, by rw [hl]; exact fun z => by cases z⟩
              have eD : zLy n rc st us = D := by rw [← e, zLyF_y n rc st us ok]
              rw [← hP]
              refine ⟨f5, j6, w6, ?_, fun _ => ?_⟩
              · rw [eD, j5 33 (by decide) (by decide) (by decide)]
                exact b4
              · rw [eD]
                refine ⟨?_, ?_, fun x hx => ⟨?_, ?_, (qx x hx).1, (qx x hx).2.1⟩, q40, sz, off, hl, qs, q41, fun x hx => (qx x hx).2.2⟩
                · rw [j5 34 (by decide) (by decide) (by decide)]
                  exact b5
                · rw [j4 35 (by decide) (by decide), up2_self, hv]
                · rw [f4 17 (by decide), fz 17 (by decide)]
                  exact b7 x hx
                · rw [f4 19 (by decide), fz 19 (by decide), b6 x hx, zHt_eq mn x hx]
        have loop2 : ∀ (g k : Nat) (a3 : Nat → Nat → Int32), k + g = n → zFr zLGn al a3 → zNo6 al a3 → zWr a3 (zWL n rc st) → a3 0 33 = nI D → a3 0 34 = nI (zFl n rc st D).2.1 → (∀ x, x < n → a3 19 x = zI (h x)) → (∀ x, x < n → a3 17 x = if x < k then zI (zCy n rc st D x) else zI (c x)) → BX11_layAll_86 G Z ad ln (nI D) (zI (sMin c n)) (zI (zLs (fun x => c x - sMin c n) (fun _ => 0) k)) (nI k) a3 := by
          have rg : ∀ k, k ≤ n → 0 ≤ zLs (fun x => c x - sMin c n) (fun _ => 0) k ∧ zLs (fun x => c x - sMin c n) (fun _ => 0) k ≤ 100000 := by
            intro k hk
            by_cases q : k = 0
            · subst q
              exact ⟨Int.le_refl _, by show (0 : Int) ≤ 100000; omega⟩
            · rw [zLs_mx (fun x hx => (cy1 x hx).1) k hk (by omega) (sMin c n)]
              have := mm k hk
              have := mm n (Nat.le_refl _)
              unfold zmx
              split <;> omega
          intro g
          induction g with
          | zero =>
            intro k a3 hk b1 b2 b3 b4 b5 b6 b7
            have : k = n := by omega
            subst this
            refine uX11_layAll_86 X hR _ _ _ _ a3 ?_
            have eg : zLs (fun x => c x - sMin c k) (fun _ => 0) k = zGt k rc st D := by
              rw [zLs_mx (fun x hx => (cy1 x hx).1) k (Nat.le_refl _) hn0 (sMin c k)]
              unfold zGt at cy3 ⊢
              rw [hc] at cy3 ⊢
              unfold zmx
              split <;> omega
            rw [eg]
            exact endd a3 b1 b2 b3 b4 b5 b6 (fun x hx => by rw [b7 x hx, if_pos hx])
          | succ g ihg =>
            intro k a3 hk b1 b2 b3 b4 b5 b6 b7
            refine uX11_layAll_86 X hR _ _ _ _ a3 ?_
            unfold vcX11_layAll_86
            obtain ⟨k1, k2⟩ := inv a3 b1 b2
            have hk' : k < n := by omega
            have e17 : a3 17 k = zI (c k) := by rw [b7 k hk', if_neg (by omega)]
            have v : vp_in (nI k) 48 := vp_in_nI (by omega) (by omega)
            have g1 := rg k (by omega)
            have g2 := cy2 k hk'
            rw [hcy k] at g2
            rw [k1.1, nI_clamp (by omega), e17, zI_sub, zI_mx ⟨by omega, by omega⟩ ⟨by omega, by omega⟩, nI_1, nI_leI (by omega) (by omega)]
            refine ⟨fun z => absurd z (by omega), fun _ => ⟨v, v, v, ?_⟩⟩
            have es : zmx (zLs (fun x => c x - sMin c n) (fun _ => 0) k) (c k - sMin c n) = zLs (fun x => c x - sMin c n) (fun _ => 0) (k + 1) := by
              show _ = zmx (zLs (fun x => c x - sMin c n) (fun _ => 0) k) (c k - sMin c n + ((0 : Nat) : Int))
              rw [show ((0 : Nat) : Int) = 0 from rfl, Int.add_zero]
            rw [es]
            refine ihg (k + 1) _ (by omega) (b1.up (by decide) _ _) (fun j c1 c2 c3 c4 c5 c6 => by rw [up2_name _ _ _ (by decide)]; exact b2 j c1 c2 c3 c4 c5 c6) (zW' a3 _ b3 (by rw [up2_name _ _ _ (by decide)]) (up2_name _ _ _ (by decide)) (up2_name _ _ _ (by decide)) (up2_name _ _ _ (by decide)) (up2_name _ _ _ (by decide))) (by rw [up2_name _ _ _ (by decide)]; exact b4) (by rw [up2_name _ _ _ (by decide)]; exact b5) (fun x hx => by rw [up2_name _ _ _ (by decide)]; exact b6 x hx) (fun x hx => ?_)
            by_cases q : x = k
            · subst q
              rw [up2_self, if_pos (by omega), hcy]
            · rw [up2_ne _ _ (fun z => q z.2), b7 x hx]
              by_cases q2 : x < k
              · rw [if_pos q2, if_pos (by omega)]
              · rw [if_neg q2, if_neg (by omega)]
        have loop1 : ∀ (g k : Nat), k + g = n → BX11_layAll_56 G Z ad ln (nI D) (zI (sMin c k)) 0 (nI k) (up2 a2 0 33 (nI D)) := by
          have c1 : zFr zLGn al (up2 a2 0 33 (nI D)) := f2'.up (by decide) _ _
          have c2 : zNo6 al (up2 a2 0 33 (nI D)) := fun j c1 c2 c3 c4 c5 c6 => by rw [up2_ne _ _ (fun z => c2 z.2)]; exact hj2 j c1 c2 c3 c4 c5 c6
          obtain ⟨k1, k2⟩ := inv _ c1 c2
          intro g
          induction g with
          | zero =>
            intro k hk
            have : k = n := by omega
            subst this
            refine uX11_layAll_56 X hR _ _ _ _ _ ?_
            unfold vcX11_layAll_56
            rw [k1.1]
            refine ⟨fun _ => ?_, fun z => absurd (Int32.le_refl _) z⟩
            exact loop2 k 0 _ (by omega) c1 c2 (zW' a2 _ hw2 (up2_ne _ _ (by decide)) (up2_name _ _ _ (by decide)) (up2_name _ _ _ (by decide)) (up2_name _ _ _ (by decide)) (up2_name _ _ _ (by decide))) (up2_self _ _ _ _) (by rw [up2_ne _ _ (by decide)]; exact h34) (fun x hx => by rw [up2_name _ _ _ (by decide)]; exact (hh x hx).1) (fun x hx => by rw [up2_name _ _ _ (by decide), if_neg (by omega)]; exact (h17 x hx).1)
          | succ g ihg =>
            intro k hk
            refine uX11_layAll_56 X hR _ _ _ _ _ ?_
            unfold vcX11_layAll_56
            have g1 := mm k (by omega)
            have g2 := cy1 k (by omega)
            have e17 : up2 a2 0 33 (nI D) 17 k = zI (c k) := by rw [up2_name _ _ _ (by decide)]; exact (h17 k (by omega)).1
            rw [k1.1, nI_clamp (by omega), e17, nI_1, nI_leI (by omega) (by omega)]
            refine ⟨fun z => absurd z (by omega), fun _ => ⟨vp_in_nI (by omega) (by omega), ?_⟩⟩
            have es : (if zI (c k) < zI (sMin c k) then zI (c k) else zI (sMin c k)) = zI (sMin c (k + 1)) := by
              show _ = zI (if c k < sMin c k then c k else sMin c k)
              by_cases q : c k < sMin c k
              · rw [if_pos q, if_pos ((zI_lt ⟨by omega, by omega⟩ ⟨by omega, by omega⟩).mpr q)]
              · rw [if_neg q, if_neg (fun z => q ((zI_lt ⟨by omega, by omega⟩ ⟨by omega, by omega⟩).mp z))]
            rw [es]
            exact ihg (k + 1) (by omega)
        rw [(h17 0 hn0).1]
        exact loop1 n 0 (by omega)
      · refine ⟨fun z => absurd rfl z, fun _ => ?_⟩
        exact next a2 f2' hj2 hw2 (by rw [j2 33 (by decide)]; exact h33) (fun z => by rw [z.1] at ht; cases ht)
  refine uX11_layAll_0 X hR al ?_
  unfold vcX11_layAll_0
  refine (r_findWaits G ad ln al h1 h2).mono (fun a1 hq => ?_)
  obtain ⟨f1, j1, w1⟩ := hq
  have f1' : zFr zLGn al (up2 a1 0 33 0) := (f1.mono (by decide)).up (by decide) _ _
  have j1' : zNo6 al (up2 a1 0 33 0) := fun j c1 c2 c3 c4 c5 c6 => by rw [up2_ne _ _ (fun z => c2 z.2)]; exact j1 j c1
  obtain ⟨k1, k2⟩ := inv _ f1' j1'
  have w1' : zWr (up2 a1 0 33 0) (zWL n rc st) := zW' a1 _ w1 (up2_ne _ _ (by decide)) (up2_name _ _ _ (by decide)) (up2_name _ _ _ (by decide)) (up2_name _ _ _ (by decide)) (up2_name _ _ _ (by decide))
  refine (r_leastByUnits G ad ln (up2 a1 0 33 0) k1 hn0 k2).mono (fun q2 a2 hq => ?_)
  obtain ⟨rfl, e2⟩ := hq
  obtain rfl := e2.symm
  refine (r_leastByCircles G ad ln (up2 a1 0 33 0) (w1'.wf gd k1.1) (zFe_WL gd)).mono (fun q3 a3 hq => ?_)
  obtain ⟨f3, cc, rfl, hcc⟩ := hq
  have ec := zCi_eq hcc
  have lu := zLu_le gd.2.2.2.2 (fun x => rKd (rc x)) (n := n) 4 (Nat.le_refl _)
  have lu1 : 1 ≤ zLu (fun x => rKd (rc x)) st n 4 := by
    have h7 : 1 ≤ zLu (fun x => rKd (rc x)) st n 1 := zLu_pos hn0 (gd.2.2.2.2 7 (by omega)).1
    have mono : ∀ g, zLu (fun x => rKd (rc x)) st n g ≤ zLu (fun x => rKd (rc x)) st n (g + 1) := fun g => Nat.le_max_left _ _
    exact Nat.le_trans h7 (Nat.le_trans (mono 1) (Nat.le_trans (mono 2) (mono 3)))
  obtain ⟨cc1, cc2, cc3, cc4⟩ := hcc
  have e0 : (if nI (zLu (fun x => rKd (rc x)) st n 4) < nI cc then nI cc else nI (zLu (fun x => rKd (rc x)) st n 4)) = nI (zD0 n rc st) := by
    unfold zD0
    rw [← ec]
    by_cases q : zLu (fun x => rKd (rc x)) st n 4 < cc
    · rw [if_pos q, if_pos ((nI_ltI (by omega) (by omega)).mpr q)]
    · rw [if_neg q, if_neg (fun z => q ((nI_ltI (by omega) (by omega)).mp z))]
  rw [e0]
  have hd : (1 ≤ zD0 n rc st ∧ zD0 n rc st ≤ 2000) ∧ cc ≤ zD0 n rc st := by
    unfold zD0
    rw [← ec]
    split <;> omega
  refine loop _ (zD0 n rc st) a3 rfl hd.1 (zFe_mono cc3 hd.2) (f1'.tr (f3.mono (by decide))) (fun j c1 c2 c3 c4 c5 c6 => by rw [f3 0 (by decide)]; exact j1' j c1 c2 c3 c4 c5 c6) ?_ (by rw [f3 0 (by decide)]; exact up2_self _ _ _ _) rfl
  exact zW' _ a3 w1' (by rw [f3 0 (by decide)]) (f3 12 (by decide)) (f3 13 (by decide)) (f3 14 (by decide)) (f3 15 (by decide))
end REFL
