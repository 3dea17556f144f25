-- needs: 58
section REFT3
variable (G : zG) (ad ln : Nat → Nat) (al : Nat → Nat → Int32) {n D : Nat} {rc : Nat → zRec} {st : Nat → Nat} {m : Nat} {fr to ov dl : Nat → Nat}
theorem r_tryAt (h1 : zRr al n rc) (h2 : zRst al st) (hw : zWf al n m fr to ov dl) (hD : 1 ≤ D ∧ D ≤ 200) (hF : zFe m fr to ov dl D) : zMi G yX11_tryAt wsX11_tryAt rmX11_tryAt zTR ad ln [.ref (ad 0), .int (nI D)] al (fun q a => zFr [0, 17, 18, 19] al a ∧ (∀ j, j ≠ 34 → a 0 j = al 0 j) ∧ ∃ h, bfMin n m fr to (zWg ov dl D) h ∧ (∀ x, x < n → a 19 x = zI (h x) ∧ 0 ≤ h x ∧ h x ≤ 5000000) ∧ ((q = 1 ∧ (sFill n D (fun x => rKd (rc x)) st m fr to ov dl h).2.2 = true ∧ a 0 34 = nI (sFill n D (fun x => rKd (rc x)) st m fr to ov dl h).2.1 ∧ ∀ x, x < n → a 17 x = zI ((sFill n D (fun x => rKd (rc x)) st m fr to ov dl h).1 x) ∧ 0 ≤ (sFill n D (fun x => rKd (rc x)) st m fr to ov dl h).1 x ∧ (sFill n D (fun x => rKd (rc x)) st m fr to ov dl h).1 x ≤ 1000000) ∨ (q = 0 ∧ (sFill n D (fun x => rKd (rc x)) st m fr to ov dl h).2.2 = false))) := by
  refine zMi.of (cc := cX11_tryAt) (nL := 4) (rt := .boolean) (by decide) rfl (Nat.le_of_ble_eq_true rfl) (fun Z X hR => ?_)
  have hn := h1.2.1
  refine uX11_tryAt_0 X (nI D) hR al ?_
  unfold vcX11_tryAt_0
  refine (r_heights G ad ln al hw (D := D) (by omega) hF).mono (fun a1 hq => ?_)
  obtain ⟨f1, h, mn, hh⟩ := hq
  generalize hkd : (fun x => rKd (rc x)) = kd at hR
  generalize htg : sFill n D kd st m fr to ov dl h = tg
  have fin : ∀ (q : Int32) (a : Nat → Nat → Int32), zFr [0, 17, 18] a1 a → (∀ j, j ≠ 34 → a 0 j = a1 0 j) → ((q = 1 ∧ tg.2.2 = true ∧ a 0 34 = nI tg.2.1 ∧ ∀ x, x < n → a 17 x = zI (tg.1 x) ∧ 0 ≤ tg.1 x ∧ tg.1 x ≤ 1000000) ∨ (q = 0 ∧ tg.2.2 = false)) → zFr [0, 17, 18, 19] al a ∧ (∀ j, j ≠ 34 → a 0 j = al 0 j) ∧ ∃ h, bfMin n m fr to (zWg ov dl D) h ∧ (∀ x, x < n → a 19 x = zI (h x) ∧ 0 ≤ h x ∧ h x ≤ 5000000) ∧ ((q = 1 ∧ (sFill n D kd st m fr to ov dl h).2.2 = true ∧ a 0 34 = nI (sFill n D kd st m fr to ov dl h).2.1 ∧ ∀ x, x < n → a 17 x = zI ((sFill n D kd st m fr to ov dl h).1 x) ∧ 0 ≤ (sFill n D kd st m fr to ov dl h).1 x ∧ (sFill n D kd st m fr to ov dl h).1 x ≤ 1000000) ∨ (q = 0 ∧ (sFill n D kd st m fr to ov dl h).2.2 = false)) := by
    intro q a hf hj hq
    refine ⟨(f1.mono (by decide)).tr (hf.mono (by decide)), fun j hj' => by rw [hj j hj', f1 0 (by decide)], h, mn, fun x hx => ?_, ?_⟩
    · rw [hf 19 (by decide)]
      exact hh x hx
    · rw [htg]
      exact hq
  have st1 : ∀ a, zFr [0, 17, 18] a1 a → (∀ j, j ≠ 34 → a 0 j = a1 0 j) → zRr a n rc ∧ zRst a st ∧ zWf a n m fr to ov dl := by
    intro a hf hj
    have ff : zFr [0, 17, 18, 19] al a := (f1.mono (by decide)).tr (hf.mono (by decide))
    have e0 : ∀ j, j ≠ 34 → a 0 j = al 0 j := fun j hj' => by rw [hj j hj', f1 0 (by decide)]
    exact ⟨h1.fr ff (e0 9 (by decide)) (by intro k hk; simp at hk; omega), h2.fr (ff 11 (by decide)) (fun j _ _ => e0 j (by omega)), hw.fr ff (e0 28 (by decide)) (e0 9 (by decide)) (by decide)⟩
  have loop : ∀ (f k : Nat) (c lat : Nat → Int) (a : Nat → Nat → Int32), k + f = 8 * n → zFr [0, 17, 18] a1 a → (∀ j, j ≠ 34 → a 0 j = a1 0 j) → a 0 34 = nI k → (∀ x, x < n → a 17 x = zI (c x) ∧ -1 ≤ c x ∧ c x ≤ ((221 * k : Nat) : Int)) → (∀ x, x < n → a 18 x = zI (lat x) ∧ -1 ≤ lat x ∧ lat x ≤ ((221 * k : Nat) : Int)) → sLoop n D kd st m fr to ov dl h f k c lat = tg → BX11_tryAt_40 G Z ad ln (nI D) a := by
    intro f
    induction f with
    | zero =>
      intro k c lat a hkf hf hj h34 h17 h18 e
      obtain ⟨s1, s2, s3⟩ := st1 a hf hj
      refine uX11_tryAt_40 X (nI D) hR a ?_
      unfold vcX11_tryAt_40
      have scan : ∀ (g x : Nat), x + g = n → BX11_tryAt_44 G Z ad ln (nI D) (zI (sBest c h x)) (nI x) a := by
        intro g
        induction g with
        | zero =>
          intro x hx
          refine uX11_tryAt_44 X (nI D) hR _ _ a ?_
          unfold vcX11_tryAt_44
          have : x = n := by omega
          subst this
          have hb := sBest_rng (c := c) (h := h) x
          rw [s1.1, h34, show (8 : Int32) = nI 8 from rfl, zI_0, zI_le ⟨by omega, by omega⟩ ⟨by omega, by omega⟩]
          have e8 : nI 8 * nI x = nI (8 * x) := by rw [zI_n, zI_n, zI_n, zI_mul]; congr 1
          rw [e8, nI_eq (by omega) (by omega)]
          refine ⟨fun _ => ⟨fun q => ⟨fun z => absurd (by omega) z, fun _ => fin _ _ hf hj (Or.inr ⟨rfl, ?_⟩)⟩, fun q => fin _ _ hf hj (Or.inl ⟨rfl, ?_, ?_, fun y hy => ?_⟩)⟩, fun z => absurd (Int32.le_refl _) z⟩
          · rw [← e]
            show decide _ = _
            rw [decide_eq_false (by omega)]
          · rw [← e]
            show decide _ = _
            rw [decide_eq_true (by omega)]
          · rw [← e]
            exact h34
          · rw [← e]
            have ha := sBest_all x (show sBest c h x = -1 by omega) y hy
            obtain ⟨c1, c2, c3⟩ := h17 y hy
            exact ⟨c1, by show 0 ≤ c y; omega, by show c y ≤ _; omega⟩
        | succ g ih =>
          intro x hx
          refine uX11_tryAt_44 X (nI D) hR _ _ a ?_
          unfold vcX11_tryAt_44 vcX11_tryAt_80 vcX11_tryAt_82
          have hb := sBest_rng (c := c) (h := h) x
          obtain ⟨c1, c2, c3⟩ := h17 x (by omega)
          have i1 := ih (x + 1) (by omega)
          rw [show sBest c h (x + 1) = (if c x = -1 ∧ (sBest c h x = -1 ∨ h (sBest c h x).toNat < h x) then (x : Int) else sBest c h x) from rfl] at i1
          have v : vp_in (nI x) 48 := vp_in_nI (by omega) (by omega)
          rw [s1.1, nI_clamp (by omega), c1, nI_1, zI_0, zI_le (y := sBest c h x) ⟨by omega, by omega⟩ ⟨by omega, by omega⟩, zI_le (y := c x) ⟨by omega, by omega⟩ ⟨by omega, by omega⟩, zI_lt ⟨by omega, by omega⟩ ⟨by omega, by omega⟩, hf 19 (by decide), (hh x (by omega)).1]
          refine ⟨fun z => absurd z (by rw [nI_leI (by omega) (by omega)]; omega), fun _ => ⟨v, fun q => ?_, fun q => ⟨fun q2 => ?_, fun q2 => ⟨v, zvp (by omega) (by omega) (by omega), ?_⟩⟩⟩⟩
          · rw [if_neg (fun z => by omega)] at i1
            exact i1
          · rw [if_pos ⟨by omega, Or.inl (by omega)⟩, ← zI_n] at i1
            exact i1
          · have b1 := hh (sBest c h x).toNat (by omega)
            have b2 := hh x (by omega)
            rw [zI_clamp ⟨by omega, by omega⟩, b1.1, zI_le ⟨by omega, by omega⟩ ⟨by omega, by omega⟩]
            refine ⟨fun q3 => ?_, fun q3 => ?_⟩
            · rw [if_neg (fun z => by omega)] at i1
              exact i1
            · rw [if_pos ⟨by omega, Or.inr (by omega)⟩, ← zI_n] at i1
              exact i1
      exact scan n 0 (by omega)
    | succ f ihf =>
      intro k c lat a hkf hf hj h34 h17 h18 e
      obtain ⟨s1, s2, s3⟩ := st1 a hf hj
      refine uX11_tryAt_40 X (nI D) hR a ?_
      unfold vcX11_tryAt_40
      have scan : ∀ (g x : Nat), x + g = n → BX11_tryAt_44 G Z ad ln (nI D) (zI (sBest c h x)) (nI x) a := by
        intro g
        induction g with
        | zero =>
          intro x hx
          refine uX11_tryAt_44 X (nI D) hR _ _ a ?_
          unfold vcX11_tryAt_44
          have : x = n := by omega
          subst this
          have hb := sBest_rng (c := c) (h := h) x
          rw [s1.1, h34, show (8 : Int32) = nI 8 from rfl, zI_0, zI_le ⟨by omega, by omega⟩ ⟨by omega, by omega⟩]
          have e8 : nI 8 * nI x = nI (8 * x) := by rw [zI_n, zI_n, zI_n, zI_mul]; congr 1
          rw [e8, nI_eq (by omega) (by omega), nI_1]
          unfold sLoop at e
          refine ⟨fun _ => ⟨fun q => ⟨fun _ => ?_, fun z => absurd z (by omega)⟩, fun q => fin _ _ hf hj (Or.inl ?_)⟩, fun z => absurd (Int32.le_refl _) z⟩
          · rw [if_neg (by omega)] at e
            have f2 : zFr [0] a (up2 a 0 34 (nI (k + 1))) := zFr.rf.up (by decide) _ _
            have hf2 : zFr [0, 17, 18] a1 (up2 a 0 34 (nI (k + 1))) := hf.tr (f2.mono (by decide))
            have hj2 : ∀ j, j ≠ 34 → up2 a 0 34 (nI (k + 1)) 0 j = a1 0 j := fun j hj' => by rw [up2_ne _ _ (fun z => hj' z.2)]; exact hj j hj'
            obtain ⟨t1, t2, t3⟩ := st1 _ hf2 hj2
            have hT : zTr (up2 a 0 34 (nI (k + 1))) x rc st c lat := by
              refine ⟨t1, t2, fun y hy => ?_, fun y hy => ?_⟩
              · rw [f2 17 (by decide)]
                obtain ⟨c1, c2, c3⟩ := h17 y hy
                exact ⟨c1, c2, by omega⟩
              · rw [f2 18 (by decide)]
                obtain ⟨c1, c2, c3⟩ := h18 y hy
                exact ⟨c1, c2, by omega⟩
            have ex : zI (sBest c h x) = nI (sBest c h x).toNat := by rw [zI_n]; congr 1; omega
            rw [ex]
            refine (r_put G ad ln _ hT t3 hD (B := ((221 * k : Nat) : Int)) ⟨⟨by omega, by omega⟩, fun y hy => ⟨(h17 y hy).2.2, (h18 y hy).2.2⟩⟩ (x := (sBest c h x).toNat) (by omega) (hb.2.2 (by omega))).mono (fun a4 hq => ?_)
            rw [hkd] at hq
            obtain ⟨f4, hT4, b4⟩ := hq
            refine ihf (k + 1) _ _ a4 (by omega) (hf2.tr (f4.mono (by decide))) (fun j hj' => by rw [f4 0 (by decide)]; exact hj2 j hj') (by rw [f4 0 (by decide), up2_self]) (fun y hy => ?_) (fun y hy => ?_) e
            · have g1 := hT4.2.2.1 y hy
              have g2 := (b4 y hy).1
              exact ⟨g1.1, g1.2.1, by omega⟩
            · have g1 := hT4.2.2.2 y hy
              have g2 := (b4 y hy).2
              exact ⟨g1.1, g1.2.1, by omega⟩
          · rw [if_pos (by omega)] at e
            rw [← e]
            refine ⟨rfl, rfl, h34, fun y hy => ?_⟩
            have ha := sBest_all x (show sBest c h x = -1 by omega) y hy
            obtain ⟨c1, c2, c3⟩ := h17 y hy
            exact ⟨c1, by show 0 ≤ c y; omega, by show c y ≤ _; omega⟩
        | succ g ih =>
          intro x hx
          refine uX11_tryAt_44 X (nI D) hR _ _ a ?_
          unfold vcX11_tryAt_44 vcX11_tryAt_80 vcX11_tryAt_82
          have hb := sBest_rng (c := c) (h := h) x
          obtain ⟨c1, c2, c3⟩ := h17 x (by omega)
          have i1 := ih (x + 1) (by omega)
          rw [show sBest c h (x + 1) = (if c x = -1 ∧ (sBest c h x = -1 ∨ h (sBest c h x).toNat < h x) then (x : Int) else sBest c h x) from rfl] at i1
          have v : vp_in (nI x) 48 := vp_in_nI (by omega) (by omega)
          rw [s1.1, nI_clamp (by omega), c1, nI_1, zI_0, zI_le (y := sBest c h x) ⟨by omega, by omega⟩ ⟨by omega, by omega⟩, zI_le (y := c x) ⟨by omega, by omega⟩ ⟨by omega, by omega⟩, zI_lt ⟨by omega, by omega⟩ ⟨by omega, by omega⟩, hf 19 (by decide), (hh x (by omega)).1]
          refine ⟨fun z => absurd z (by rw [nI_leI (by omega) (by omega)]; omega), fun _ => ⟨v, fun q => ?_, fun q => ⟨fun q2 => ?_, fun q2 => ⟨v, zvp (by omega) (by omega) (by omega), ?_⟩⟩⟩⟩
          · rw [if_neg (fun z => by omega)] at i1
            exact i1
          · rw [if_pos ⟨by omega, Or.inl (by omega)⟩, ← zI_n] at i1
            exact i1
          · have b1 := hh (sBest c h x).toNat (by omega)
            have b2 := hh x (by omega)
            rw [zI_clamp ⟨by omega, by omega⟩, b1.1, zI_le ⟨by omega, by omega⟩ ⟨by omega, by omega⟩]
            refine ⟨fun q3 => ?_, fun q3 => ?_⟩
            · rw [if_neg (fun z => by omega)] at i1
              exact i1
            · rw [if_pos ⟨by omega, Or.inr (by omega)⟩, ← zI_n] at i1
              exact i1
      exact scan n 0 (by omega)
  have init : ∀ (f x : Nat) (a : Nat → Nat → Int32), x + f = n → zFr [17, 18] a1 a → (∀ y, y < x → a 17 y = -1 ∧ a 18 y = -1) → BX11_tryAt_7 G Z ad ln (nI D) (nI x) a := by
    intro f
    induction f with
    | zero =>
      intro x a hx hf ha
      refine uX11_tryAt_7 X (nI D) hR _ a ?_
      unfold vcX11_tryAt_7
      have : x = n := by omega
      subst this
      rw [hf 0 (by decide), f1 0 (by decide), h1.1]
      refine ⟨fun _ => loop (8 * x) 0 (fun _ => -1) (fun _ => -1) _ (by omega) ((hf.mono (by decide)).up (by decide) _ _) (fun j hj => ?_) (up2_self _ _ _ _) (fun y hy => ?_) (fun y hy => ?_) htg, fun z => absurd (Int32.le_refl _) z⟩
      · rw [up2_ne _ _ (fun z => hj z.2), hf 0 (by decide)]
      · rw [up2_ne _ _ (fun z => absurd z.1 (by decide)), (ha y hy).1]
        exact ⟨rfl, by show (-1 : Int) ≤ -1; omega, by show (-1 : Int) ≤ _; omega⟩
      · rw [up2_ne _ _ (fun z => absurd z.1 (by decide)), (ha y hy).2]
        exact ⟨rfl, by show (-1 : Int) ≤ -1; omega, by show (-1 : Int) ≤ _; omega⟩
    | succ f ih =>
      intro x a hx hf ha
      refine uX11_tryAt_7 X (nI D) hR _ a ?_
      unfold vcX11_tryAt_7
      rw [hf 0 (by decide), f1 0 (by decide), h1.1, nI_clamp (by omega), nI_1]
      have v : vp_in (nI x) 48 := vp_in_nI (by omega) (by omega)
      refine ⟨fun z => absurd z (by rw [nI_leI (by omega) (by omega)]; omega), fun _ => ⟨v, v, ih (x + 1) _ (by omega) ((hf.up (by decide) _ _).up (by decide) _ _) (fun y hy => ?_)⟩⟩
      by_cases e : y = x
      · subst e
        rw [up2_ne _ _ (fun z => absurd z.1 (by decide)), up2_self, up2_self]
        exact ⟨rfl, rfl⟩
      · rw [up2_ne _ _ (fun z => absurd z.1 (by decide)), up2_ne _ _ (fun z => e z.2), up2_ne _ _ (fun z => e z.2), up2_ne _ _ (fun z => absurd z.1 (by decide))]
        exact ha y (by omega)
  exact init n 0 a1 (by omega) zFr.rf (fun y hy => absurd hy (by omega))
end REFT3
