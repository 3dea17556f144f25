-- needs: 56 55
/-! THE REFERENCE: the table of cycles -/
def zTr (a : Nat → Nat → Int32) (n : Nat) (rc : Nat → zRec) (st : Nat → Nat) (c lat : Nat → Int) : Prop := zRr a n rc ∧ zRst a st ∧ (∀ x, x < n → a 17 x = zI (c x) ∧ -1 ≤ c x ∧ c x ≤ 1000000) ∧ ∀ x, x < n → a 18 x = zI (lat x) ∧ -1 ≤ lat x ∧ lat x ≤ 1000000
section REFT
variable (G : zG) (ad ln : Nat → Nat) (al : Nat → Nat → Int32) {n D : Nat} {rc : Nat → zRec} {st : Nat → Nat} {c lat : Nat → Int} {m : Nat} {fr to ov dl : Nat → Nat}
theorem zRemI {x : Int} (hx : 0 ≤ x ∧ x ≤ 2000000) (hD : 1 ≤ D ∧ D ≤ 200) : zI x - zI x / nI D * nI D = zI (x % (D : Int)) := by
  rw [zI_n D, zI_rem ⟨by omega, by omega⟩ ⟨by omega, by omega⟩ (by omega), Int.tmod_eq_emod_of_nonneg hx.1]
theorem r_used (h : zTr al n rc st c lat) (hD : 1 ≤ D ∧ D ≤ 200) {x g : Nat} (hx : x < n) (hg : g < 4) {t : Int} (ht : 0 ≤ t ∧ t ≤ 2000000) : zMi G yX11_used wsX11_used rmX11_used zTR ad ln [.ref (ad 0), .int (nI x), .int (zI t), .int (nI g), .int (nI D)] al (fun q a => q = nI (sCnt D (fun x => rKd (rc x)) (iup c x (-1)) g (sRest D t) n) ∧ a = al) := by
  refine zMi.of (cc := cX11_used) (nL := 7) (rt := .int) (by decide) rfl (Nat.le_of_ble_eq_true rfl) (fun Z X hR => ?_)
  obtain ⟨h1, h2, h3, h4⟩ := h
  have hn := h1.2.1
  have nD : ¬ nI D = 0 := by
    rw [show (0 : Int32) = nI 0 from rfl, nI_eq (by omega) (by omega)]
    omega
  have m1 := Int.emod_nonneg t (b := (D : Int)) (by omega)
  have m2 := Int.emod_lt_of_pos t (b := (D : Int)) (by omega)
  have loop : ∀ (f k : Nat), k + f = n → BX11_used_6 G Z ad ln (nI x) (zI t) (nI g) (nI D) (nI (sCnt D (fun x => rKd (rc x)) (iup c x (-1)) g (sRest D t) k)) (nI k) al := by
    intro f
    induction f with
    | zero =>
      intro k hk
      refine uX11_used_6 X _ _ _ _ hR _ _ al ?_
      unfold vcX11_used_6
      have : k = n := by omega
      subst this
      rw [h1.1]
      exact ⟨fun _ => ⟨rfl, rfl⟩, fun z => absurd (Int32.le_refl _) z⟩
    | succ f ih =>
      intro k hk
      refine uX11_used_6 X _ _ _ _ hR _ _ al ?_
      unfold vcX11_used_6 vcX11_used_64 vcX11_used_65
      obtain ⟨c1, c2, c3⟩ := h3 k (by omega)
      have i1 := ih (k + 1) (by omega)
      unfold sCnt at i1
      have no : sAt D (fun x => rKd (rc x)) (iup c x (-1)) g (sRest D t) k = false → BX11_used_6 G Z ad ln (nI x) (zI t) (nI g) (nI D) (nI (sCnt D (fun x => rKd (rc x)) (iup c x (-1)) g (sRest D t) k) + 0) (nI (k + 1)) al := by
        intro hs
        rw [if_neg (by rw [hs]; decide), Nat.add_zero] at i1
        rw [Int32.add_zero]
        exact i1
      have v : vp_in (nI k) 48 := vp_in_nI (by omega) (by omega)
      rw [h1.1, nI_clamp (by omega), c1, nI_1, nI_1, nI_eq (by omega) (by omega), zI_0, zI_lt ⟨by omega, by omega⟩ ⟨by omega, by omega⟩, ← zI_0]
      refine ⟨fun z => absurd z (by rw [nI_leI (by omega) (by omega)]; omega), fun _ => ⟨fun q => no ?_, fun q => ⟨v, fun q2 => no ?_, fun q2 => ⟨v, nD, nD, ?_⟩⟩⟩⟩
      · subst q
        exact sAt_none D _ (iup_self c k (-1))
      · rw [sAt_ne D _ (by omega)]
        exact sAt_none D _ (by omega)
      · have k1 := Int.emod_nonneg (c k) (b := (D : Int)) (by omega)
        have k2 := Int.emod_lt_of_pos (c k) (b := (D : Int)) (by omega)
        rw [zRemI (by omega) hD, zRemI ht hD, zI_eq ⟨by omega, by omega⟩ ⟨by omega, by omega⟩]
        have es : sAt D (fun x => rKd (rc x)) (iup c x (-1)) g (sRest D t) k = (decide (c k % (D : Int) = t % (D : Int)) && zGrp (rKd (rc k)) g) := by
          rw [sAt_ne D _ (by omega)]
          unfold sAt sRest
          rw [decide_eq_true (show 0 ≤ c k by omega), Bool.true_and, show (((t % (D : Int)).toNat : Nat) : Int) = t % (D : Int) by omega]
        refine ⟨fun q3 => no (by rw [es, decide_eq_false q3]; rfl), fun q3 => ?_⟩
        refine (r_isIn G ad ln al h1 (x := k) (g := g) (by omega) hg).mono (fun q4 a hq => ?_)
        obtain ⟨rfl, e⟩ := hq
        obtain rfl := e.symm
        refine ⟨fun q5 => no ?_, fun q5 => ?_⟩
        · rw [zb_0] at q5
          rw [es, q5, Bool.and_false]
        · have q6 : zGrp (rKd (rc k)) g = true := by
            cases hz : zGrp (rKd (rc k)) g
            · rw [hz] at q5
              exact absurd rfl q5
            · rfl
          rw [if_pos (by rw [es, decide_eq_true q3, q6]; rfl)] at i1
          exact i1
  refine uX11_used_0 X _ _ _ _ hR al ?_
  unfold vcX11_used_0
  exact loop n 0 (by omega)
theorem r_full (h : zTr al n rc st c lat) (hD : 1 ≤ D ∧ D ≤ 200) {x : Nat} (hx : x < n) {t : Int} (ht : 0 ≤ t ∧ t ≤ 2000000) : zMi G yX11_full wsX11_full rmX11_full zTR ad ln [.ref (ad 0), .int (nI x), .int (zI t), .int (nI D)] al (fun q a => q = zI (sFl n D (fun x => rKd (rc x)) st (iup c x (-1)) x t 4 0) ∧ a = al) := by
  refine zMi.of (cc := cX11_full) (nL := 5) (rt := .int) (by decide) rfl (Nat.le_of_ble_eq_true rfl) (fun Z X hR => ?_)
  generalize htg : sFl n D (fun x => rKd (rc x)) st (iup c x (-1)) x t 4 0 = tg at hR
  have hn := h.1.2.1
  have loop : ∀ (f g : Nat), g + f = 4 → sFl n D (fun x => rKd (rc x)) st (iup c x (-1)) x t f g = tg → BX11_full_3 G Z ad ln (nI x) (zI t) (nI D) (nI g) al := by
    intro f
    induction f with
    | zero =>
      intro g hg e
      refine uX11_full_3 X _ _ _ hR _ al ?_
      unfold vcX11_full_3
      have : g = 4 := by omega
      subst this
      refine ⟨fun _ => ⟨?_, rfl⟩, fun z => absurd (by decide) z⟩
      rw [← e]
      rfl
    | succ f ih =>
      intro g hg e
      refine uX11_full_3 X _ _ _ hR _ al ?_
      unfold vcX11_full_3 vcX11_full_40
      unfold sFl at e
      rw [nI_1]
      refine ⟨fun z => absurd z (by rw [show (4 : Int32) = nI 4 from rfl, nI_leI (by omega) (by omega)]; omega), fun _ => ?_⟩
      refine (r_isIn G ad ln al h.1 (x := x) (g := g) hx (by omega)).mono (fun q1 a hq => ?_)
      obtain ⟨rfl, e2⟩ := hq
      obtain rfl := e2.symm
      refine ⟨fun q => ?_, fun q => ?_⟩
      · rw [zb_0] at q
        refine ih (g + 1) (by omega) ?_
        rw [if_neg (fun z => by rw [q] at z; exact absurd z.1 (by decide))] at e
        exact e
      · have q' : zGrp (rKd (rc x)) g = true := by
          cases hz : zGrp (rKd (rc x)) g
          · rw [hz] at q
            exact absurd rfl q
          · rfl
        refine (r_used G ad ln al h hD (x := x) (g := g) hx (by omega) ht).mono (fun q2 a hq => ?_)
        obtain ⟨rfl, e2⟩ := hq
        obtain rfl := e2.symm
        refine (r_room G ad ln al h.2.1 (g := g) (by omega)).mono (fun q2 a hq => ?_)
        obtain ⟨rfl, e2⟩ := hq
        obtain rfl := e2.symm
        have hu := h.2.1.2.2 _ (zGS_lt g (by omega)).1
        have hu2 : sUnits st g = st (zGS g).toNatClampNeg := rfl
        have hc := sCnt_le D (fun x => rKd (rc x)) (iup c x (-1)) g (sRest D t) n
        rw [nI_ltI (by omega) (by omega)]
        refine ⟨fun q3 => ?_, fun q3 => ?_⟩
        · refine ih (g + 1) (by omega) ?_
          rw [if_neg (fun z => by have := of_decide_eq_true z.2; omega)] at e
          exact e
        · rw [if_pos ⟨q', decide_eq_true (by omega)⟩] at e
          refine ⟨?_, rfl⟩
          rw [← e, zI_n]
  refine uX11_full_0 X _ _ _ hR al ?_
  unfold vcX11_full_0
  exact loop 4 0 (by omega) htg
end REFT
