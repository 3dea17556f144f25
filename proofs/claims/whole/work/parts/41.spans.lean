-- needs: 40 37
/-! Spans: contracts -/
def zSn (al : Nat → Nat → Int32) (n : Nat) (kd st : Nat → Nat) (c : Nat → Int) (sl sr : Nat → Int) : Prop :=
  al 4 1 = nI n ∧ n ≤ 48 ∧ (∀ x, x < n → al (29 + 3 * x) 0 = nI (kd x) ∧ kd x < 4) ∧ (∀ j, j < 9 → al 2 j = nI (st j) ∧ 1 ≤ st j ∧ st j ≤ 64) ∧ (∀ x, x < n → al 19 x = zI (c x) ∧ 0 ≤ c x ∧ c x ≤ 1000000) ∧
  (∀ y, y < n → (al (30 + 3 * y) 0 = 114 → vp_in (al (30 + 3 * y) 1) 32) ∧ (if al (30 + 3 * y) 0 = 114 then al 6 (al (30 + 3 * y) 1).toNatClampNeg else -1) = zI (sl y) ∧ -1 ≤ sl y ∧ sl y < n) ∧
  (∀ y, y < n → (al (31 + 3 * y) 0 = 114 → vp_in (al (31 + 3 * y) 1) 32) ∧ (if al (31 + 3 * y) 0 = 114 then al 6 (al (31 + 3 * y) 1).toNatClampNeg else -1) = zI (sr y) ∧ -1 ≤ sr y ∧ sr y < n)
theorem zSn.fr {l : List Nat} {al al' : Nat → Nat → Int32} {n : Nat} {kd st : Nat → Nat} {c sl sr : Nat → Int} (h : zSn al n kd st c sl sr) (hf : zFr l al al') (hl : ∀ k, k ∈ l → 22 ≤ k ∧ k ≤ 28) : zSn al' n kd st c sl sr := by
  obtain ⟨h1, h2, h3, h4, h5, h6, h7⟩ := h
  have no : ∀ k, (k < 22 ∨ 28 < k) → al' k = al k := fun k hk => hf k (fun z => by have := hl k z; omega)
  refine ⟨by rw [no 4 (by omega)]; exact h1, h2, fun x hx => by rw [no _ (by omega)]; exact h3 x hx, fun j hj => by rw [no 2 (by omega)]; exact h4 j hj, fun x hx => by rw [no 19 (by omega)]; exact h5 x hx, fun y hy => by rw [no (30 + 3 * y) (by omega), no 6 (by omega)]; exact h6 y hy, fun y hy => by rw [no (31 + 3 * y) (by omega), no 6 (by omega)]; exact h7 y hy⟩
def zUsS (sl sr : Nat → Int) (x y : Nat) : Bool := decide (sl y = (x : Int) ∨ sr y = (x : Int))
section SPANS
variable (G : zG) (r : Bool) (ad ln : Nat → Nat) (al : Nat → Nat → Int32) {n D : Nat} {kd st : Nat → Nat} {c sl sr : Nat → Int}
def zBe (c : Nat → Int) (tm : Nat → Nat) (E : Nat → Int) (x : Nat) : Int := if E x = -1 then -1 else c x + (tm x : Int)
/-- one use -/
theorem c_stretch (h : zSn al n kd st c sl sr) (hD : 1 ≤ D ∧ D ≤ 200) (h9 : al 22 9 = nI D) {E : Nat → Int} (hE : ∀ x, x < n → al 24 x = zI (E x) ∧ al 23 x = zI (zBe c (fun x => st (kd x)) E x) ∧ -1 ≤ E x ∧ E x ≤ 1000200) {s : Int} (hs : -1 ≤ s ∧ s < n) {y : Nat} (hy : y < n) : zMv G yX6_stretch wsX6_stretch rmX6_stretch (zTC r) ad ln [.ref (ad 22), .int (zI s), .int (nI y)] al (fun a => zFr [23, 24] al a ∧ ∀ x, x < n → a 24 x = zI (if s = (x : Int) then zmx (E x) (zUe D c x y) else E x) ∧ a 23 x = zI (zBe c (fun x => st (kd x)) (fun x => if s = (x : Int) then zmx (E x) (zUe D c x y) else E x) x) ∧ -1 ≤ (if s = (x : Int) then zmx (E x) (zUe D c x y) else E x) ∧ (if s = (x : Int) then zmx (E x) (zUe D c x y) else E x) ≤ 1000200) := by
  refine zMv.of (cc := cX6_stretch) (nL := 3) (by decide) rfl (Nat.le_of_ble_eq_true rfl) (fun Z X hR => ?_)
  refine tX6_stretch_0 X _ _ hR al ?_
  obtain ⟨h1, h2, h3, h4, h5, h6, h7⟩ := h
  unfold vcX6_stretch_0 vcX6_stretch_72
  rw [zI_0, zI_lt ⟨by omega, by omega⟩ ⟨by omega, by omega⟩]
  refine ⟨fun q => ⟨zFr.rf, fun x hx => ?_⟩, fun q => ?_⟩
  · have no : ¬ s = (x : Int) := by omega
    obtain ⟨a1, a2, a3, a4⟩ := hE x hx
    refine ⟨by rw [if_neg no]; exact a1, ?_, by rw [if_neg no]; exact a3, by rw [if_neg no]; exact a4⟩
    rw [a2]
    unfold zBe
    simp only [if_neg no]
  · obtain ⟨u, hu⟩ : ∃ u : Nat, s = (u : Int) := ⟨s.toNat, by omega⟩
    subst hu
    have hu2 : u < n := by omega
    obtain ⟨a1, a2, a3, a4⟩ := hE u hu2
    obtain ⟨k1, k2⟩ := h3 u hu2
    obtain ⟨s1, s2, s3⟩ := h4 (kd u) (by omega)
    obtain ⟨c1, c2, c3⟩ := h5 u hu2
    obtain ⟨d1, d2, d3⟩ := h5 y hy
    have v1 : vp_in (zI (u : Int)) 48 := zvp (by omega) (by omega) (by omega)
    have v2 : vp_in (nI y) 48 := vp_in_nI (by omega) (by omega)
    rw [zI_clamp ⟨by omega, by omega⟩, nI_clamp (by omega), show ((u : Int)).toNat = u by omega, k1, nI_clamp (by omega), s1, c1, d1, a1, zI_n (st (kd u)), zI_add]
    refine ⟨v1, v1, vp_in_nI (by omega) (by omega), v1, v1, v2, ?_⟩
    rw [zI_n y]
    refine (c_roundsOfUse G r ad ln _ (x := (u : Int)) (y := (y : Int)) ⟨by omega, by omega⟩ ⟨by omega, by omega⟩).mono (fun q3 a3' hq => ⟨v1, ?_⟩)
    obtain ⟨rfl, rfl⟩ := hq
    have e1 : zI (c y) + (if (u : Int) < (y : Int) then (0 : Int32) else 1) * up2 al 23 u (zI (c u + (st (kd u) : Int))) 22 9 = zI (zUe D c u y) := by
      rw [up2_ne _ _ (fun z => absurd z.1 (by decide)), h9, zI_n D]
      unfold zUe zUo
      by_cases g : u < y
      · rw [if_pos (by omega), if_pos g, zI_0, zI_mul, zI_add]
      · rw [if_neg (by omega), if_neg g, zI_1, zI_mul, zI_add]
    rw [e1]
    have r1 := zUe_rng (D := D) (x := u) (h5 y hy).2
    rw [zI_mx ⟨by omega, by omega⟩ ⟨by omega, by omega⟩]
    have hmx : 0 ≤ zmx (E u) (zUe D c u y) ∧ zmx (E u) (zUe D c u y) ≤ 1000200 := by
      unfold zmx
      split <;> omega
    refine ⟨(zFr.rf.up (by decide) _ _).up (by decide) _ _, fun x hx => ?_⟩
    by_cases g : u = x
    · subst g
      rw [if_pos rfl]
      refine ⟨up2_self _ _ _ _, ?_, by omega, by omega⟩
      rw [up2_ne _ _ (fun z => absurd z.1 (by decide)), up2_self]
      unfold zBe
      simp only [if_true]
      rw [if_neg (by omega)]
    · have no : ¬ (u : Int) = (x : Int) := by omega
      obtain ⟨b1, b2, b3, b4⟩ := hE x hx
      refine ⟨by rw [if_neg no, up2_ne _ _ (fun z => g z.2.symm), up2_ne _ _ (fun z => absurd z.1 (by decide))]; exact b1, ?_, by rw [if_neg no]; exact b3, by rw [if_neg no]; exact b4⟩
      rw [up2_ne _ _ (fun z => absurd z.1 (by decide)), up2_ne _ _ (fun z => g z.2.symm), b2]
      unfold zBe
      simp only [if_neg no]
theorem zmx_twice (a b : Int) : zmx (zmx a b) b = zmx a b := by
  unfold zmx
  by_cases q : a < b
  · rw [if_pos q, if_neg (by omega)]
  · rw [if_neg q, if_neg q]
theorem zE_two (x y : Nat) : zE D c (zUsS sl sr) x (y + 1) = (if sr y = (x : Int) then zmx (if sl y = (x : Int) then zmx (zE D c (zUsS sl sr) x y) (zUe D c x y) else zE D c (zUsS sl sr) x y) (zUe D c x y) else (if sl y = (x : Int) then zmx (zE D c (zUsS sl sr) x y) (zUe D c x y) else zE D c (zUsS sl sr) x y)) := by
  show (if zUsS sl sr x y = true then zmx (zE D c (zUsS sl sr) x y) (zUe D c x y) else zE D c (zUsS sl sr) x y) = _
  unfold zUsS
  by_cases q1 : sl y = (x : Int)
  · rw [if_pos (by simp [q1])]
    simp only [if_pos q1]
    by_cases q2 : sr y = (x : Int)
    · rw [if_pos q2, zmx_twice]
    · rw [if_neg q2]
  · simp only [if_neg q1]
    by_cases q2 : sr y = (x : Int)
    · rw [if_pos q2, if_pos (by simp [q2])]
    · rw [if_neg q2, if_neg (by simp [q1, q2])]
theorem c_findSpans (h : zSn al n kd st c sl sr) (hD : 1 ≤ D ∧ D ≤ 200) (h9 : al 22 9 = nI D) : zMv G yX6_findSpans wsX6_findSpans rmX6_findSpans (zTC r) ad ln [.ref (ad 22)] al (fun a => zFr [23, 24, 25] al a ∧ ∀ x, x < n → a 24 x = zI (zE D c (zUsS sl sr) x n) ∧ a 23 x = zI (zBg D c (fun x => st (kd x)) (zUsS sl sr) x n) ∧ a 25 x = -1) := by
  refine zMv.of (cc := cX6_findSpans) (nL := 2) (by decide) rfl (Nat.le_of_ble_eq_true rfl) (fun Z X hR => ?_)
  have hn := h.2.1
  have loop : ∀ (f y : Nat) (a : Nat → Nat → Int32), y + f = n → zFr [23, 24, 25] al a → (∀ x, x < n → a 25 x = -1) → (∀ x, x < n → a 24 x = zI (zE D c (zUsS sl sr) x y) ∧ a 23 x = zI (zBe c (fun x => st (kd x)) (fun x => zE D c (zUsS sl sr) x y) x) ∧ -1 ≤ zE D c (zUsS sl sr) x y ∧ zE D c (zUsS sl sr) x y ≤ 1000200) → BX6_findSpans_26 G Z r ad ln (nI y) a := by
    intro f
    induction f with
    | zero =>
      intro y a hy hf h25 hE
      refine uX6_findSpans_26 X hR _ a ?_
      unfold vcX6_findSpans_26
      have : y = n := by omega
      subst this
      rw [hf 4 (by decide), h.1]
      exact ⟨fun _ => ⟨hf, fun x hx => ⟨(hE x hx).1, (hE x hx).2.1, h25 x hx⟩⟩, fun z => absurd (Int32.le_refl _) z⟩
    | succ f ih =>
      intro y a hy hf h25 hE
      refine uX6_findSpans_26 X hR _ a ?_
      unfold vcX6_findSpans_26
      rw [hf 4 (by decide), h.1, nI_clamp (by omega), nI_1]
      refine ⟨fun z => absurd z (by rw [nI_leI (by omega) (by omega)]; omega), fun _ => ⟨vp_in_nI (by omega) (by omega), ?_⟩⟩
      have hS := h.fr hf (by intro k hk; simp at hk; omega)
      obtain ⟨l1, l2, l3, l4⟩ := hS.2.2.2.2.2.1 y (by omega)
      obtain ⟨r1, r2, r3, r4⟩ := hS.2.2.2.2.2.2 y (by omega)
      refine (c_source G r ad ln a (30 + 3 * y) (zOp_l r (by omega)) l1).mono (fun q a1 hq => ?_)
      obtain ⟨rfl, e1⟩ := hq
      obtain rfl := e1.symm
      rw [l2]
      refine (c_stretch G r ad ln a hS hD (by rw [hf 22 (by decide)]; exact h9) hE ⟨l3, l4⟩ (y := y) (by omega)).mono (fun a2 hq => ?_)
      obtain ⟨f2, hE2⟩ := hq
      have hS2 := hS.fr f2 (by intro k hk; simp at hk; omega)
      have er : (if a2 (31 + 3 * y) 0 = 114 then a2 6 (a2 (31 + 3 * y) 1).toNatClampNeg else -1) = zI (sr y) := (hS2.2.2.2.2.2.2 y (by omega)).2.1
      refine (c_source G r ad ln a2 (31 + 3 * y) (zOp_r r (by omega)) (hS2.2.2.2.2.2.2 y (by omega)).1).mono (fun q a3 hq => ?_)
      obtain ⟨rfl, e1⟩ := hq
      obtain rfl := e1.symm
      rw [er]
      refine (c_stretch G r ad ln a2 hS2 hD (by rw [f2 22 (by decide), hf 22 (by decide)]; exact h9) hE2 ⟨r3, r4⟩ (y := y) (by omega)).mono (fun a4 hq => ?_)
      obtain ⟨f4, hE4⟩ := hq
      refine ih (y + 1) a4 (by omega) ((hf.tr (f2.mono (by decide))).tr (f4.mono (by decide))) (fun x hx => ?_) (fun x hx => ?_)
      · rw [f4 25 (by decide), f2 25 (by decide), h25 x hx]
      · have e := zE_two (D := D) (c := c) (sl := sl) (sr := sr) x y
        obtain ⟨b1, b2, b3, b4⟩ := hE4 x hx
        rw [e]
        refine ⟨b1, ?_, b3, b4⟩
        rw [b2]
        unfold zBe
        simp only [zE_two]
  refine uX6_findSpans_0 X hR al ?_
  unfold vcX6_findSpans_0
  refine (c_fill G ad ln al (zTC r) 23 1 48 0 0 ⟨zTC_lt (by decide), rfl, Or.inl rfl⟩ (by show 48 < 2147483648; omega) (-1)).mono (fun a1 e1 => ?_)
  refine (c_fill G ad ln a1 (zTC r) 24 1 48 0 0 ⟨zTC_lt (by decide), rfl, Or.inl rfl⟩ (by show 48 < 2147483648; omega) (-1)).mono (fun a2 e2 => ?_)
  refine (c_fill G ad ln a2 (zTC r) 25 1 48 0 0 ⟨zTC_lt (by decide), rfl, Or.inl rfl⟩ (by show 48 < 2147483648; omega) (-1)).mono (fun a3 e3 => ?_)
  have fl : ∀ (o : Nat) (b b' : Nat → Nat → Int32), b' = upA b o 48 (fun _ => -1) → (∀ x, x ≠ o → b' x = b x) ∧ ∀ x, x < 48 → b' o x = -1 := by
    intro o b b' e
    subst e
    refine ⟨fun x hx => ?_, fun x hx => ?_⟩
    · funext j
      unfold upA
      rw [if_neg (fun z => hx z.1)]
    · unfold upA
      rw [if_pos ⟨rfl, hx⟩]
  obtain ⟨g1, g2⟩ := fl 23 al a1 e1
  obtain ⟨g3, g4⟩ := fl 24 a1 a2 e2
  obtain ⟨g5, g6⟩ := fl 25 a2 a3 e3
  refine loop n 0 a3 (by omega) (fun x hx => ?_) (fun x hx => g6 x (by omega)) (fun x hx => ?_)
  · simp at hx
    rw [g5 x hx.2.2, g3 x hx.2.1, g1 x hx.1]
  · rw [g5 24 (by decide), g4 x (by omega), g5 23 (by decide), g3 23 (by decide), g2 x (by omega)]
    unfold zBe zE
    simp only [if_true]
    exact ⟨rfl, rfl, by omega, by omega⟩
/-- the order -/
theorem c_orderSpans (h4 : al 4 1 = nI n) (hn : n ≤ 48) {b : Nat → Int} (hb : ∀ x, x < n → al 23 x = zI (b x) ∧ -1 ≤ b x ∧ b x ≤ 1000100) : zMv G yX6_orderSpans wsX6_orderSpans rmX6_orderSpans (zTC r) ad ln [.ref (ad 22)] al (fun a => zFr [22, 26] al a ∧ (∀ j, j ≠ 10 → a 22 j = al 22 j) ∧ a 22 10 = nI (zOr b n).2 ∧ ∀ j, j < (zOr b n).2 → a 26 j = nI ((zOr b n).1 j)) := by
  refine zMv.of (cc := cX6_orderSpans) (nL := 3) (by decide) rfl (Nat.le_of_ble_eq_true rfl) (fun Z X hR => ?_)
  have outer : ∀ (f x : Nat) (a : Nat → Nat → Int32), x + f = n → zFr [22, 26] al a → (∀ j, j ≠ 10 → a 22 j = al 22 j) → a 22 10 = nI (zOr b x).2 → (∀ j, j < (zOr b x).2 → a 26 j = nI ((zOr b x).1 j)) → BX6_orderSpans_7 G Z r ad ln (nI x) a := by
    intro f
    induction f with
    | zero =>
      intro x a hx hf hj h10 ho
      refine uX6_orderSpans_7 X hR _ a ?_
      unfold vcX6_orderSpans_7
      have : x = n := by omega
      subst this
      rw [hf 4 (by decide), h4]
      exact ⟨fun _ => ⟨hf, hj, h10, ho⟩, fun z => absurd (Int32.le_refl _) z⟩
    | succ f ih =>
      intro x a hx hf hj h10 ho
      obtain ⟨k1, k2, k3, k4⟩ := zOr_ok b x
      refine uX6_orderSpans_7 X hR _ a ?_
      unfold vcX6_orderSpans_7 vcX6_orderSpans_95
      obtain ⟨b1, b2, b3⟩ := hb x (by omega)
      rw [hf 4 (by decide), h4, nI_clamp (by omega), hf 23 (by decide), b1, nI_1, zI_0, zI_lt ⟨by omega, by omega⟩ ⟨by omega, by omega⟩]
      refine ⟨fun z => absurd z (by rw [nI_leI (by omega) (by omega)]; omega), fun _ => ⟨vp_in_nI (by omega) (by omega), fun q => ?_, fun q => ?_⟩⟩
      · refine ih (x + 1) a (by omega) hf hj ?_ ?_ <;> (unfold zOr; rw [if_pos q])
        · exact h10
        · exact ho
      · rw [h10]
        have nx : zOr b (x + 1) = (zIn2 (zOr b x).1 (zIp b (zOr b x).1 x (zOr b x).2) x, (zOr b x).2 + 1) := by
          show (if b x < 0 then _ else _) = _
          rw [if_neg q]
        generalize zOr b x = w at k1 k2 k3 k4 h10 ho nx
        obtain ⟨o, k⟩ := w
        simp only at k1 k2 k3 k4 h10 ho nx ⊢
        have inner : ∀ (g : Nat) (a' : Nat → Nat → Int32), g ≤ k → zFr [22, 26] al a' → (∀ j, j ≠ 10 → a' 22 j = al 22 j) → a' 22 10 = nI k → (∀ j, j < g → a' 26 j = nI (o j)) → (∀ j, g < j → j ≤ k → a' 26 j = nI (o (j - 1))) → zIp b o x g = zIp b o x k → BX6_orderSpans_32 G Z r ad ln (nI x) (nI g) a' := by
          intro g
          induction g with
          | zero =>
            intro a' hg hf' hj' h10' ho1 ho2 hp
            refine uX6_orderSpans_32 X hR _ _ a' ?_
            unfold vcX6_orderSpans_32 vcX6_orderSpans_78 vcX6_orderSpans_95
            refine ⟨fun _ => ⟨by unfold vp_in; decide, ?_⟩, fun z => absurd (by decide) z⟩
            rw [h10', nI_1, nI_1, nI_clamp (by omega)]
            refine ih (x + 1) _ (by omega) ((hf'.up (by decide) _ _).up (by decide) _ _) (fun j j10 => ?_) ?_ ?_
            · rw [up2_ne _ _ (fun z => j10 z.2), up2_ne _ _ (fun z => absurd z.1 (by decide))]
              exact hj' j j10
            · rw [nx, up2_self]
            · rw [nx]
              intro j hjj
              simp only at hjj ⊢
              rw [← hp]
              unfold zIn2 zIp
              rw [up2_ne _ _ (fun z => absurd z.1 (by decide)), if_neg (by omega)]
              by_cases e : j = 0
              · subst e
                rw [up2_self, if_pos rfl]
              · rw [up2_ne _ _ (fun z => e z.2), if_neg e]
                exact ho2 j (by omega) (by omega)
          | succ g ih2 =>
            intro a' hg hf' hj' h10' ho1 ho2 hp
            refine uX6_orderSpans_32 X hR _ _ a' ?_
            unfold vcX6_orderSpans_32 vcX6_orderSpans_78 vcX6_orderSpans_95
            have e1 : nI (g + 1) - 1 = nI g := by
              rw [zI_n, zI_n, zI_1, zI_sub]
              congr 1
              omega
            have e2 : nI (g + 1) + -1 = nI g := by
              rw [zI_n, zI_n, zI_m1, zI_add]
              congr 1
              omega
            obtain ⟨o1, o2⟩ := k2 g (by omega)
            obtain ⟨c1, c2, c3⟩ := hb (o g) (by omega)
            rw [e1, e2, nI_clamp (by omega), nI_clamp (by omega), nI_clamp (by omega), ho1 g (by omega), nI_clamp (by omega), hf' 23 (by decide), b1, c1, zI_le ⟨by omega, by omega⟩ ⟨by omega, by omega⟩, h10', nI_1, nI_1]
            refine ⟨fun z => absurd z (by rw [show (0 : Int32) = nI 0 from rfl, nI_leI (by omega) (by omega)]; omega), fun _ => ⟨vp_in_nI (by omega) (by omega), vp_in_nI (by omega) (by omega), vp_in_nI (by omega) (by omega), fun q2 => ⟨vp_in_nI (by omega) (by omega), ?_⟩, fun q2 => ⟨vp_in_nI (by omega) (by omega), vp_in_nI (by omega) (by omega), ?_⟩⟩⟩
            · refine ih (x + 1) _ (by omega) ((hf'.up (by decide) _ _).up (by decide) _ _) (fun j j10 => ?_) ?_ ?_
              · rw [up2_ne _ _ (fun z => j10 z.2), up2_ne _ _ (fun z => absurd z.1 (by decide))]
                exact hj' j j10
              · rw [nx, up2_self]
              · rw [nx]
                intro j hjj
                simp only at hjj ⊢
                have ep : zIp b o x (g + 1) = g + 1 := by
                  unfold zIp
                  rw [if_neg (by omega)]
                rw [← hp, ep]
                unfold zIn2
                rw [up2_ne _ _ (fun z => absurd z.1 (by decide))]
                by_cases e3 : j < g + 1
                · rw [if_pos e3, up2_ne _ _ (fun z => absurd z.2 (by omega))]
                  exact ho1 j e3
                · rw [if_neg e3]
                  by_cases e4 : j = g + 1
                  · subst e4
                    rw [if_pos rfl, up2_self]
                  · rw [if_neg e4, up2_ne _ _ (fun z => e4 z.2)]
                    exact ho2 j (by omega) (by omega)
            · refine ih2 _ (by omega) (hf'.up (by decide) _ _) (fun j j10 => ?_) ?_ (fun j hj2 => ?_) (fun j hj2 hj3 => ?_) ?_
              · rw [up2_ne _ _ (fun z => absurd z.1 (by decide))]
                exact hj' j j10
              · rw [up2_ne _ _ (fun z => absurd z.1 (by decide)), h10']
              · rw [up2_ne _ _ (fun z => absurd z.2 (by omega))]
                exact ho1 j (by omega)
              · by_cases e4 : j = g + 1
                · subst e4
                  rw [up2_self]
                  rfl
                · rw [up2_ne _ _ (fun z => e4 z.2)]
                  exact ho2 j (by omega) hj3
              · rw [← hp]
                show _ = (if b x < b (o g) then zIp b o x g else g + 1)
                rw [if_pos (by omega)]
        exact inner k a (Nat.le_refl _) hf hj h10 ho (fun j z1 z2 => absurd z1 (by omega)) rfl
  refine uX6_orderSpans_0 X hR al ?_
  unfold vcX6_orderSpans_0
  exact outer n 0 _ (by omega) (zFr.rf.up (by decide) _ _) (fun j hj => up2_ne _ _ (fun z => hj z.2)) (up2_self _ _ _ _) (fun j hj => absurd hj (by show ¬ j < 0; omega))
end SPANS
