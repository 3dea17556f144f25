-- needs: 57
section REFT2
variable (G : zG) (ad ln : Nat → Nat) (al : Nat → Nat → Int32) {n D : Nat} {rc : Nat → zRec} {st : Nat → Nat} {c lat : Nat → Int} {m : Nat} {fr to ov dl : Nat → Nat}
theorem zTr.go {a a' : Nat → Nat → Int32} {c' lat' : Nat → Int} (h : zTr a n rc st c lat) (hf : zFr [17, 18] a a') (h17 : ∀ x, x < n → a' 17 x = zI (c' x) ∧ -1 ≤ c' x ∧ c' x ≤ 1000000) (h18 : ∀ x, x < n → a' 18 x = zI (lat' x) ∧ -1 ≤ lat' x ∧ lat' x ≤ 1000000) : zTr a' n rc st c' lat' :=
  ⟨h.1.fr hf (by rw [hf 0 (by decide)]) (by intro k hk; simp at hk; omega), h.2.1.fr (hf 11 (by decide)) (fun j _ _ => by rw [hf 0 (by decide)]), h17, h18⟩
theorem r_put (h : zTr al n rc st c lat) (hw : zWf al n m fr to ov dl) (hD : 1 ≤ D ∧ D ≤ 200) {B : Int} (hB : (0 ≤ B ∧ B ≤ 900000) ∧ ∀ x, x < n → c x ≤ B ∧ lat x ≤ B) {x : Nat} (hx : x < n) (hc : c x = -1) : zMv G yX11_put wsX11_put rmX11_put zTR ad ln [.ref (ad 0), .int (nI x), .int (nI D)] al (fun a => zFr [17, 18] al a ∧ zTr a n rc st (sTry n D (fun x => rKd (rc x)) st m fr to ov dl c lat x) (iup lat x (sPick n D (fun x => rKd (rc x)) st m fr to ov dl c lat x)) ∧ ∀ y, y < n → sTry n D (fun x => rKd (rc x)) st m fr to ov dl c lat x y ≤ B + 221 ∧ iup lat x (sPick n D (fun x => rKd (rc x)) st m fr to ov dl c lat x) y ≤ B + 221) := by
  refine zMv.of (cc := cX11_put) (nL := 8) (by decide) rfl (Nat.le_of_ble_eq_true rfl) (fun Z X hR => ?_)
  obtain ⟨h28, hm2, h9, hn, hi⟩ := hw
  have hi' : ∀ i, i < m → fr i < n ∧ to i < n ∧ ov i ≤ 64 ∧ dl i ≤ 20 := fun i q => (hi i q).2
  have hcr : ∀ x, x < n → -1 ≤ c x ∧ c x ≤ 1000000 := fun x q => (h.2.2.1 x q).2
  have he := pEar hi' hD.2 hcr (fun y hy => (hB.2 y hy).1) x m (Nat.le_refl _)
  have hpk := pPick (kd := fun x => rKd (rc x)) (st := st) hi' hD.2 hcr ⟨hB.1.1, hB.2⟩ hx (h.2.2.2 x hx).2.1
  have hty := sTry_eq (n := n) (D := D) (kd := fun x => rKd (rc x)) (st := st) (m := m) (fr := fr) (to := to) (ov := ov) (dl := dl) (c := c) (lat := lat) (x := x) he.1
  have hfi := sFirst_rng (n := n) (D := D) (kd := fun x => rKd (rc x)) (st := st) (c := c) (x := x) D (sEar D fr to ov dl c x m) he.1
  have pdef : sPick n D (fun x => rKd (rc x)) st m fr to ov dl c lat x = (if sFirst n D (fun x => rKd (rc x)) st c x D (sEar D fr to ov dl c x m) = -1 then (if lat x ≠ -1 ∧ sEar D fr to ov dl c x m ≤ lat x then lat x + 1 else sEar D fr to ov dl c x m) else sFirst n D (fun x => rKd (rc x)) st c x D (sEar D fr to ov dl c x m)) := rfl
  generalize hP : sPick n D (fun x => rKd (rc x)) st m fr to ov dl c lat x = P at hR hpk hty pdef
  generalize hT : sTry n D (fun x => rKd (rc x)) st m fr to ov dl c lat x = T at hR hty
  generalize hkd : (fun x => rKd (rc x)) = kd at hty hfi pdef
  have hf0 : ∀ {a : Nat → Nat → Int32}, zFr [17, 18] al a → a 0 = al 0 := fun hf => hf 0 (by decide)
  have hwt : ∀ {a : Nat → Nat → Int32}, zFr [17, 18] al a → a 12 = al 12 ∧ a 13 = al 13 ∧ a 14 = al 14 ∧ a 15 = al 15 := fun hf => ⟨hf 12 (by decide), hf 13 (by decide), hf 14 (by decide), hf 15 (by decide)⟩
  have ilat : ∀ y, y < n → -1 ≤ iup lat x P y ∧ iup lat x P y ≤ B + 221 := by
    intro y hy
    have h1 := (hB.2 y hy).2
    have h2 := (h.2.2.2 y hy).2.1
    unfold iup
    split <;> omega
  -- broken waits
  have brk : ∀ (f i : Nat) (c' : Nat → Int) (a : Nat → Nat → Int32), i + f = m → zFr [17, 18] al a → (∀ y, y < n → a 17 y = zI (c' y) ∧ -1 ≤ c' y ∧ c' y ≤ B + 221) → (∀ y, y < n → a 18 y = zI (iup lat x P y)) → sBrk D fr to ov dl x f i c' = T → BX11_put_287 G Z ad ln (nI x) (nI D) (nI i) a := by
    intro f
    induction f with
    | zero =>
      intro i c' a hif hf h17 h18 e
      refine uX11_put_287 X (nI x) (nI D) hR _ a ?_
      unfold vcX11_put_287
      have : i = m := by omega
      subst this
      rw [hf0 hf, h28]
      have e' : c' = T := e
      subst e'
      refine ⟨fun _ => ⟨hf, h.go hf (fun y hy => ⟨(h17 y hy).1, (h17 y hy).2.1, by have := (h17 y hy).2.2; omega⟩) (fun y hy => ⟨h18 y hy, (ilat y hy).1, by have := (ilat y hy).2; omega⟩), fun y hy => ⟨(h17 y hy).2.2, (ilat y hy).2⟩⟩, fun z => absurd (Int32.le_refl _) z⟩
    | succ f ih =>
      intro i c' a hif hf h17 h18 e
      refine uX11_put_287 X (nI x) (nI D) hR _ a ?_
      unfold vcX11_put_287 vcX11_put_333 vcX11_put_408 vcX11_put_410
      obtain ⟨⟨w1, w2, w3, w4⟩, w5, w6, w7, w8⟩ := hi i (by omega)
      obtain ⟨g1, g2, g3, g4⟩ := hwt hf
      have e' : sBrk D fr to ov dl x f (i + 1) (if sBad D fr to ov dl x c' i = true then iup c' (if fr i = x then to i else fr i) (-1) else c') = T := e
      have cf := h17 (fr i) w5
      have ct := h17 (to i) w6
      have h6 : (ov i : Int) * (D : Int) ≤ 64 * 200 := Int.mul_le_mul (by omega) (by omega) (by omega) (by omega)
      have h7 : 0 ≤ (ov i : Int) * (D : Int) := Int.mul_nonneg (by omega) (by omega)
      have v : vp_in (nI i) 4608 := vp_in_nI (by omega) (by omega)
      have v1 : vp_in (nI (fr i)) 48 := vp_in_nI (by omega) (by omega)
      have v2 : vp_in (nI (to i)) 48 := vp_in_nI (by omega) (by omega)
      have keep : ¬ (fr i ≠ to i ∧ (fr i = x ∨ to i = x) ∧ c' (fr i) ≠ -1 ∧ c' (to i) ≠ -1 ∧ c' (to i) < sBound D fr ov dl c' i) → BX11_put_287 G Z ad ln (nI x) (nI D) (nI (i + 1)) a := by
        intro hno
        refine ih (i + 1) c' a (by omega) hf h17 h18 ?_
        have hb : sBad D fr to ov dl x c' i = false := decide_eq_false hno
        rw [if_neg (by rw [hb]; decide)] at e'
        exact e'
      have dropped : ∀ z, z < n → z = (if fr i = x then to i else fr i) → (fr i ≠ to i ∧ (fr i = x ∨ to i = x) ∧ c' (fr i) ≠ -1 ∧ c' (to i) ≠ -1 ∧ c' (to i) < sBound D fr ov dl c' i) → BX11_put_287 G Z ad ln (nI x) (nI D) (nI (i + 1)) (up2 a 17 z (-1)) := by
        intro z hz ez hyes
        refine ih (i + 1) (iup c' z (-1)) _ (by omega) (hf.up (by decide) _ _) (fun y hy => ?_) (fun y hy => ?_) ?_
        · by_cases ey : y = z
          · subst ey
            rw [up2_self, iup_self]
            exact ⟨rfl, by omega, by omega⟩
          · rw [up2_ne _ _ (fun q => ey q.2), iup_ne _ _ ey]
            exact h17 y hy
        · rw [up2_ne _ _ (fun q => absurd q.1 (by decide))]
          exact h18 y hy
        · have hb : sBad D fr to ov dl x c' i = true := decide_eq_true hyes
          rw [if_pos hb, ← ez] at e'
          exact e'
      rw [hf0 hf, h28, nI_clamp (by omega), g1, g2, g3, g4, w1, w2, w3, w4, nI_clamp (by omega), nI_clamp (by omega), cf.1, ct.1, nI_1, nI_eq (by omega) (by omega), nI_eq (by omega) (by omega), nI_eq (by omega) (by omega), zI_n (dl i), zI_n (ov i), zI_n D, zI_mul, zI_add, zI_add, zI_le ⟨by omega, by omega⟩ ⟨by omega, by omega⟩, zI_0, zI_lt ⟨by omega, by omega⟩ ⟨by omega, by omega⟩, zI_le ⟨by omega, by omega⟩ ⟨by omega, by omega⟩, ← zI_n D]
      have body : fr i ≠ to i → (fr i = x ∨ to i = x) → (vp_in (nI (fr i)) 48 ∧ (c' (fr i) < 0 → BX11_put_287 G Z ad ln (nI x) (nI D) (nI (i + 1)) a) ∧ (¬ c' (fr i) < 0 → (vp_in (nI (to i)) 48 ∧ (0 ≤ c' (to i) → (vp_in (nI (to i)) 48 ∧ vp_in (nI i) 4608 ∧ vp_in (nI (fr i)) 48 ∧ vp_in (nI i) 4608 ∧ (c' (fr i) + (dl i : Int) ≤ c' (to i) + (ov i : Int) * (D : Int) → BX11_put_287 G Z ad ln (nI x) (nI D) (nI (i + 1)) a) ∧ (¬ c' (fr i) + (dl i : Int) ≤ c' (to i) + (ov i : Int) * (D : Int) → (¬ fr i = x → (vp_in (nI (fr i)) 48 ∧ BX11_put_287 G Z ad ln (nI x) (nI D) (nI (i + 1)) (up2 a 17 (fr i) (-1)))) ∧ (fr i = x → (vp_in (nI (to i)) 48 ∧ BX11_put_287 G Z ad ln (nI x) (nI D) (nI (i + 1)) (up2 a 17 (to i) (-1))))))) ∧ (¬ 0 ≤ c' (to i) → BX11_put_287 G Z ad ln (nI x) (nI D) (nI (i + 1)) a)))) := by
        intro q1 q2
        have sb : sBound D fr ov dl c' i = c' (fr i) + (dl i : Int) - (ov i : Int) * (D : Int) := rfl
        refine ⟨v1, fun q3 => keep (fun z => by omega), fun q3 => ⟨v2, fun q4 => ⟨v2, v, v1, v, fun q5 => keep (fun z => by omega), fun q5 => ⟨fun q6 => ⟨v1, dropped (fr i) w5 (by rw [if_neg q6]) ⟨q1, q2, by omega, by omega, by omega⟩⟩, fun q6 => ⟨v2, dropped (to i) w6 (by rw [if_pos q6]) ⟨q1, q2, by omega, by omega, by omega⟩⟩⟩⟩, fun q4 => keep (fun z => by omega)⟩⟩
      refine ⟨fun z => absurd z (by rw [nI_leI (by omega) (by omega)]; omega), fun _ => ⟨v, v, fun q => keep (fun z => z.1 q), fun q => ⟨fun q2 => body q (Or.inl q2), fun q2 => ⟨fun q3 => keep (fun z => z.2.1.elim q2 q3), fun q3 => body q (Or.inr q3)⟩⟩⟩⟩
  -- making room
  have room : ∀ (F : Nat) (c' : Nat → Int) (a : Nat → Nat → Int32), sPl c' n ≤ F → zFr [17, 18] al a → c' x = -1 → (∀ y, y < n → c' y = c y ∨ c' y = -1) → (∀ y, y < n → a 17 y = zI (iup c' x P y)) → (∀ y, y < n → a 18 y = zI (iup lat x P y)) → sMake n D kd st x P 4 0 c' = sMake n D kd st x P 4 0 c → BX11_put_201 G Z ad ln (nI x) (nI D) (zI P) (zI (sFl n D kd st c' x P 4 0)) a := by
    intro F
    induction F with
    | zero =>
      intro c' a hF hf hcx hor h17 h18 em
      -- nothing has a cycle, so nothing is full
      refine uX11_put_201 X (nI x) (nI D) hR _ _ a ?_
      unfold vcX11_put_201
      have hfl : sFl n D kd st c' x P 4 0 = -1 := by
        rcases sFl_rng (n := n) (D := D) (kd := kd) (st := st) (c := c') (x := x) (t := P) 4 0 with q | ⟨g, q1, q2, q3, q4, q5, q6⟩
        · exact q
        · have hu := h.2.1.2.2 _ (zGS_lt g (by omega)).1
          have q5' := of_decide_eq_true q5
          have hu2 : sUnits st g = st (zGS g).toNatClampNeg := rfl
          obtain ⟨y, y1, y2⟩ := sCnt_ex (D := D) (kd := kd) (c := c') (g := g) (j := sRest D P) n (by omega)
          have : c' y ≠ -1 := fun z => by rw [sAt_none D kd z] at y2; cases y2
          have p1 := (sPl_drop (c := c') (l := y) n).1 y1 this
          omega
      rw [hfl]
      refine ⟨fun _ => brk m 0 (iup c' x P) a (by omega) hf (fun y hy => ⟨h17 y hy, ?_⟩) h18 ?_, fun z => absurd (by decide) z⟩
      · have h1 := (hB.2 y hy).1
        have h2 := (hcr y hy).1
        have h3 := hor y hy
        unfold iup
        split <;> omega
      · rw [hty, ← em, sMake_none hfl]
    | succ F ihF =>
      intro c' a hF hf hcx hor h17 h18 em
      have cb : ∀ y, y < n → -1 ≤ iup c' x P y ∧ iup c' x P y ≤ B + 221 := by
        intro y hy
        have h1 := (hB.2 y hy).1
        have h2 := (hcr y hy).1
        have h3 := hor y hy
        unfold iup
        split <;> omega
      have hT1 : zTr a n rc st (iup c' x P) (iup lat x P) := h.go hf (fun y hy => ⟨h17 y hy, (cb y hy).1, by have := (cb y hy).2; omega⟩) (fun y hy => ⟨h18 y hy, (ilat y hy).1, by have := (ilat y hy).2; omega⟩)
      refine uX11_put_201 X (nI x) (nI D) hR _ _ a ?_
      unfold vcX11_put_201
      rcases sFl_rng (n := n) (D := D) (kd := kd) (st := st) (c := c') (x := x) (t := P) 4 0 with hfl | ⟨g, q1, q2, q3, q4, q5, q6⟩
      · rw [hfl]
        refine ⟨fun _ => brk m 0 (iup c' x P) a (by omega) hf (fun y hy => ⟨h17 y hy, cb y hy⟩) h18 ?_, fun z => absurd (by decide) z⟩
        rw [hty, ← em, sMake_none hfl]
      · rw [q1, hf0 hf, h9]
        refine ⟨fun z => absurd z (by rw [← zI_n, show (0 : Int32) = nI 0 from rfl, nI_ltI (by omega) (by omega)]; omega), fun _ => ?_⟩
        have hu := h.2.1.2.2 _ (zGS_lt g (by omega)).1
        have q5' := of_decide_eq_true q5
        have hu2 : sUnits st g = st (zGS g).toNatClampNeg := rfl
        obtain ⟨y0, y1, y2⟩ := sCnt_ex (D := D) (kd := kd) (c := c') (g := g) (j := sRest D P) n (by omega)
        have nD : ¬ nI D = 0 := by
          rw [show (0 : Int32) = nI 0 from rfl, nI_eq (by omega) (by omega)]
          omega
        have scan : ∀ (k : Nat), k < n → y0 ≤ k → (∀ y, k < y → y < n → sAt D kd c' g (sRest D P) y = false) → BX11_put_214 G Z ad ln (nI x) (nI D) (zI P) (zI (g : Int)) (nI k) a := by
          intro k
          induction k with
          | zero =>
            intro hk hy0 hno
            have e0 : y0 = 0 := by omega
            subst e0
            have hcy : c' 0 ≠ -1 := fun z => by rw [sAt_none D kd z] at y2; cases y2
            have hnx : (0 : Nat) ≠ x := fun z => hcy (by rw [z]; exact hcx)
            have y2' := y2
            unfold sAt at y2'
            simp only [Bool.and_eq_true, decide_eq_true_eq] at y2'
            obtain ⟨⟨b1, b2⟩, b3⟩ := y2'
            have cb0 := cb 0 hk
            have e17 : a 17 0 = zI (c' 0) := by rw [h17 0 hk, iup_ne _ _ hnx]
            rw [iup_ne _ _ hnx] at cb0
            refine uX11_put_214 X (nI x) (nI D) hR _ _ _ a ?_
            unfold vcX11_put_214 vcX11_put_257
            rw [nI_clamp (by omega), e17, nI_eq (by omega) (by omega)]
            have v : vp_in (nI 0) 48 := vp_in_nI (by omega) (by omega)
            have r1 := Int.emod_nonneg P (b := (D : Int)) (by omega)
            have r2 := Int.emod_lt_of_pos P (b := (D : Int)) (by omega)
            have eP : c' 0 % (D : Int) = P % (D : Int) := by
              unfold sRest at b2
              omega
            refine ⟨fun z => absurd z hnx, fun _ => ⟨v, fun z => absurd z (by rw [zI_0, zI_lt ⟨by omega, by omega⟩ ⟨by omega, by omega⟩]; omega), fun _ => ⟨v, nD, nD, fun z => absurd (by rw [zRemI (by omega) hD, zRemI (by omega) hD, eP]) z, fun _ => ?_⟩⟩⟩
            rw [← zI_n g]
            refine (r_isIn G ad ln a hT1.1 (x := 0) (g := g) hk (by omega)).mono (fun q7 a7 hq => ?_)
            obtain ⟨rfl, e⟩ := hq
            obtain rfl := e.symm
            rw [← hkd] at b3
            refine ⟨fun _ => ⟨v, ?_⟩, fun z => by rw [zb_0] at z; rw [b3] at z; cases z⟩
            have em2 := sMake_step (n := n) (D := D) (kd := kd) (st := st) (c := c') (x := x) (t := P) (g := g) (l := 0) (by omega) hk q4 q5 (fun g' z1 z2 => q6 g' (by omega) z1 z2) y2 hno
            have hf2 : zFr [17, 18] al (up2 a 17 0 (-1)) := hf.up (by decide) _ _
            have ex : ∀ y, y < n → up2 a 17 0 (-1) 17 y = zI (iup (iup c' 0 (-1)) x P y) := by
              intro y hy
              rw [iup_comm _ _ hnx]
              by_cases ey : y = 0
              · subst ey
                rw [up2_self, iup_self]
                rfl
              · rw [up2_ne _ _ (fun q => ey q.2), iup_ne _ _ ey]
                exact h17 y hy
            have ex2 : ∀ y, y < n → up2 a 17 0 (-1) 18 y = zI (iup lat x P y) := by
              intro y hy
              rw [up2_ne _ _ (fun q => absurd q.1 (by decide))]
              exact h18 y hy
            have hcx2 : iup c' 0 (-1) x = -1 := by rw [iup_ne _ _ hnx.symm]; exact hcx
            have hor2 : ∀ y, y < n → iup c' 0 (-1) y = c y ∨ iup c' 0 (-1) y = -1 := by
              intro y hy
              by_cases ey : y = 0
              · subst ey
                rw [iup_self]
                exact Or.inr rfl
              · rw [iup_ne _ _ ey]
                exact hor y hy
            have cb2 : ∀ y, y < n → -1 ≤ iup (iup c' 0 (-1)) x P y ∧ iup (iup c' 0 (-1)) x P y ≤ B + 221 := by
              intro y hy
              have h1 := (hB.2 y hy).1
              have h2 := (hcr y hy).1
              have h3 := hor2 y hy
              show -1 ≤ (if y = x then P else iup c' 0 (-1) y) ∧ (if y = x then P else iup c' 0 (-1) y) ≤ B + 221
              split <;> omega
            have hT2 : zTr (up2 a 17 0 (-1)) n rc st (iup (iup c' 0 (-1)) x P) (iup lat x P) := h.go hf2 (fun y hy => ⟨ex y hy, (cb2 y hy).1, by have := (cb2 y hy).2; omega⟩) (fun y hy => ⟨ex2 y hy, (ilat y hy).1, by have := (ilat y hy).2; omega⟩)
            refine (r_full G ad ln _ hT2 hD hx (t := P) (by omega)).mono (fun q8 a8 hq => ?_)
            obtain ⟨rfl, rfl⟩ := hq
            rw [hkd, iup_iup, iup_same hcx2]
            have p1 := (sPl_drop (c := c') (l := 0) n).1 hk hcy
            exact ihF (iup c' 0 (-1)) _ (by omega) hf2 hcx2 hor2 ex ex2 (em2.symm.trans em)
          | succ k ih =>
            intro hk hy0 hno
            have cbk := cb (k + 1) hk
            have nextk : sAt D kd c' g (sRest D P) (k + 1) = false → BX11_put_214 G Z ad ln (nI x) (nI D) (zI P) (zI (g : Int)) (nI (k + 1) + -1) a := by
              intro hs
              have e1 : nI (k + 1) + -1 = nI k := by
                rw [zI_n, zI_n, zI_m1, zI_add]
                congr 1
                omega
              rw [e1]
              refine ih (by omega) ?_ (fun y z1 z2 => ?_)
              · rcases Nat.lt_or_ge k y0 with q | q
                · have : y0 = k + 1 := by omega
                  rw [this, hs] at y2
                  cases y2
                · exact q
              · by_cases ey : y = k + 1
                · rw [ey]
                  exact hs
                · exact hno y (by omega) z2
            refine uX11_put_214 X (nI x) (nI D) hR _ _ _ a ?_
            unfold vcX11_put_214 vcX11_put_257
            rw [nI_clamp (by omega), h17 (k + 1) hk, nI_eq (by omega) (by omega)]
            have v : vp_in (nI (k + 1)) 48 := vp_in_nI (by omega) (by omega)
            refine ⟨fun z => nextk (by rw [z]; exact sAt_none D kd hcx), fun hnx => ?_⟩
            have e17 : iup c' x P (k + 1) = c' (k + 1) := iup_ne _ _ hnx
            rw [e17] at cbk ⊢
            rw [zI_0, zI_lt ⟨by omega, by omega⟩ ⟨by omega, by omega⟩]
            refine ⟨v, fun z => nextk (sAt_none D kd (by omega)), fun z => ⟨v, nD, nD, ?_⟩⟩
            have k1 := Int.emod_nonneg (c' (k + 1)) (b := (D : Int)) (by omega)
            have k2 := Int.emod_lt_of_pos (c' (k + 1)) (b := (D : Int)) (by omega)
            have r1 := Int.emod_nonneg P (b := (D : Int)) (by omega)
            have r2 := Int.emod_lt_of_pos P (b := (D : Int)) (by omega)
            have es : sAt D kd c' g (sRest D P) (k + 1) = (decide (c' (k + 1) % (D : Int) = P % (D : Int)) && zGrp (kd (k + 1)) g) := by
              unfold sAt sRest
              rw [decide_eq_true (show 0 ≤ c' (k + 1) by omega), Bool.true_and, show (((P % (D : Int)).toNat : Nat) : Int) = P % (D : Int) by omega]
            rw [zRemI (by omega) hD, zRemI (by omega) hD, zI_eq ⟨by omega, by omega⟩ ⟨by omega, by omega⟩, ← zI_n g]
            refine ⟨fun z2 => ?_, fun z2 => ?_⟩
            · have := nextk (by rw [es, decide_eq_false z2]; rfl)
              rw [← zI_n g] at this
              exact this
            · refine (r_isIn G ad ln a hT1.1 (x := k + 1) (g := g) hk (by omega)).mono (fun q7 a7 hq => ?_)
              obtain ⟨rfl, e⟩ := hq
              obtain rfl := e.symm
              have ek : rKd (rc (k + 1)) = kd (k + 1) := by rw [← hkd]
              rw [ek]
              refine ⟨fun z3 => ⟨v, ?_⟩, fun z3 => ?_⟩
              · have b3 : zGrp (kd (k + 1)) g = true := by
                  cases hz : zGrp (kd (k + 1)) g
                  · rw [hz] at z3
                    exact absurd rfl z3
                  · rfl
                have yk : sAt D kd c' g (sRest D P) (k + 1) = true := by
                  rw [es, decide_eq_true z2, b3]
                  rfl
                have hcy : c' (k + 1) ≠ -1 := by omega
                have em2 := sMake_step (n := n) (D := D) (kd := kd) (st := st) (c := c') (x := x) (t := P) (g := g) (l := k + 1) (by omega) hk q4 q5 (fun g' z1 z2 => q6 g' (by omega) z1 z2) yk hno
                have hf2 : zFr [17, 18] al (up2 a 17 (k + 1) (-1)) := hf.up (by decide) _ _
                have ex : ∀ y, y < n → up2 a 17 (k + 1) (-1) 17 y = zI (iup (iup c' (k + 1) (-1)) x P y) := by
                  intro y hy
                  rw [iup_comm _ _ hnx]
                  by_cases ey : y = k + 1
                  · subst ey
                    rw [up2_self, iup_self]
                    rfl
                  · rw [up2_ne _ _ (fun q => ey q.2), iup_ne _ _ ey]
                    exact h17 y hy
                have ex2 : ∀ y, y < n → up2 a 17 (k + 1) (-1) 18 y = zI (iup lat x P y) := by
                  intro y hy
                  rw [up2_ne _ _ (fun q => absurd q.1 (by decide))]
                  exact h18 y hy
                have hcx2 : iup c' (k + 1) (-1) x = -1 := by rw [iup_ne _ _ (Ne.symm hnx)]; exact hcx
                have hor2 : ∀ y, y < n → iup c' (k + 1) (-1) y = c y ∨ iup c' (k + 1) (-1) y = -1 := by
                  intro y hy
                  by_cases ey : y = k + 1
                  · subst ey
                    rw [iup_self]
                    exact Or.inr rfl
                  · rw [iup_ne _ _ ey]
                    exact hor y hy
                have cb2 : ∀ y, y < n → -1 ≤ iup (iup c' (k + 1) (-1)) x P y ∧ iup (iup c' (k + 1) (-1)) x P y ≤ B + 221 := by
                  intro y hy
                  have h1 := (hB.2 y hy).1
                  have h2 := (hcr y hy).1
                  have h3 := hor2 y hy
                  show -1 ≤ (if y = x then P else iup c' (k + 1) (-1) y) ∧ (if y = x then P else iup c' (k + 1) (-1) y) ≤ B + 221
                  split <;> omega
                have hT2 : zTr (up2 a 17 (k + 1) (-1)) n rc st (iup (iup c' (k + 1) (-1)) x P) (iup lat x P) := h.go hf2 (fun y hy => ⟨ex y hy, (cb2 y hy).1, by have := (cb2 y hy).2; omega⟩) (fun y hy => ⟨ex2 y hy, (ilat y hy).1, by have := (ilat y hy).2; omega⟩)
                refine (r_full G ad ln _ hT2 hD hx (t := P) (by omega)).mono (fun q8 a8 hq => ?_)
                obtain ⟨rfl, rfl⟩ := hq
                rw [hkd, iup_iup, iup_same hcx2]
                have p1 := (sPl_drop (c := c') (l := k + 1) n).1 hk hcy
                exact ihF (iup c' (k + 1) (-1)) _ (by omega) hf2 hcx2 hor2 ex ex2 (em2.symm.trans em)
              · rw [← zI_0, zb_0] at z3
                have := nextk (by rw [es, z3, Bool.and_false])
                rw [← zI_n g] at this
                exact this
        have e1 : nI n - 1 = nI (n - 1) := by
          rw [zI_n, zI_1, zI_sub, zI_n]
          congr 1
          omega
        rw [e1]
        exact scan (n - 1) (by omega) (by omega) (fun y z1 z2 => absurd z1 (by omega))
  -- the cycle is set
  have setc : vcX11_put_175 G ad ln (nI x) (nI D) (BX11_put_5 G Z ad ln (nI x) (nI D)) (BX11_put_101 G Z ad ln (nI x) (nI D)) (BX11_put_201 G Z ad ln (nI x) (nI D)) (BX11_put_214 G Z ad ln (nI x) (nI D)) (BX11_put_287 G Z ad ln (nI x) (nI D)) (fun a => zFr [17, 18] al a ∧ zTr a n rc st T (iup lat x P) ∧ ∀ y, y < n → T y ≤ B + 221 ∧ iup lat x P y ≤ B + 221) (zI P) al := by
    unfold vcX11_put_175
    rw [nI_clamp (by omega)]
    have v : vp_in (nI x) 48 := vp_in_nI (by omega) (by omega)
    have hf2 : zFr [17, 18] al (up2 (up2 al 17 x (zI P)) 18 x (zI P)) := (zFr.rf.up (by decide) _ _).up (by decide) _ _
    have ex : ∀ y, y < n → up2 (up2 al 17 x (zI P)) 18 x (zI P) 17 y = zI (iup c x P y) := by
      intro y hy
      rw [up2_ne _ _ (fun q => absurd q.1 (by decide))]
      by_cases ey : y = x
      · subst ey
        rw [up2_self, iup_self]
      · rw [up2_ne _ _ (fun q => ey q.2), iup_ne _ _ ey]
        exact (h.2.2.1 y hy).1
    have ex2 : ∀ y, y < n → up2 (up2 al 17 x (zI P)) 18 x (zI P) 18 y = zI (iup lat x P y) := by
      intro y hy
      by_cases ey : y = x
      · subst ey
        rw [up2_self, iup_self]
      · rw [up2_ne _ _ (fun q => ey q.2), up2_ne _ _ (fun q => absurd q.1 (by decide)), iup_ne _ _ ey]
        exact (h.2.2.2 y hy).1
    have cb2 : ∀ y, y < n → -1 ≤ iup c x P y ∧ iup c x P y ≤ B + 221 := by
      intro y hy
      have h1 := (hB.2 y hy).1
      have h2 := (hcr y hy).1
      unfold iup
      split <;> omega
    have hT2 : zTr (up2 (up2 al 17 x (zI P)) 18 x (zI P)) n rc st (iup c x P) (iup lat x P) := h.go hf2 (fun y hy => ⟨ex y hy, (cb2 y hy).1, by have := (cb2 y hy).2; omega⟩) (fun y hy => ⟨ex2 y hy, (ilat y hy).1, by have := (ilat y hy).2; omega⟩)
    refine ⟨v, v, (r_full G ad ln _ hT2 hD hx (t := P) (by omega)).mono (fun q8 a8 hq => ?_)⟩
    obtain ⟨rfl, rfl⟩ := hq
    rw [hkd, iup_iup, iup_same hc]
    exact room (sPl c n) c _ (Nat.le_refl _) hf2 hc (fun y _ => Or.inl rfl) ex ex2 rfl
  -- which cycle
  have pick : ∀ t : Int, t = sFirst n D kd st c x D (sEar D fr to ov dl c x m) → vcX11_put_137 G ad ln (nI x) (nI D) (BX11_put_5 G Z ad ln (nI x) (nI D)) (BX11_put_101 G Z ad ln (nI x) (nI D)) (BX11_put_201 G Z ad ln (nI x) (nI D)) (BX11_put_214 G Z ad ln (nI x) (nI D)) (BX11_put_287 G Z ad ln (nI x) (nI D)) (fun a => zFr [17, 18] al a ∧ zTr a n rc st T (iup lat x P) ∧ ∀ y, y < n → T y ≤ B + 221 ∧ iup lat x P y ≤ B + 221) (zI (sEar D fr to ov dl c x m)) (zI t) al := by
    intro t et
    subst et
    unfold vcX11_put_137 vcX11_put_172 vcX11_put_173
    obtain ⟨l1, l2, l3⟩ := h.2.2.2 x hx
    have v : vp_in (nI x) 48 := vp_in_nI (by omega) (by omega)
    rw [nI_clamp (by omega), l1, zI_0, zI_le ⟨by omega, by omega⟩ ⟨by omega, by omega⟩, zI_lt ⟨by omega, by omega⟩ ⟨by omega, by omega⟩, zI_lt ⟨by omega, by omega⟩ ⟨by omega, by omega⟩, zI_1, zI_add]
    refine ⟨fun q => ?_, fun q => ⟨v, fun q2 => ?_, fun q2 => ⟨v, fun q3 => ?_, fun q3 => ⟨v, ?_⟩⟩⟩⟩
    · rw [if_neg (by omega)] at pdef
      rw [← pdef]
      exact setc
    · rw [if_pos (by omega), if_neg (fun z => by omega)] at pdef
      rw [← pdef]
      exact setc
    · rw [if_pos (by omega), if_neg (fun z => by omega)] at pdef
      rw [← pdef]
      exact setc
    · rw [if_pos (by omega), if_pos ⟨by omega, by omega⟩] at pdef
      rw [← pdef]
      exact setc
  have first : ∀ (f k : Nat), k + f = D → sFirst n D kd st c x D (sEar D fr to ov dl c x m) = sFirst n D kd st c x f (sEar D fr to ov dl c x m + (k : Int)) → BX11_put_101 G Z ad ln (nI x) (nI D) (zI (sEar D fr to ov dl c x m)) (-1) (nI k) al := by
    intro f
    induction f with
    | zero =>
      intro k hk e
      refine uX11_put_101 X (nI x) (nI D) hR _ _ _ al ?_
      unfold vcX11_put_101
      have : k = D := by omega
      subst this
      exact ⟨fun _ => by rw [zI_m1]; exact pick (-1) (by rw [e]; rfl), fun z => absurd (Int32.le_refl _) z⟩
    | succ f ih =>
      intro k hk e
      refine uX11_put_101 X (nI x) (nI D) hR _ _ _ al ?_
      unfold vcX11_put_101 vcX11_put_131
      rw [nI_1]
      refine ⟨fun z => absurd z (by rw [nI_leI (by omega) (by omega)]; omega), fun _ => ⟨fun z => absurd z (by decide), fun _ => ?_⟩⟩
      rw [zI_n k, zI_add]
      refine (r_full G ad ln al h hD hx (t := sEar D fr to ov dl c x m + (k : Int)) (by omega)).mono (fun q a hq => ?_)
      obtain ⟨rfl, e2⟩ := hq
      obtain rfl := e2.symm
      rw [hkd, iup_same hc]
      have e3 : sFirst n D kd st c x (f + 1) (sEar D fr to ov dl c x m + (k : Int)) = (if sRoom n D kd st c x (sEar D fr to ov dl c x m + (k : Int)) = true then sEar D fr to ov dl c x m + (k : Int) else sFirst n D kd st c x f (sEar D fr to ov dl c x m + (k : Int) + 1)) := rfl
      have er : sRoom n D kd st c x (sEar D fr to ov dl c x m + (k : Int)) = true ↔ sFl n D kd st c x (sEar D fr to ov dl c x m + (k : Int)) 4 0 = -1 := sFl_room 4 0
      have fr4 := sFl_rng (n := n) (D := D) (kd := kd) (st := st) (c := c) (x := x) (t := sEar D fr to ov dl c x m + (k : Int)) 4 0
      have frb : -1 ≤ sFl n D kd st c x (sEar D fr to ov dl c x m + (k : Int)) 4 0 ∧ sFl n D kd st c x (sEar D fr to ov dl c x m + (k : Int)) 4 0 < 4 := by
        rcases fr4 with q | ⟨g, q1, q2, q3, -⟩ <;> omega
      rw [zI_0, zI_le ⟨by omega, by omega⟩ ⟨by omega, by omega⟩]
      refine ⟨fun q => ?_, fun q => ?_⟩
      · refine ih (k + 1) (by omega) ?_
        rw [e, e3, if_neg (fun z => by have := er.mp z; omega)]
        rw [show sEar D fr to ov dl c x m + (k : Int) + 1 = sEar D fr to ov dl c x m + ((k + 1 : Nat) : Int) by omega]
      · rw [e3, if_pos (er.mpr (by omega))] at e
        refine uX11_put_101 X (nI x) (nI D) hR _ _ _ al ?_
        unfold vcX11_put_101
        have fin := pick (sEar D fr to ov dl c x m + (k : Int)) e.symm
        exact ⟨fun _ => fin, fun _ => ⟨fun _ => fin, fun z => absurd (by rw [zI_0, zI_le ⟨by omega, by omega⟩ ⟨by omega, by omega⟩]; omega) z⟩⟩
  have early : ∀ (f i : Nat), i + f = m → BX11_put_5 G Z ad ln (nI x) (nI D) (zI (sEar D fr to ov dl c x i)) (nI i) al := by
    intro f
    induction f with
    | zero =>
      intro i hif
      refine uX11_put_5 X (nI x) (nI D) hR _ _ al ?_
      unfold vcX11_put_5
      have : i = m := by omega
      subst this
      rw [h28]
      refine ⟨fun _ => first D 0 (by omega) ?_, fun z => absurd (Int32.le_refl _) z⟩
      rw [show sEar D fr to ov dl c x i + ((0 : Nat) : Int) = sEar D fr to ov dl c x i by omega]
    | succ f ih =>
      intro i hif
      refine uX11_put_5 X (nI x) (nI D) hR _ _ al ?_
      unfold vcX11_put_5 vcX11_put_89
      obtain ⟨⟨w1, w2, w3, w4⟩, w5, w6, w7, w8⟩ := hi i (by omega)
      have hb := pBound hi' hD.2 hcr (i := i) (by omega)
      have he2 := pEar hi' hD.2 hcr (fun y hy => (hB.2 y hy).1) x i (by omega)
      obtain ⟨c1, c2, c3⟩ := h.2.2.1 (fr i) w5
      have i1 := ih (i + 1) (by omega)
      unfold sEar at i1
      have eb : zI (c (fr i)) + nI (dl i) - nI (ov i) * nI D = zI (sBound D fr ov dl c i) := by
        rw [zI_n, zI_n, zI_n, zI_mul, zI_add, zI_sub]
        rfl
      have v : vp_in (nI i) 4608 := vp_in_nI (by omega) (by omega)
      have v1 : vp_in (nI (fr i)) 48 := vp_in_nI (by omega) (by omega)
      have hcb := (hB.2 (fr i) w5).1
      rw [h28, nI_clamp (by omega), w1, w2, w3, w4, nI_clamp (by omega), c1, nI_1, nI_eq (by omega) (by omega), nI_eq (by omega) (by omega), eb, zI_mx ⟨by omega, by omega⟩ ⟨by omega, by omega⟩, zI_0, zI_le ⟨by omega, by omega⟩ ⟨by omega, by omega⟩]
      have no : ¬ (to i = x ∧ fr i ≠ x ∧ c (fr i) ≠ -1) → BX11_put_5 G Z ad ln (nI x) (nI D) (zI (sEar D fr to ov dl c x i)) (nI (i + 1)) al := by
        intro hno
        rw [if_neg hno] at i1
        exact i1
      refine ⟨fun z => absurd z (by rw [nI_leI (by omega) (by omega)]; omega), fun _ => ⟨v, fun q => no (fun z => q z.1), fun q => ⟨v, fun q2 => no (fun z => z.2.1 q2), fun q2 => ⟨v, v1, fun q3 => ⟨v, v1, v, v, ?_⟩, fun q3 => no (fun z => by omega)⟩⟩⟩⟩
      rw [if_pos ⟨q, q2, by omega⟩] at i1
      exact i1
  refine uX11_put_0 X (nI x) (nI D) hR al ?_
  unfold vcX11_put_0
  exact early m 0 (by omega)
end REFT2
