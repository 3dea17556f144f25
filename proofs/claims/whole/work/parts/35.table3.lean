-- needs: 34
/-! the class's table, to its end: a TRY, the next row, all of them at a distance -/
section TPURE
variable {n D : Nat} {kd st : Nat → Nat} {m : Nat} {fr to ov dl : Nat → Nat}
theorem sFirst_rng {c : Nat → Int} {x : Nat} : ∀ (f : Nat) (t : Int), 0 ≤ t → sFirst n D kd st c x f t = -1 ∨ (t ≤ sFirst n D kd st c x f t ∧ sFirst n D kd st c x f t < t + f)
  | 0, t, _ => Or.inl rfl
  | f + 1, t, h => by
    unfold sFirst
    by_cases q : sRoom n D kd st c x t = true
    · rw [if_pos q]
      right
      omega
    · rw [if_neg q]
      have := sFirst_rng (c := c) (x := x) f (t + 1) (by omega)
      omega
theorem sDropG_or {g : Nat} {t : Int} : ∀ (y : Nat) (c : Nat → Int) (z : Nat), sDropG n D kd st g t y c z = c z ∨ sDropG n D kd st g t y c z = -1
  | 0, c, z => Or.inl rfl
  | y + 1, c, z => by
    unfold sDropG
    by_cases q : sFull n D kd st c g t = true
    · rw [if_pos q]
      by_cases q2 : sAt D kd c g (sRest D t) y = true
      · rw [if_pos q2]
        rcases sDropG_or (g := g) (t := t) y (iup c y (-1)) z with h | h
        · rw [h]
          by_cases e : z = y
          · subst e
            rw [iup_self]
            exact Or.inr rfl
          · rw [iup_ne c _ e]
            exact Or.inl rfl
        · exact Or.inr h
      · rw [if_neg q2]
        exact sDropG_or y c z
    · rw [if_neg q]
      exact Or.inl rfl
theorem sMake_or {x : Nat} {t : Int} : ∀ (f g : Nat) (c : Nat → Int) (z : Nat), sMake n D kd st x t f g c z = c z ∨ sMake n D kd st x t f g c z = -1
  | 0, g, c, z => Or.inl rfl
  | f + 1, g, c, z => by
    unfold sMake
    by_cases q : zGrp (kd x) g = true
    · rw [if_pos q]
      rcases sMake_or (x := x) (t := t) f (g + 1) (sDropG n D kd st g t n c) z with h | h
      · rw [h]
        exact sDropG_or n c z
      · exact Or.inr h
    · rw [if_neg q]
      exact sMake_or f (g + 1) c z
theorem sBrk_or {x : Nat} : ∀ (f i : Nat) (c : Nat → Int) (z : Nat), sBrk D fr to ov dl x f i c z = c z ∨ sBrk D fr to ov dl x f i c z = -1
  | 0, i, c, z => Or.inl rfl
  | f + 1, i, c, z => by
    unfold sBrk
    by_cases q : sBad D fr to ov dl x c i = true
    · rw [if_pos q]
      rcases sBrk_or (x := x) f (i + 1) (iup c (if fr i = x then to i else fr i) (-1)) z with h | h
      · rw [h]
        by_cases e : z = (if fr i = x then to i else fr i)
        · rw [e, iup_self]
          exact Or.inr rfl
        · rw [iup_ne c _ e]
          exact Or.inl rfl
      · exact Or.inr h
    · rw [if_neg q]
      exact sBrk_or f (i + 1) c z
theorem sBest_rng {c h : Nat → Int} : ∀ k, -1 ≤ sBest c h k ∧ sBest c h k < k ∧ (sBest c h k ≠ -1 → c (sBest c h k).toNat = -1)
  | 0 => ⟨by unfold sBest; decide, by unfold sBest; decide, fun q => absurd rfl q⟩
  | k + 1 => by
    have ih := sBest_rng (c := c) (h := h) k
    unfold sBest
    by_cases q : c k = -1 ∧ (sBest c h k = -1 ∨ h (sBest c h k).toNat < h k)
    · rw [if_pos q]
      exact ⟨by omega, by omega, fun _ => by rw [show ((k : Nat) : Int).toNat = k by omega]; exact q.1⟩
    · rw [if_neg q]
      exact ⟨ih.1, by omega, ih.2.2⟩
def sMin (c : Nat → Int) : Nat → Int
  | 0 => c 0
  | k + 1 => if c k < sMin c k then c k else sMin c k
def sMax (c : Nat → Int) : Nat → Int
  | 0 => c 0
  | k + 1 => if sMax c k < c k then c k else sMax c k
end TPURE
section TABLE3
variable (G : zG) (r : Bool) (ad ln : Nat → Nat) (al : Nat → Nat → Int32) {n D : Nat} {kd st : Nat → Nat} {c lat : Nat → Int} {m : Nat} {fr to ov dl : Nat → Nat}
theorem sPick_rng (hw : zWt al ln n m fr to ov dl) (h : zTb0 al n D kd st c lat) {B : Int} (hB : 0 ≤ B ∧ ∀ x, x < n → c x ≤ B ∧ lat x ≤ B) {x : Nat} (hx : x < n) : 0 ≤ sPick n D kd st m fr to ov dl c lat x ∧ sPick n D kd st m fr to ov dl c lat x ≤ B + 221 := by
  have he := sEar_rng ln al hw h (fun y hy => (hB.2 y hy).1) x m (Nat.le_refl _)
  have hD := h.2.2.2.1
  have hf := sFirst_rng (n := n) (D := D) (kd := kd) (st := st) (c := c) (x := x) D (sEar D fr to ov dl c x m) he.1
  have hl := (hB.2 x hx).2
  have hl2 := h.2.2.2.2.2.2.1 x hx
  unfold sPick
  by_cases q : sFirst n D kd st c x D (sEar D fr to ov dl c x m) = -1
  · rw [if_pos q]
    split <;> omega
  · rw [if_neg q]
    omega
theorem c_tryRow (hw : zWt al ln n m fr to ov dl) (h : zTb al n D kd st c lat) {B : Int} (hB : (0 ≤ B ∧ B ≤ 900000) ∧ ∀ x, x < n → c x ≤ B ∧ lat x ≤ B) {x : Nat} (hx : x < n) (hc : c x = -1) : zMv G yX7_tryRow wsX7_tryRow rmX7_tryRow (zTC r) ad ln [.ref (ad 18), .int (nI x)] al (fun a => zFr [19, 20, 21] al a ∧ zTb a n D kd st (sTry n D kd st m fr to ov dl c lat x) (iup lat x (sPick n D kd st m fr to ov dl c lat x)) ∧ ∀ y, y < n → sTry n D kd st m fr to ov dl c lat x y ≤ B + 221 ∧ iup lat x (sPick n D kd st m fr to ov dl c lat x) y ≤ B + 221) := by
  refine zMv.of (cc := cX7_tryRow) (nL := 4) (by decide) rfl (Nat.le_of_ble_eq_true rfl) (fun Z X hR => ?_)
  have hn := h.1.2.1
  have hD := h.1.2.2.2.1
  have he := sEar_rng ln al hw h.1 (fun y hy => (hB.2 y hy).1) x m (Nat.le_refl _)
  have hpk := sPick_rng ln al hw h.1 ⟨hB.1.1, hB.2⟩ hx
  have hfi := sFirst_rng (n := n) (D := D) (kd := kd) (st := st) (c := c) (x := x) D (sEar D fr to ov dl c x m) he.1
  have hl := h.1.2.2.2.2.2.2.1 x hx
  -- the cycle is set
  have fin : ∀ (c1 : Nat → Int) (a1 : Nat → Nat → Int32), zFr [19, 21] al a1 → zTb a1 n D kd st c1 lat → (∀ y, y < n → c1 y = c y ∨ c1 y = -1) → sTry n D kd st m fr to ov dl c lat x = sBrk D fr to ov dl x m 0 (iup c1 x (sPick n D kd st m fr to ov dl c lat x)) → vcX7_tryRow_57 G r ad ln (nI x) (fun a => zFr [19, 20, 21] al a ∧ zTb a n D kd st (sTry n D kd st m fr to ov dl c lat x) (iup lat x (sPick n D kd st m fr to ov dl c lat x)) ∧ ∀ y, y < n → sTry n D kd st m fr to ov dl c lat x y ≤ B + 221 ∧ iup lat x (sPick n D kd st m fr to ov dl c lat x) y ≤ B + 221) (zI (sPick n D kd st m fr to ov dl c lat x)) a1 := by
    intro c1 a1 hfr h1 hor ht
    generalize hp : sPick n D kd st m fr to ov dl c lat x = p at *
    have hin : vp_in (nI x) 48 := vp_in_nI (by omega) (by omega)
    unfold vcX7_tryRow_57
    rw [nI_clamp (by omega)]
    refine ⟨hin, hin, ?_⟩
    have hcx : c1 x = -1 := by
      rcases hor x hx with q | q
      · rw [q, hc]
      · exact q
    have hfr2 : zFr [19, 20, 21] al (up2 (up2 a1 19 x (zI p)) 20 x (zI p)) := ((hfr.mono (by decide)).up (by decide) _ _).up (by decide) _ _
    have hfr3 : zFr [19, 20, 21] a1 (up2 (up2 a1 19 x (zI p)) 20 x (zI p)) := (zFr.rf.up (by decide) _ _).up (by decide) _ _
    have h6 := h1.1.2.2.2.2.2.1
    have h7 := h1.1.2.2.2.2.2.2.1
    have h2 : zTb0 (up2 (up2 a1 19 x (zI p)) 20 x (zI p)) n D kd st (iup c1 x p) (iup lat x p) := h1.1.up hfr3 (fun y hy => by
      rw [up2_ne _ _ (fun z => absurd z.1 (by decide))]
      by_cases e : y = x
      · subst e
        rw [up2_self, iup_self]
        exact ⟨rfl, by omega, by omega⟩
      · rw [up2_ne _ _ (fun z => e z.2), iup_ne c1 _ e]
        exact h6 y hy) (fun y hy => by
      by_cases e : y = x
      · subst e
        rw [up2_self, iup_self]
        exact ⟨rfl, by omega, by omega⟩
      · rw [up2_ne _ _ (fun z => e z.2), up2_ne _ _ (fun z => absurd z.1 (by decide)), iup_ne lat _ e]
        exact h7 y hy)
    refine (c_changeUse G r ad ln _ h2 hx (by rw [iup_self]; omega) 1).mono (fun a2 hq => ?_)
    obtain ⟨hfr4, hu⟩ := hq
    have hfr5 : zFr [19, 20, 21] al a2 := hfr2.tr (hfr4.mono (by decide))
    have h3 : zTb a2 n D kd st (iup c1 x p) (iup lat x p) := by
      refine ⟨h2.up (hfr4.mono (by decide)) (fun y hy => ?_) (fun y hy => ?_), fun g j hg hj => ?_⟩
      · rw [hfr4 19 (by decide)]
        exact h2.2.2.2.2.2.1 y hy
      · rw [hfr4 20 (by decide)]
        exact h2.2.2.2.2.2.2.1 y hy
      · rw [hu g j hg hj, up2_ne _ _ (fun z => absurd z.1 (by decide)), up2_ne _ _ (fun z => absurd z.1 (by decide)), h1.2 g j hg hj]
        have e := sCnt_up D kd (c := c1) (x := x) (v := p) (g := g) (j := j) n hx
        rw [sAt_none D kd hcx] at e
        by_cases q : sAt D kd (iup c1 x p) g j x = true
        · rw [if_pos q] at e ⊢
          rw [nI_1, show sCnt D kd (iup c1 x p) g j n = sCnt D kd c1 g j n + 1 by simp at e; omega]
        · rw [if_neg q] at e ⊢
          rw [Int32.add_zero, show sCnt D kd (iup c1 x p) g j n = sCnt D kd c1 g j n by simp at e; omega]
    have hw2 : zWt a2 ln n m fr to ov dl := hw.fr (hfr5 12 (by decide) ▸ rfl) (hfr5 13 (by decide)) (hfr5 14 (by decide)) (hfr5 15 (by decide)) (hfr5 16 (by decide))
    refine (c_dropBroken G r ad ln a2 hw2 h3 hx).mono (fun a3 hq => ?_)
    rw [ht]
    refine ⟨hfr5.tr (hq.1.mono (by decide)), hq.2, fun y hy => ⟨?_, ?_⟩⟩
    · rcases sBrk_or (D := D) (fr := fr) (to := to) (ov := ov) (dl := dl) (x := x) m 0 (iup c1 x p) y with q | q
      · rw [q]
        by_cases e : y = x
        · subst e
          rw [iup_self]
          omega
        · rw [iup_ne c1 _ e]
          have := (hB.2 y hy).1
          rcases hor y hy with q2 | q2 <;> omega
      · rw [q]
        omega
    · by_cases e : y = x
      · subst e
        rw [iup_self]
        omega
      · rw [iup_ne lat _ e]
        have := (hB.2 y hy).2
        omega
  refine tX7_tryRow_0 X _ hR al ?_
  unfold vcX7_tryRow_0
  refine (c_earliestOf G r ad ln al hw h.1 hx).mono (fun q a hq => ?_)
  obtain ⟨rfl, e2⟩ := hq
  obtain rfl := e2.symm
  refine (c_firstWithRoom G r ad ln al h hx ⟨he.1, by omega⟩).mono (fun q a hq => ?_)
  obtain ⟨rfl, e2⟩ := hq
  obtain rfl := e2.symm
  rw [zI_m1, zI_eq ⟨by omega, by omega⟩ ⟨by omega, by omega⟩]
  refine ⟨fun q => ?_, fun q => ⟨vp_in_nI (by omega) (by omega), ?_⟩⟩
  · have ep : sPick n D kd st m fr to ov dl c lat x = sFirst n D kd st c x D (sEar D fr to ov dl c x m) := by
      unfold sPick
      rw [if_neg q]
    have := fin c al zFr.rf h (fun y _ => Or.inl rfl) (by unfold sTry; rw [if_neg q])
    rw [ep] at this ⊢
    exact this
  · have room : ∀ p : Int, sPick n D kd st m fr to ov dl c lat x = p → vcX7_tryRow_50 G r ad ln (nI x) (fun a => zFr [19, 20, 21] al a ∧ zTb a n D kd st (sTry n D kd st m fr to ov dl c lat x) (iup lat x (sPick n D kd st m fr to ov dl c lat x)) ∧ ∀ y, y < n → sTry n D kd st m fr to ov dl c lat x y ≤ B + 221 ∧ iup lat x (sPick n D kd st m fr to ov dl c lat x) y ≤ B + 221) (zI p) al := by
      intro p ep
      subst ep
      unfold vcX7_tryRow_50
      refine (c_makeRoom G r ad ln al h hx (t := sPick n D kd st m fr to ov dl c lat x) ⟨by omega, by omega⟩).mono (fun a1 hq => ?_)
      exact fin _ a1 hq.1 hq.2 (fun y _ => sMake_or 4 0 c y) (by unfold sTry; rw [if_pos q])
    unfold vcX7_tryRow_49
    rw [nI_clamp (by omega), hl.1, zI_eq ⟨by omega, by omega⟩ ⟨by omega, by omega⟩, zI_lt ⟨by omega, by omega⟩ ⟨by omega, by omega⟩]
    have hin : vp_in (nI x) 48 := vp_in_nI (by omega) (by omega)
    refine ⟨fun q2 => room _ ?_, fun q2 => ⟨hin, fun q3 => room _ ?_, fun q3 => ⟨hin, ?_⟩⟩⟩
    · unfold sPick
      rw [if_pos q, if_neg (fun z => z.1 q2)]
    · unfold sPick
      rw [if_pos q, if_neg (fun z => by omega)]
    · rw [zI_1, zI_add]
      refine room _ ?_
      unfold sPick
      rw [if_pos q, if_pos ⟨q2, by omega⟩]
theorem c_highestWithout (h : zTb0 al n D kd st c lat) {hh : Nat → Int} (hh1 : ∀ x, x < n → al 17 x = zI (hh x) ∧ zR (hh x)) : zMi G yX7_highestWithout wsX7_highestWithout rmX7_highestWithout (zTC r) ad ln [.ref (ad 18)] al (fun q a => q = zI (sBest c hh n) ∧ a = al) := by
  refine zMi.of (cc := cX7_highestWithout) (nL := 3) (rt := .int) (by decide) rfl (Nat.le_of_ble_eq_true rfl) (fun Z X hR => ?_)
  obtain ⟨h1, h2, h3, h4, h5, h6, h7, h8⟩ := h
  have loop : ∀ (f k : Nat), k + f = n → BX7_highestWithout_4 G Z r ad ln (zI (sBest c hh k)) (nI k) al := by
    intro f
    induction f with
    | zero =>
      intro k hk
      refine uX7_highestWithout_4 X hR _ _ _ ?_
      unfold vcX7_highestWithout_4
      rw [h1, nI_leI (by omega) (by omega)]
      refine ⟨fun _ => ⟨?_, rfl⟩, fun q => absurd (by omega) q⟩
      rw [show k = n by omega]
    | succ f ih =>
      intro k hk
      have nxt := ih (k + 1) (by omega)
      have hb := sBest_rng (c := c) (h := hh) k
      have h6k := h6 k (by omega)
      refine uX7_highestWithout_4 X hR _ _ _ ?_
      unfold vcX7_highestWithout_4 vcX7_highestWithout_50 vcX7_highestWithout_52
      rw [h1, nI_leI (by omega) (by omega), nI_clamp (by omega), h6k.1, zI_m1, zI_eq ⟨by omega, by omega⟩ ⟨by omega, by omega⟩, nI_1, zI_clamp ⟨by omega, by omega⟩, zI_0, zI_lt ⟨by omega, by omega⟩ ⟨by omega, by omega⟩, (hh1 k (by omega)).1]
      have take : c k = -1 ∧ (sBest c hh k = -1 ∨ hh (sBest c hh k).toNat < hh k) → BX7_highestWithout_4 G Z r ad ln (nI k) (nI (k + 1)) al := by
        intro q
        have : sBest c hh (k + 1) = (k : Int) := by
          show (if _ then _ else _) = _
          rw [if_pos q]
        rw [this, ← zI_n] at nxt
        exact nxt
      have skip : ¬ (c k = -1 ∧ (sBest c hh k = -1 ∨ hh (sBest c hh k).toNat < hh k)) → BX7_highestWithout_4 G Z r ad ln (zI (sBest c hh k)) (nI (k + 1)) al := by
        intro q
        have : sBest c hh (k + 1) = sBest c hh k := by
          show (if _ then _ else _) = _
          rw [if_neg q]
        rw [this] at nxt
        exact nxt
      refine ⟨fun q => absurd q (by omega), fun _ => ⟨vp_in_nI (by omega) (by omega), fun q => skip (fun z => q z.1), fun q1 => ⟨fun q => take ⟨q1, Or.inl (by omega)⟩, fun q2 => ⟨vp_in_nI (by omega) (by omega), zvp (by omega) (by omega) (by omega), ?_⟩⟩⟩⟩
      have hbb := hh1 (sBest c hh k).toNat (by omega)
      rw [hbb.1, zI_le (hh1 k (by omega)).2 hbb.2]
      exact ⟨fun q => skip (fun z => z.2.elim (fun e => by omega) (fun e => by omega)), fun q => take ⟨q1, Or.inr (by omega)⟩⟩
  refine uX7_highestWithout_0 X hR al ?_
  unfold vcX7_highestWithout_0
  exact loop n 0 (by omega)
theorem sMin_le {c : Nat → Int} {lo hi : Int} : ∀ k, (∀ x, x < k + 1 → lo ≤ c x ∧ c x ≤ hi) → lo ≤ sMin c k ∧ sMin c k ≤ hi ∧ lo ≤ sMax c k ∧ sMax c k ≤ hi
  | 0, h => by
    have := h 0 (by omega)
    exact ⟨this.1, this.2, this.1, this.2⟩
  | k + 1, h => by
    have ih := sMin_le k (fun x hx => h x (by omega))
    have := h k (by omega)
    unfold sMin sMax
    constructor
    · split <;> omega
    constructor
    · split <;> omega
    constructor
    · split <;> omega
    · split <;> omega
/-- the least cycle is taken from all -/
theorem c_moveToZero (h : zTb0 al n D kd st c lat) (hn0 : 0 < n) (hc : ∀ x, x < n → 0 ≤ c x) : zMv G yX7_moveToZero wsX7_moveToZero rmX7_moveToZero (zTC r) ad ln [.ref (ad 18)] al (fun a => zFr [18, 19] al a ∧ (∀ j, j ≠ 8 → a 18 j = al 18 j) ∧ a 18 8 = zI (sMax c n - sMin c n) ∧ ∀ x, x < n → a 19 x = zI (c x - sMin c n)) := by
  refine zMv.of (cc := cX7_moveToZero) (nL := 3) (by decide) rfl (Nat.le_of_ble_eq_true rfl) (fun Z X hR => ?_)
  obtain ⟨h1, h2, h3, h4, h5, h6, h7, h8⟩ := h
  have hmm : ∀ k, k ≤ n → (0 ≤ sMin c k ∧ sMin c k ≤ 1000000) ∧ 0 ≤ sMax c k ∧ sMax c k ≤ 1000000 := by
    intro k
    induction k with
    | zero =>
      intro _
      have := hc 0 hn0
      have := h6 0 hn0
      exact ⟨⟨by show 0 ≤ c 0; omega, by show c 0 ≤ 1000000; omega⟩, by show 0 ≤ c 0; omega, by show c 0 ≤ 1000000; omega⟩
    | succ k ih =>
      intro hk
      have i1 := ih (by omega)
      have := hc k (by omega)
      have := h6 k (by omega)
      unfold sMin sMax
      refine ⟨⟨?_, ?_⟩, ?_, ?_⟩ <;> split <;> omega
  have lo2 : ∀ (f k : Nat) (a : Nat → Nat → Int32), k + f = n → zFr [18, 19] al a → (∀ j, j ≠ 8 → a 18 j = al 18 j) → a 18 8 = zI (sMax c n) → (∀ x, x < n → a 19 x = if x < k then zI (c x - sMin c n) else zI (c x)) → BX7_moveToZero_66 G Z r ad ln (zI (sMin c n)) (nI k) a := by
    intro f
    induction f with
    | zero =>
      intro k a hk hfr h18 hg ha
      refine uX7_moveToZero_66 X hR _ _ _ ?_
      unfold vcX7_moveToZero_66
      rw [hfr 4 (by decide), h1, nI_leI (by omega) (by omega), hg, zI_sub]
      refine ⟨fun _ => ⟨hfr.up (by decide) _ _, fun j hj => ?_, up2_self _ _ _ _, fun x hx => ?_⟩, fun q => absurd (by omega) q⟩
      · rw [up2_ne _ _ (fun z => hj z.2)]
        exact h18 j hj
      · rw [up2_ne _ _ (fun z => absurd z.1 (by decide)), ha x hx, if_pos (by omega)]
    | succ f ih =>
      intro k a hk hfr h18 hg ha
      refine uX7_moveToZero_66 X hR _ _ _ ?_
      unfold vcX7_moveToZero_66
      have hin : vp_in (nI k) 48 := vp_in_nI (by omega) (by omega)
      rw [hfr 4 (by decide), h1, nI_leI (by omega) (by omega), nI_clamp (by omega), ha k (by omega), if_neg (by omega), zI_sub, nI_1]
      refine ⟨fun q => absurd q (by omega), fun _ => ⟨hin, hin, ih (k + 1) _ (by omega) (hfr.up (by decide) _ _) (fun j hj => ?_) ?_ (fun x hx => ?_)⟩⟩
      · rw [up2_ne _ _ (fun z => absurd z.1 (by decide))]
        exact h18 j hj
      · rw [up2_ne _ _ (fun z => absurd z.1 (by decide))]
        exact hg
      · by_cases e : x = k
        · subst e
          rw [up2_self, if_pos (by omega)]
        · rw [up2_ne _ _ (fun z => e z.2), ha x hx]
          by_cases q : x < k
          · rw [if_pos q, if_pos (by omega)]
          · rw [if_neg q, if_neg (by omega)]
  have lo1 : ∀ (f k : Nat) (a : Nat → Nat → Int32), k + f = n → zFr [18] al a → (∀ j, j ≠ 8 → a 18 j = al 18 j) → a 18 8 = zI (sMax c k) → BX7_moveToZero_19 G Z r ad ln (zI (sMin c k)) (nI k) a := by
    intro f
    induction f with
    | zero =>
      intro k a hk hfr h18 hg
      refine uX7_moveToZero_19 X hR _ _ _ ?_
      unfold vcX7_moveToZero_19
      rw [hfr 4 (by decide), h1, nI_leI (by omega) (by omega)]
      refine ⟨fun _ => ?_, fun q => absurd (by omega) q⟩
      have e : k = n := by omega
      subst e
      refine lo2 k 0 a (by omega) (hfr.mono (by decide)) h18 hg (fun x hx => ?_)
      rw [if_neg (by omega), hfr 19 (by decide)]
      exact (h6 x hx).1
    | succ f ih =>
      intro k a hk hfr h18 hg
      have mk := hmm k (by omega)
      have h6k := h6 k (by omega)
      refine uX7_moveToZero_19 X hR _ _ _ ?_
      unfold vcX7_moveToZero_19
      have hin : vp_in (nI k) 48 := vp_in_nI (by omega) (by omega)
      rw [hfr 4 (by decide), h1, nI_leI (by omega) (by omega), nI_clamp (by omega), hfr 19 (by decide), h6k.1, hg, nI_1]
      refine ⟨fun q => absurd q (by omega), fun _ => ⟨hin, hin, ?_⟩⟩
      have e1 : (if zI (c k) < zI (sMin c k) then zI (c k) else zI (sMin c k)) = zI (sMin c (k + 1)) := by
        show _ = zI (if c k < sMin c k then c k else sMin c k)
        by_cases q : c k < sMin c k
        · rw [if_pos q, if_pos ((zI_lt ⟨by omega, by omega⟩ ⟨by omega, by omega⟩).mpr q)]
        · rw [if_neg q, if_neg (fun z => q ((zI_lt ⟨by omega, by omega⟩ ⟨by omega, by omega⟩).mp z))]
      have e2 : (if zI (sMax c k) < zI (c k) then zI (c k) else zI (sMax c k)) = zI (sMax c (k + 1)) := by
        show _ = zI (if sMax c k < c k then c k else sMax c k)
        by_cases q : sMax c k < c k
        · rw [if_pos q, if_pos ((zI_lt ⟨by omega, by omega⟩ ⟨by omega, by omega⟩).mpr q)]
        · rw [if_neg q, if_neg (fun z => q ((zI_lt ⟨by omega, by omega⟩ ⟨by omega, by omega⟩).mp z))]
      rw [e1, e2]
      exact ih (k + 1) _ (by omega) (hfr.up (by decide) _ _) (fun j hj => by rw [up2_ne _ _ (fun z => hj z.2)]; exact h18 j hj) (up2_self _ _ _ _)
  refine uX7_moveToZero_0 X hR al ?_
  unfold vcX7_moveToZero_0
  rw [(h6 0 hn0).1]
  exact ⟨by unfold vp_in; decide, by unfold vp_in; decide, lo1 n 0 _ (by omega) (zFr.rf.up (by decide) _ _) (fun j hj => up2_ne _ _ (fun z => hj z.2)) (up2_self _ _ _ _)⟩
end TABLE3
