-- needs: 24 30
/-! the waits as they lie in the arrays: m of them, over n rows; m, n and the numbers are small -/
def zWt (al : Nat → Nat → Int32) (ln : Nat → Nat) (n m : Nat) (fr to ov dl : Nat → Nat) : Prop := al 12 2 = nI m ∧ m ≤ 4608 ∧ n ≤ 48 ∧ (m ≤ ln 13 ∧ m ≤ ln 14 ∧ m ≤ ln 15 ∧ m ≤ ln 16) ∧ (ln 13 < 2147483648 ∧ ln 14 < 2147483648 ∧ ln 15 < 2147483648 ∧ ln 16 < 2147483648) ∧ ∀ i, i < m → (al 13 i = nI (fr i) ∧ al 14 i = nI (to i) ∧ al 15 i = nI (ov i) ∧ al 16 i = nI (dl i)) ∧ (fr i < n ∧ to i < n ∧ ov i ≤ 63 ∧ dl i ≤ 20)
/-- the weight of a wait at a distance -/
def zWg (ov dl : Nat → Nat) (D : Nat) (i : Nat) : Int := (dl i : Int) - (ov i : Int) * (D : Int)
theorem zWt.fr {al al' : Nat → Nat → Int32} {ln : Nat → Nat} {n m : Nat} {fr to ov dl : Nat → Nat} (h : zWt al ln n m fr to ov dl) (h12 : al' 12 2 = al 12 2) (h13 : al' 13 = al 13) (h14 : al' 14 = al 14) (h15 : al' 15 = al 15) (h16 : al' 16 = al 16) : zWt al' ln n m fr to ov dl := by
  unfold zWt
  rw [h12, h13, h14, h15, h16]
  exact h
theorem zmul_small {a b : Nat} {A B : Nat} (ha : a ≤ A) (hb : b ≤ B) : (a : Int) * (b : Int) ≤ ((A * B : Nat) : Int) ∧ 0 ≤ (a : Int) * (b : Int) := by
  have h : a * b ≤ A * B := Nat.mul_le_mul ha hb
  rw [← Int.natCast_mul]
  exact ⟨by omega, by omega⟩
section HEIGHTS
variable (G : zG) (r : Bool) (ad ln : Nat → Nat) (al : Nat → Nat → Int32) {n m : Nat} {fr to ov dl : Nat → Nat}
theorem c_raiseHeights (hw : zWt al ln n m fr to ov dl) {D B : Nat} (hD : D ≤ 1000) (hB : B ≤ 5000000) (h : Nat → Int) (hh : ∀ x, x < 48 → al 17 x = zI (h x)) (hb : ∀ x, x < 48 → 0 ≤ h x ∧ h x ≤ (B : Int)) : zMi G yX8_raiseHeights wsX8_raiseHeights rmX8_raiseHeights (zTC r) ad ln [.ref (ad 12), .int (nI D)] al (fun q a => zFr [17] al a ∧ (∀ x, x < 48 → a 17 x = zI (bfPass fr to (zWg ov dl D) m h x)) ∧ (∀ x, x < 48 → 0 ≤ bfPass fr to (zWg ov dl D) m h x ∧ bfPass fr to (zWg ov dl D) m h x ≤ ((B + 20 * m : Nat) : Int)) ∧ ((q = 0 ∧ bfOk m fr to (zWg ov dl D) h) ∨ (q = 1 ∧ ¬ bfOk m fr to (zWg ov dl D) h))) := by
  refine zMi.of (cc := cX8_raiseHeights) (nL := 5) (rt := .boolean) (by decide) rfl (Nat.le_of_ble_eq_true rfl) (fun Z X hR => ?_)
  obtain ⟨hm, hm2, hn, ⟨l13, l14, l15, l16⟩, ⟨k13, k14, k15, k16⟩, hi⟩ := hw
  generalize hww : zWg ov dl D = w at hR
  generalize hfin : bfPass fr to w m h = hf at hR
  have loop : ∀ (j : Nat) (hc : Nat → Int) (f : Bool) (a : Nat → Nat → Int32), j ≤ m → zFr [17] al a → (∀ x, x < 48 → a 17 x = zI (hc x)) → (∀ x, x < 48 → 0 ≤ hc x ∧ hc x ≤ ((B + 20 * (m - j) : Nat) : Int)) → bfPass fr to w j hc = hf → (f = true → ¬ bfOk m fr to w h) → (f = false → hc = h ∧ ∀ i, j ≤ i → i < m → h (to i) + w i ≤ h (fr i)) → BX8_raiseHeights_9 G Z r ad ln (nI D) (zb f) (zI ((j : Int) - 1)) a := by
    intro j
    induction j with
    | zero =>
      intro hc f a hj hfr ha hcb hp hf1 hf2
      refine uX8_raiseHeights_9 X _ hR _ _ _ ?_
      unfold vcX8_raiseHeights_9
      refine ⟨fun _ => ⟨zb_ok f, hfr, ?_, ?_, ?_⟩, fun q => absurd (by decide) q⟩
      · rw [← hp]
        exact ha
      · rw [← hp]
        exact fun x hx => hcb x hx
      · cases f with
        | false => exact Or.inl ⟨rfl, fun i hi' => (hf2 rfl).2 i (by omega) hi'⟩
        | true => exact Or.inr ⟨rfl, hf1 rfl⟩
    | succ j ih =>
      intro hc f a hj hfr ha hcb hp hf1 hf2
      obtain ⟨⟨e13, e14, e15, e16⟩, bf, bt, bo, bd⟩ := hi j (by omega)
      have ej : zI (((j + 1 : Nat) : Int) - 1) = nI j := by
        rw [zI_n]
        congr 1
        omega
      rw [ej]
      refine uX8_raiseHeights_9 X _ hR _ _ _ ?_
      unfold vcX8_raiseHeights_9 vcX8_raiseHeights_73
      rw [nI_clamp (by omega), hfr 13 (by decide), hfr 14 (by decide), hfr 15 (by decide), hfr 16 (by decide), e13, e14, e15, e16, nI_clamp (by omega), nI_clamp (by omega), ha _ (show to j < 48 by omega), ha _ (show fr j < 48 by omega)]
      have c1 := hcb (to j) (by omega)
      have c2 := hcb (fr j) (by omega)
      have hmul := zmul_small bo hD
      have ev : zI (hc (to j)) + nI (dl j) - nI (ov j) * nI D = zI (hc (to j) + w j) := by
        rw [zI_n, zI_n, zI_n, zI_add, zI_mul, zI_sub, ← hww]
        congr 1
        unfold zWg
        omega
      have hwj : w j = (dl j : Int) - (ov j : Int) * (D : Int) := by rw [← hww]; rfl
      rw [ev, zI_le ⟨by omega, by omega⟩ ⟨by omega, by omega⟩]
      have hdec : nI j + -1 = zI ((j : Int) - 1) := by
        rw [zI_n, zI_m1, zI_add]
        rfl
      rw [hdec]
      refine ⟨fun q => absurd q (nI_pos (by omega)), fun _ => ⟨vp_in_nI (by omega) (by omega), vp_in_nI (by omega) (by omega), vp_in_nI (by omega) (by omega), vp_in_nI (by omega) (by omega), vp_in_nI (by omega) (by omega), vp_in_nI (by omega) (by omega), fun q => ?_, fun q => ⟨vp_in_nI (by omega) (by omega), vp_in_nI (by omega) (by omega), ?_⟩⟩⟩
      · have hrel : bfRel fr to w hc j = hc := bfRel_id fr to w q
        refine ih hc f a (by omega) hfr ha (fun x hx => ?_) ?_ hf1 (fun e => ⟨(hf2 e).1, fun i h1 h2 => ?_⟩)
        · have := hcb x hx
          constructor <;> omega
        · rw [← hp]
          show _ = bfPass fr to w j (bfRel fr to w hc j)
          rw [hrel]
        · by_cases ei : i = j
          · subst ei
            rw [← (hf2 e).1]
            exact q
          · exact (hf2 e).2 i (by omega) h2
      · have hrel : bfRel fr to w hc j (fr j) = hc (to j) + w j := by
          unfold bfRel
          rw [if_pos ⟨rfl, by omega⟩]
        have hrel2 : ∀ x, x ≠ fr j → bfRel fr to w hc j x = hc x := fun x hx => by
          unfold bfRel
          rw [if_neg (fun z => hx z.1)]
        refine ih (bfRel fr to w hc j) true _ (by omega) (hfr.up (by decide) _ _) (fun x hx => ?_) (fun x hx => ?_) hp (fun _ => ?_) (fun e => by cases e)
        · by_cases ex : x = fr j
          · subst ex
            rw [up2_self, hrel]
          · rw [up2_ne _ _ (fun z => ex z.2), hrel2 x ex]
            exact ha x hx
        · by_cases ex : x = fr j
          · subst ex
            rw [hrel]
            constructor <;> omega
          · rw [hrel2 x ex]
            have := hcb x hx
            constructor <;> omega
        · cases f with
          | true => exact hf1 rfl
          | false =>
            intro ok
            have := ok j (by omega)
            have e := (hf2 rfl).1
            rw [e] at q
            exact q this
  refine uX8_raiseHeights_0 X _ hR al ?_
  unfold vcX8_raiseHeights_0
  have e0 : al 12 2 - 1 = zI ((m : Int) - 1) := by
    rw [hm, zI_n, zI_1, zI_sub]
  rw [e0]
  exact loop m h false al (Nat.le_refl _) zFr.rf hh (fun x hx => by have := hb x hx; constructor <;> omega) hfin (fun e => by cases e) (fun _ => ⟨rfl, fun i h1 h2 => absurd h2 (by omega)⟩)
/-- the heights at a distance, or that there are none -/
theorem c_findHeights (hw : zWt al ln n m fr to ov dl) (hn0 : 0 < n) (hs : al 4 1 = nI n) {D : Nat} (hD : D ≤ 1000) : zMi G yX8_findHeights wsX8_findHeights rmX8_findHeights (zTC r) ad ln [.ref (ad 12), .int (nI D)] al (fun q a => zFr [17] al a ∧ ((q = 1 ∧ ∃ h, bfMin n m fr to (zWg ov dl D) h ∧ (∀ x, x < n → a 17 x = zI (h x) ∧ h x ≤ 5000000)) ∨ (q = 0 ∧ ¬ ∃ h, bfOk m fr to (zWg ov dl D) h))) := by
  refine zMi.of (cc := cX8_findHeights) (nL := 3) (rt := .boolean) (by decide) rfl (Nat.le_of_ble_eq_true rfl) (fun Z X hR => ?_)
  have hw0 := hw
  obtain ⟨hm, hm2, hn, -, -, hi⟩ := hw0
  have hfn : ∀ i, i < m → fr i < n := fun i q => (hi i q).2.1
  have htn : ∀ i, i < m → to i < n := fun i q => (hi i q).2.2.1
  generalize hww : zWg ov dl D = w at hR
  have loop : ∀ (k p : Nat) (a : Nat → Nat → Int32), p + k = n → zFr [17] al a → (∀ x, x < 48 → a 17 x = zI (bfIt m fr to w (fun _ => 0) p x)) → (∀ x, x < 48 → 0 ≤ bfIt m fr to w (fun _ => 0) p x ∧ bfIt m fr to w (fun _ => 0) p x ≤ ((20 * m * p : Nat) : Int)) → (∀ q, q < p → ¬ bfOk m fr to w (bfIt m fr to w (fun _ => 0) q)) → BX8_findHeights_10 G Z r ad ln (nI D) (nI p) a := by
    intro k
    induction k with
    | zero =>
      intro p a hp hfr ha hb hno
      refine uX8_findHeights_10 X _ hR _ _ ?_
      unfold vcX8_findHeights_10
      rw [hfr 4 (by decide), hs, nI_leI (by omega) (by omega)]
      refine ⟨fun _ => ⟨hfr, Or.inr ⟨rfl, fun ⟨h', ok⟩ => ?_⟩⟩, fun q => absurd (by omega) q⟩
      obtain ⟨hs', mn⟩ := bf_exists n m fr to w hfn htn h' ok
      refine hno (n - 1) (by omega) (fun i hi' => ?_)
      have e := bf_done n m fr to w hfn htn mn hn0
      rw [e _ (htn i hi'), e _ (hfn i hi')]
      exact mn.1.2 i hi'
    | succ k ih =>
      intro p a hp hfr ha hb hno
      refine uX8_findHeights_10 X _ hR _ _ ?_
      unfold vcX8_findHeights_10
      rw [hfr 4 (by decide), hs, nI_leI (by omega) (by omega)]
      refine ⟨fun q => absurd q (by omega), fun _ => ?_⟩
      have hmp : 20 * m * p ≤ 20 * 4608 * 48 := Nat.mul_le_mul (Nat.mul_le_mul (Nat.le_refl _) hm2) (by omega)
      have hc := c_raiseHeights G r ad ln a (hw.fr (hfr 12 (by decide) ▸ rfl) (hfr 13 (by decide)) (hfr 14 (by decide)) (hfr 15 (by decide)) (hfr 16 (by decide))) hD (B := 20 * m * p) (by omega) (bfIt m fr to w (fun _ => 0) p) ha hb
      rw [hww] at hc
      refine hc.mono (fun q a2 hq => ?_)
      obtain ⟨hfr2, ha2, hb2, hq⟩ := hq
      refine ⟨fun hq0 => ?_, fun hq0 => ?_⟩
      · rcases hq with ⟨e, -⟩ | ⟨e, hnok⟩
        · exact absurd e hq0
        · rw [nI_1]
          refine ih (p + 1) a2 (by omega) (hfr.tr hfr2) ha2 (fun x hx => ?_) (fun j hj => ?_)
          · have := hb2 x hx
            rw [show 20 * m * (p + 1) = 20 * m * p + 20 * m from Nat.mul_succ _ _]
            exact this
          · by_cases ej : j = p
            · subst ej
              exact hnok
            · exact hno j (by omega)
      · rcases hq with ⟨e, hok⟩ | ⟨e, -⟩
        · have hid : bfPass fr to w m (bfIt m fr to w (fun _ => 0) p) = bfIt m fr to w (fun _ => 0) p := bfPass_id fr to w m _ hok
          refine ⟨hfr.tr hfr2, Or.inl ⟨rfl, _, bf_fix n m fr to w hfn htn p hok, fun x hx => ?_⟩⟩
          rw [hid] at ha2 hb2
          refine ⟨ha2 x (by omega), ?_⟩
          have := hb2 x (by omega)
          have h3 : 20 * m * p + 20 * m ≤ 5000000 := by
            have : 20 * m ≤ 20 * 4608 := Nat.mul_le_mul (Nat.le_refl _) hm2
            omega
          omega
        · rw [e] at hq0
          exact absurd hq0 (by decide)
  refine uX8_findHeights_0 X _ hR al ?_
  unfold vcX8_findHeights_0
  refine (c_fill G ad ln al (zTC r) 17 1 48 0 0 ⟨zTC_lt (by decide), rfl, Or.inl rfl⟩ (by show 48 < 2147483648; omega) 0).mono (fun a1 e => ?_)
  subst e
  refine loop n 0 _ (by omega) (fun k hk => ?_) (fun x hx => ?_) (fun x hx => ?_) (fun q hq => absurd hq (by omega))
  · exact upA_name al _ _ (fun e => hk (by rw [e]; decide))
  · show upA al 17 48 (fun _ => 0) 17 x = zI 0
    unfold upA
    rw [if_pos ⟨rfl, hx⟩]
    rfl
  · exact ⟨Int.le_refl _, by show (0 : Int) ≤ _; omega⟩
end HEIGHTS
