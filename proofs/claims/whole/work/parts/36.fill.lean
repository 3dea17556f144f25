-- needs: 35
/-! the class's table: a distance is tried -/
theorem sBest_all {c h : Nat → Int} : ∀ k, sBest c h k = -1 → ∀ x, x < k → c x ≠ -1
  | 0, _, x, hx => absurd hx (by omega)
  | k + 1, e, x, hx => by
    unfold sBest at e
    by_cases q : c k = -1 ∧ (sBest c h k = -1 ∨ h (sBest c h k).toNat < h k)
    · rw [if_pos q] at e
      omega
    · rw [if_neg q] at e
      by_cases ex : x = k
      · subst ex
        exact fun z => q ⟨z, Or.inl e⟩
      · exact sBest_all k e x (by omega)
theorem sCnt_none (D : Nat) (kd : Nat → Nat) (g j : Nat) : ∀ k, sCnt D kd (fun _ => -1) g j k = 0
  | 0 => rfl
  | k + 1 => by
    unfold sCnt
    rw [sCnt_none D kd g j k, sAt_none D kd (c := fun _ => -1) (x := k) rfl]
    simp
section FILL
variable (G : zG) (r : Bool) (ad ln : Nat → Nat) (al : Nat → Nat → Int32) {n D : Nat} {kd st : Nat → Nat} {m : Nat} {fr to ov dl : Nat → Nat}
theorem c_fillT (hw : zWt al ln n m fr to ov dl) (hn0 : 0 < n) (hD : 1 ≤ D ∧ D ≤ 200) (h4 : al 4 1 = nI n) (hk : ∀ x, x < n → al (29 + 3 * x) 0 = nI (kd x) ∧ kd x < 4) (hs : ∀ j, j < 9 → al 2 j = nI (st j) ∧ 1 ≤ st j ∧ st j ≤ 64) {hh : Nat → Int} (hh1 : ∀ x, x < n → al 17 x = zI (hh x) ∧ zR (hh x)) : zMi G yX7_fill wsX7_fill rmX7_fill (zTC r) ad ln [.ref (ad 18), .int (nI D)] al (fun q a => zFr [18, 19, 20, 21] al a ∧ ((sFill n D kd st m fr to ov dl hh).2.2 = false → q = 0) ∧ ((sFill n D kd st m fr to ov dl hh).2.2 = true → q = 1 ∧ a 18 7 = nI (sFill n D kd st m fr to ov dl hh).2.1 ∧ a 18 8 = zI (sMax (sFill n D kd st m fr to ov dl hh).1 n - sMin (sFill n D kd st m fr to ov dl hh).1 n) ∧ ∀ x, x < n → a 19 x = zI ((sFill n D kd st m fr to ov dl hh).1 x - sMin (sFill n D kd st m fr to ov dl hh).1 n) ∧ 0 ≤ (sFill n D kd st m fr to ov dl hh).1 x ∧ (sFill n D kd st m fr to ov dl hh).1 x ≤ 1000000)) := by
  refine zMi.of (cc := cX7_fill) (nL := 4) (rt := .boolean) (by decide) rfl (Nat.le_of_ble_eq_true rfl) (fun Z X hR => ?_)
  have hn := hw.2.2.1
  generalize htg : sFill n D kd st m fr to ov dl hh = tgt at hR
  have fin : ∀ (c lat : Nat → Int) (k : Nat) (a : Nat → Nat → Int32), zFr [18, 19, 20, 21] al a → zTb a n D kd st c lat → a 18 7 = nI k → (sBest c hh n = -1 → tgt = (c, k, true)) → (sBest c hh n ≠ -1 → tgt = (c, k, false)) → vcX7_fill_99 G r ad ln (nI D) (BX7_fill_64 G Z r ad ln (nI D)) (fun q a => zFr [18, 19, 20, 21] al a ∧ (tgt.2.2 = false → q = 0) ∧ (tgt.2.2 = true → q = 1 ∧ a 18 7 = nI tgt.2.1 ∧ a 18 8 = zI (sMax tgt.1 n - sMin tgt.1 n) ∧ ∀ x, x < n → a 19 x = zI (tgt.1 x - sMin tgt.1 n) ∧ 0 ≤ tgt.1 x ∧ tgt.1 x ≤ 1000000)) (zI (sBest c hh n)) a := by
    intro c lat k a hfr ha h7 e1 e2
    have hb := sBest_rng (c := c) (h := hh) n
    unfold vcX7_fill_99
    rw [zI_0, zI_lt ⟨by omega, by omega⟩ ⟨by omega, by omega⟩]
    refine ⟨fun q => ?_, fun q => ?_⟩
    · have eb : sBest c hh n = -1 := by omega
      have hc : ∀ x, x < n → 0 ≤ c x := fun x hx => by
        have h1 := sBest_all n eb x hx
        have h2 := ha.1.2.2.2.2.2.1 x hx
        omega
      refine (c_moveToZero G r ad ln a ha.1 hn0 hc).mono (fun a2 hq => ?_)
      obtain ⟨hf2, h18, hg, h19⟩ := hq
      rw [e1 eb]
      refine ⟨hfr.tr (hf2.mono (by decide)), fun z => by simp at z, fun _ => ⟨rfl, ?_, hg, fun x hx => ⟨h19 x hx, hc x hx, (ha.1.2.2.2.2.2.1 x hx).2.2⟩⟩⟩
      rw [h18 7 (by decide)]
      exact h7
    · rw [e2 (by omega)]
      exact ⟨hfr, fun _ => rfl, fun z => by simp at z⟩
  have loop : ∀ (f k : Nat) (c lat : Nat → Int) (a : Nat → Nat → Int32), k + f = 8 * n → zFr [18, 19, 20, 21] al a → zTb a n D kd st c lat → (∀ x, x < n → c x ≤ ((221 * k : Nat) : Int) ∧ lat x ≤ ((221 * k : Nat) : Int)) → a 18 7 = nI k → sLoop n D kd st m fr to ov dl hh f k c lat = tgt → BX7_fill_64 G Z r ad ln (nI D) (nI (8 * n)) (zI (sBest c hh n)) a := by
    intro f
    induction f with
    | zero =>
      intro k c lat a hkf hfr ha hb h7 e
      refine uX7_fill_64 X (nI D) hR _ _ _ ?_
      unfold vcX7_fill_64
      rw [h7, nI_leI (by omega) (by omega)]
      refine ⟨fun _ => fin c lat k a hfr ha h7 (fun q => ?_) (fun q => ?_), fun q => absurd (by omega) q⟩
      · rw [← e]
        show (c, k, decide _) = _
        rw [decide_eq_true q]
      · rw [← e]
        show (c, k, decide _) = _
        rw [decide_eq_false q]
    | succ f ih =>
      intro k c lat a hkf hfr ha hb h7 e
      have hbr := sBest_rng (c := c) (h := hh) n
      refine uX7_fill_64 X (nI D) hR _ _ _ ?_
      unfold vcX7_fill_64
      rw [h7, nI_leI (by omega) (by omega)]
      refine ⟨fun q => absurd q (by omega), fun _ => ?_⟩
      unfold sLoop at e
      rw [zI_0, zI_lt ⟨by omega, by omega⟩ ⟨by omega, by omega⟩]
      refine ⟨fun q => ?_, fun q => ?_⟩
      · have eb : sBest c hh n = -1 := by omega
        rw [if_pos eb] at e
        exact fin c lat k a hfr ha h7 (fun _ => e.symm) (fun z => absurd eb z)
      · have eb : sBest c hh n ≠ -1 := by omega
        rw [if_neg eb] at e
        have hw2 : zWt a ln n m fr to ov dl := hw.fr (hfr 12 (by decide) ▸ rfl) (hfr 13 (by decide)) (hfr 14 (by decide)) (hfr 15 (by decide)) (hfr 16 (by decide))
        have ex : zI (sBest c hh n) = nI (sBest c hh n).toNat := by
          rw [zI_n]
          congr 1
          omega
        rw [ex]
        refine (c_tryRow G r ad ln a hw2 ha (B := ((221 * k : Nat) : Int)) ⟨⟨by omega, by omega⟩, hb⟩ (x := (sBest c hh n).toNat) (by omega) (hbr.2.2 eb)).mono (fun a3 hq => ?_)
        obtain ⟨hf3, ha3, hb3⟩ := hq
        have hfr3 : zFr [18, 19, 20, 21] al a3 := hfr.tr (hf3.mono (by decide))
        refine (c_highestWithout G r ad ln a3 ha3.1 (hh := hh) (fun x hx => by rw [hfr3 17 (by decide)]; exact hh1 x hx)).mono (fun q4 a4 hq => ?_)
        obtain ⟨rfl, e4⟩ := hq
        obtain rfl := e4.symm
        have e7 : a3 18 7 = nI k := by rw [hf3 18 (by decide)]; exact h7
        rw [e7, nI_1]
        have hfr4 : zFr [18] a3 (up2 a3 18 7 (nI (k + 1))) := zFr.rf.up (by decide) _ _
        refine ih (k + 1) _ _ _ (by omega) (hfr3.tr (hfr4.mono (by decide))) ?_ (fun x hx => ?_) (up2_self _ _ _ _) e
        · obtain ⟨⟨g1, g2, g3, g4, g5, g6, g7, g8⟩, hu⟩ := ha3
          refine ⟨⟨by rw [hfr4 4 (by decide)]; exact g1, g2, by rw [up2_ne _ _ (fun z => absurd z.2 (by decide))]; exact g3, g4, fun x hx => ?_, fun x hx => ?_, fun x hx => ?_, fun j hj => ?_⟩, fun g j hg hj => ?_⟩
          · rw [hfr4 _ (by simp; omega)]
            exact g5 x hx
          · rw [hfr4 19 (by decide)]
            exact g6 x hx
          · rw [hfr4 20 (by decide)]
            exact g7 x hx
          · rw [hfr4 2 (by decide)]
            exact g8 j hj
          · rw [hfr4 21 (by decide)]
            exact hu g j hg hj
        · have := hb3 x hx
          constructor <;> omega
  refine uX7_fill_0 X (nI D) hR al ?_
  unfold vcX7_fill_0
  rw [show (1 : Int32) = nI 1 from rfl, show (200 : Int32) = nI 200 from rfl, nI_ltI (by omega) (by omega), nI_leI (by omega) (by omega)]
  refine ⟨fun q => absurd q (by omega), fun _ => ⟨fun _ => ?_, fun q => absurd (by omega) q⟩⟩
  refine (c_fill G ad ln _ (zTC r) 19 1 48 0 0 ⟨zTC_lt (by decide), rfl, Or.inl rfl⟩ (by show 48 < 2147483648; omega) (-1)).mono (fun a3 e3 => ?_)
  refine (c_fill G ad ln _ (zTC r) 20 1 48 0 0 ⟨zTC_lt (by decide), rfl, Or.inl rfl⟩ (by show 48 < 2147483648; omega) (-1)).mono (fun a4 e4 => ?_)
  refine (c_fill G ad ln _ (zTC r) 21 1 800 0 0 ⟨zTC_lt (by decide), rfl, Or.inl rfl⟩ (by show 800 < 2147483648; omega) 0).mono (fun a5 e5 => ?_)
  have hfr : zFr [18, 19, 20, 21] al a5 := by
    rw [e5, e4, e3]
    intro k hk
    rw [upA_name _ _ _ (fun e => hk (by rw [e]; decide)), upA_name _ _ _ (fun e => hk (by rw [e]; decide)), upA_name _ _ _ (fun e => hk (by rw [e]; decide)), up2_name _ _ _ (fun e => hk (by rw [e]; decide))]
  have e18 : a5 18 6 = nI D := by
    rw [e5, e4, e3, upA_name _ _ _ (by decide), upA_name _ _ _ (by decide), upA_name _ _ _ (by decide), up2_self]
  have e19 : ∀ x, x < 48 → a5 19 x = zI (-1) := by
    intro x hx
    rw [e5, e4, e3, upA_name _ _ _ (by decide), upA_name _ _ _ (by decide)]
    show upA _ 19 48 _ 19 x = _
    unfold upA
    rw [if_pos ⟨rfl, hx⟩]
    rfl
  have e20 : ∀ x, x < 48 → a5 20 x = zI (-1) := by
    intro x hx
    rw [e5, e4, upA_name _ _ _ (by decide)]
    show upA _ 20 48 _ 20 x = _
    unfold upA
    rw [if_pos ⟨rfl, hx⟩]
    rfl
  have e21 : ∀ x, x < 800 → a5 21 x = 0 := by
    intro x hx
    rw [e5]
    show upA _ 21 800 _ 21 x = _
    unfold upA
    rw [if_pos ⟨rfl, hx⟩]
  have ht : ∀ a6 : Nat → Nat → Int32, zFr [18] a5 a6 → a6 18 6 = nI D → zTb a6 n D kd st (fun _ => -1) (fun _ => -1) := by
    intro a6 h6 h186
    refine ⟨⟨by rw [h6 4 (by decide), hfr 4 (by decide)]; exact h4, hn, h186, hD, fun x hx => ?_, fun x hx => ?_, fun x hx => ?_, fun j hj => ?_⟩, fun g j hg hj => ?_⟩
    · rw [h6 _ (by simp; omega), hfr _ (by simp; omega)]
      exact hk x hx
    · rw [h6 19 (by decide)]
      exact ⟨e19 x (by omega), by show (-1 : Int) ≤ -1; omega, by show (-1 : Int) ≤ _; omega⟩
    · rw [h6 20 (by decide)]
      exact ⟨e20 x (by omega), by show (-1 : Int) ≤ -1; omega, by show (-1 : Int) ≤ _; omega⟩
    · rw [h6 2 (by decide), hfr 2 (by decide)]
      exact hs j hj
    · rw [h6 21 (by decide), e21 _ (by omega), sCnt_none]
      rfl
  refine (c_highestWithout G r ad ln a5 (ht a5 zFr.rf e18).1 (hh := hh) (fun x hx => by rw [hfr 17 (by decide)]; exact hh1 x hx)).mono (fun q6 a6 hq => ?_)
  obtain ⟨rfl, e6⟩ := hq
  obtain rfl := e6.symm
  have e8 : (8 : Int32) * a5 4 1 = nI (8 * n) := by
    rw [hfr 4 (by decide), h4, show (8 : Int32) = nI 8 from rfl, pk_mul]
  rw [e8]
  have hf7 : zFr [18] a5 (up2 a5 18 7 0) := zFr.rf.up (by decide) _ _
  exact loop (8 * n) 0 _ _ _ (by omega) (hfr.tr (hf7.mono (by decide))) (ht _ hf7 (by rw [up2_ne _ _ (fun z => absurd z.2 (by decide))]; exact e18)) (fun x hx => ⟨by omega, by omega⟩) (up2_self _ _ _ _) htg
end FILL
