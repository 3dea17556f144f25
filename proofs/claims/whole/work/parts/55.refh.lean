-- needs: 54
/-! THE REFERENCE: heights -/
section HB
variable {n m : Nat} {fr to : Nat → Nat} {w : Nat → Int}
theorem bfPass_b (hf : ∀ i, i < m → fr i < n) (ht : ∀ i, i < m → to i < n) (hw : ∀ i, i < m → w i ≤ 20) : ∀ (k : Nat) (h : Nat → Int) (B : Int), k ≤ m → (∀ x, x < n → h x ≤ B) → ∀ x, x < n → bfPass fr to w k h x ≤ B + 20 * k
  | 0, h, B, _, hb, x, hx => by
    have := hb x hx
    show h x ≤ _
    omega
  | k + 1, h, B, hk, hb, x, hx => by
    have := bfPass_b hf ht hw k (bfRel fr to w h k) (B + 20) (by omega) (fun y hy => by
      have h1 := hb y hy
      have h2 := hb (to k) (ht k (by omega))
      have h3 := hw k (by omega)
      unfold bfRel
      split <;> omega) x hx
    show bfPass fr to w k (bfRel fr to w h k) x ≤ _
    omega
theorem bfIt_b (hf : ∀ i, i < m → fr i < n) (ht : ∀ i, i < m → to i < n) (hw : ∀ i, i < m → w i ≤ 20) : ∀ (k x : Nat), x < n → bfIt m fr to w (fun _ => 0) k x ≤ ((20 * m * k : Nat) : Int)
  | 0, x, hx => by
    show (0 : Int) ≤ _
    omega
  | k + 1, x, hx => by
    have := bfPass_b hf ht hw m (bfIt m fr to w (fun _ => 0) k) _ (Nat.le_refl _) (fun y hy => bfIt_b hf ht hw k y hy) x hx
    show bfPass fr to w m (bfIt m fr to w (fun _ => 0) k) x ≤ _
    rw [Nat.mul_succ]
    omega
theorem bfMin_b (hf : ∀ i, i < m → fr i < n) (ht : ∀ i, i < m → to i < n) (hw : ∀ i, i < m → w i ≤ 20) (hm : m ≤ 4608) (hn : n ≤ 48) {hs : Nat → Int} (mn : bfMin n m fr to w hs) : ∀ x, x < n → 0 ≤ hs x ∧ hs x ≤ 5000000 := by
  intro x hx
  refine ⟨mn.1.1 x hx, ?_⟩
  have h1 := bf_done n m fr to w hf ht mn (by omega) x hx
  have h2 := bfIt_b hf ht hw (n - 1) x hx
  have h3 : 20 * m * (n - 1) ≤ 20 * 4608 * 47 := Nat.mul_le_mul (Nat.mul_le_mul (Nat.le_refl _) hm) (by omega)
  omega
end HB
def hSum (h : Nat → Int) : Nat → Int
  | 0 => 0
  | k + 1 => hSum h k + h k
theorem hSum_le {h g : Nat → Int} : ∀ k, (∀ x, x < k → h x ≤ g x) → hSum h k ≤ hSum g k
  | 0, _ => Int.le_refl _
  | k + 1, hl => by
    have := hSum_le k (fun x hx => hl x (by omega))
    have := hl k (by omega)
    unfold hSum
    omega
theorem hSum_lt {h g : Nat → Int} : ∀ k, (∀ x, x < k → h x ≤ g x) → (∃ x, x < k ∧ h x < g x) → hSum h k < hSum g k
  | 0, _, ⟨x, hx, _⟩ => absurd hx (by omega)
  | k + 1, hl, ⟨x, hx, hlt⟩ => by
    have h2 := hl k (by omega)
    unfold hSum
    by_cases e : x = k
    · subst e
      have := hSum_le x (fun y hy => hl y (by omega))
      omega
    · have := hSum_lt k (fun y hy => hl y (by omega)) ⟨x, by omega, hlt⟩
      omega
section REFH
variable (G : zG) (ad ln : Nat → Nat) (al : Nat → Nat → Int32) {n m : Nat} {fr to ov dl : Nat → Nat}
theorem r_heights (hw : zWf al n m fr to ov dl) {D : Nat} (hD : D ≤ 1000) (hF : zFe m fr to ov dl D) : zMv G yX11_heights wsX11_heights rmX11_heights zTR ad ln [.ref (ad 0), .int (nI D)] al (fun a => zFr [19] al a ∧ ∃ h, bfMin n m fr to (zWg ov dl D) h ∧ ∀ x, x < n → a 19 x = zI (h x) ∧ 0 ≤ h x ∧ h x ≤ 5000000) := by
  refine zMv.of (cc := cX11_heights) (nL := 5) (by decide) rfl (Nat.le_of_ble_eq_true rfl) (fun Z X hR => ?_)
  obtain ⟨h28, hm2, h9, hn, hi⟩ := hw
  generalize hww : zWg ov dl D = w at hR
  have hwr : ∀ i, i < m → -64000 ≤ w i ∧ w i ≤ 20 := fun i hi' => by
    rw [← hww]
    exact zWg_rng hD (hi i hi').2.2.2.1 (hi i hi').2.2.2.2
  have hfn : ∀ i, i < m → fr i < n := fun i q => (hi i q).2.1
  have htn : ∀ i, i < m → to i < n := fun i q => (hi i q).2.2.1
  obtain ⟨f0, ok0⟩ := hF
  rw [hww] at ok0
  obtain ⟨hs, mn⟩ := bf_exists n m fr to w hfn htn f0 ok0
  have hsb := bfMin_b hfn htn (fun i q => (hwr i q).2) hm2 hn mn
  have passes : ∀ (F : Nat) (h : Nat → Int) (a : Nat → Nat → Int32), hSum hs n - hSum h n ≤ F → zFr [19] al a → (∀ x, x < n → a 19 x = zI (h x) ∧ 0 ≤ h x ∧ h x ≤ hs x) → BX11_heights_25 G Z ad ln (nI D) 1 a := by
    intro F
    induction F with
    | zero =>
      intro h a hF hf ha
      -- nothing is left to raise
      have eq : ∀ x, x < n → h x = hs x := by
        intro x hx
        have h1 := (ha x hx).2.2
        rcases Int.lt_or_eq_of_le h1 with q | q
        · have := hSum_lt n (fun y hy => (ha y hy).2.2) ⟨x, hx, q⟩
          omega
        · exact q
      refine uX11_heights_25 X (nI D) hR _ a ?_
      unfold vcX11_heights_25
      refine ⟨fun z => absurd z (by decide), fun _ => ?_⟩
      have scan : ∀ (g i : Nat), i + g = m → BX11_heights_33 G Z ad ln (nI D) 0 (nI i) a := by
        intro g
        induction g with
        | zero =>
          intro i hi'
          refine uX11_heights_33 X (nI D) hR _ _ a ?_
          unfold vcX11_heights_33
          have : i = m := by omega
          subst this
          rw [hf 0 (by decide), h28]
          refine ⟨fun _ => ?_, fun z => absurd (Int32.le_refl _) z⟩
          refine uX11_heights_25 X (nI D) hR _ a ?_
          unfold vcX11_heights_25
          refine ⟨fun _ => ⟨hf, hs, mn, fun x hx => ⟨?_, hsb x hx⟩⟩, fun z => absurd rfl z⟩
          rw [(ha x hx).1, eq x hx]
        | succ g ih =>
          intro i hi'
          refine uX11_heights_33 X (nI D) hR _ _ a ?_
          unfold vcX11_heights_33 vcX11_heights_119
          obtain ⟨⟨w1, w2, w3, w4⟩, w5, w6, w7, w8⟩ := hi i (by omega)
          have ew : nI (dl i) - nI (ov i) * nI D = zI (w i) := by
            rw [zI_n, zI_n, zI_n, zI_mul, zI_sub, ← hww]
            rfl
          have hb := hwr i (by omega)
          have c1 := hsb (fr i) w5
          have c2 := hsb (to i) w6
          rw [hf 0 (by decide), h28, nI_clamp (by omega), hf 12 (by decide), hf 13 (by decide), hf 14 (by decide), hf 15 (by decide), w1, w2, w3, w4, nI_clamp (by omega), nI_clamp (by omega), ew, (ha _ w5).1, (ha _ w6).1, eq _ w5, eq _ w6, zI_add, zI_lt ⟨by omega, by omega⟩ ⟨by omega, by omega⟩, nI_1]
          have v : vp_in (nI i) 4608 := vp_in_nI (by omega) (by omega)
          have v1 : vp_in (nI (fr i)) 48 := vp_in_nI (by omega) (by omega)
          have v2 : vp_in (nI (to i)) 48 := vp_in_nI (by omega) (by omega)
          have ok := mn.1.2 i (by omega)
          exact ⟨fun z => absurd z (by rw [nI_leI (by omega) (by omega)]; omega), fun _ => ⟨v, v, v, v2, v, v, fun _ => ih (i + 1) (by omega), fun _ => ⟨v, v1, fun q => absurd q (by omega), fun _ => ih (i + 1) (by omega)⟩⟩⟩
      exact scan m 0 (by omega)
    | succ F ihF =>
      intro h a hF hf ha
      refine uX11_heights_25 X (nI D) hR _ a ?_
      unfold vcX11_heights_25
      refine ⟨fun z => absurd z (by decide), fun _ => ?_⟩
      have scan : ∀ (g i : Nat) (h' : Nat → Int) (a' : Nat → Nat → Int32) (b : Bool), i + g = m → zFr [19] al a' → (∀ x, x < n → a' 19 x = zI (h' x) ∧ 0 ≤ h' x ∧ h' x ≤ hs x) → (∀ x, x < n → h x ≤ h' x) → (b = false → (∀ j, j < i → fr j ≠ to j → h' (to j) + w j ≤ h' (fr j))) → (b = true → hSum h n < hSum h' n) → BX11_heights_33 G Z ad ln (nI D) (zb b) (nI i) a' := by
        intro g
        induction g with
        | zero =>
          intro i h' a' b hi' hf' ha' hge hb0 hb1
          refine uX11_heights_33 X (nI D) hR _ _ a' ?_
          unfold vcX11_heights_33
          have : i = m := by omega
          subst this
          rw [hf' 0 (by decide), h28]
          refine ⟨fun _ => ?_, fun z => absurd (Int32.le_refl _) z⟩
          cases b with
          | true =>
            have := hb1 rfl
            exact ihF h' a' (by omega) hf' ha'
          | false =>
            refine uX11_heights_25 X (nI D) hR _ a' ?_
            unfold vcX11_heights_25
            refine ⟨fun _ => ⟨hf', h', ⟨⟨fun x hx => (ha' x hx).2.1, fun j hj => ?_⟩, fun g' sg x hx => Int.le_trans (ha' x hx).2.2 (mn.2 g' sg x hx)⟩, fun x hx => ⟨(ha' x hx).1, (ha' x hx).2.1, ?_⟩⟩, fun z => absurd rfl z⟩
            · by_cases e : fr j = to j
              · have := mn.1.2 j hj
                rw [e] at this ⊢
                omega
              · exact hb0 rfl j hj e
            · have := (ha' x hx).2.2
              have := (hsb x hx).2
              omega
        | succ g ih =>
          intro i h' a' b hi' hf' ha' hge hb0 hb1
          refine uX11_heights_33 X (nI D) hR _ _ a' ?_
          unfold vcX11_heights_33 vcX11_heights_119
          obtain ⟨⟨w1, w2, w3, w4⟩, w5, w6, w7, w8⟩ := hi i (by omega)
          have ew : nI (dl i) - nI (ov i) * nI D = zI (w i) := by
            rw [zI_n, zI_n, zI_n, zI_mul, zI_sub, ← hww]
            rfl
          have hb := hwr i (by omega)
          have c1 := hsb (fr i) w5
          have c2 := hsb (to i) w6
          have d1 := (ha' (fr i) w5).2
          have d2 := (ha' (to i) w6).2
          rw [hf' 0 (by decide), h28, nI_clamp (by omega), hf' 12 (by decide), hf' 13 (by decide), hf' 14 (by decide), hf' 15 (by decide), w1, w2, w3, w4, nI_clamp (by omega), nI_clamp (by omega), ew, (ha' _ w5).1, (ha' _ w6).1, zI_add, zI_lt ⟨by omega, by omega⟩ ⟨by omega, by omega⟩, nI_1, nI_eq (by omega) (by omega)]
          have v : vp_in (nI i) 4608 := vp_in_nI (by omega) (by omega)
          have v1 : vp_in (nI (fr i)) 48 := vp_in_nI (by omega) (by omega)
          have v2 : vp_in (nI (to i)) 48 := vp_in_nI (by omega) (by omega)
          have ok := mn.1.2 i (by omega)
          have keep : (fr i ≠ to i → h' (to i) + w i ≤ h' (fr i)) → BX11_heights_33 G Z ad ln (nI D) (zb b) (nI (i + 1)) a' := by
            intro hk
            refine ih (i + 1) h' a' b (by omega) hf' ha' hge (fun e j hj hne => ?_) hb1
            by_cases q : j = i
            · subst q
              exact hk hne
            · exact hb0 e j (by omega) hne
          refine ⟨fun z => absurd z (by rw [nI_leI (by omega) (by omega)]; omega), fun _ => ⟨v, v, v, v2, v, v, fun q => keep (fun z => absurd q z), fun q => ⟨v, v1, fun q2 => ⟨v, v1, ?_⟩, fun q2 => keep (fun _ => by omega)⟩⟩⟩
          refine ih (i + 1) (fun x => if x = fr i then h' (to i) + w i else h' x) _ true (by omega) (hf'.up (by decide) _ _) (fun x hx => ?_) (fun x hx => ?_) (fun e => by cases e) (fun _ => ?_)
          · by_cases e : x = fr i
            · subst e
              rw [up2_self, if_pos rfl]
              refine ⟨?_, by omega, by omega⟩
              congr 1
              omega
            · rw [up2_ne _ _ (fun z => e z.2), if_neg e]
              exact ha' x hx
          · have := hge x hx
            by_cases e : x = fr i
            · subst e
              simp only [if_true]
              omega
            · simp only [if_neg e]
              exact this
          · have s1 := hSum_le n hge
            have s2 : hSum h' n < hSum (fun x => if x = fr i then h' (to i) + w i else h' x) n := by
              refine hSum_lt n (fun x hx => ?_) ⟨fr i, w5, ?_⟩
              · by_cases e : x = fr i
                · subst e
                  simp only [if_true]
                  omega
                · simp only [if_neg e]
                  exact Int.le_refl _
              · simp only [if_true]
                omega
            omega
      exact scan m 0 h a false (by omega) hf ha (fun x _ => Int.le_refl _) (fun _ j hj => absurd hj (by omega)) (fun e => by cases e)
  have fill : ∀ (f x : Nat) (a : Nat → Nat → Int32), x + f = n → zFr [19] al a → (∀ x', x' < x → a 19 x' = 0) → BX11_heights_2 G Z ad ln (nI D) (nI x) a := by
    intro f
    induction f with
    | zero =>
      intro x a hx hf ha
      refine uX11_heights_2 X (nI D) hR _ a ?_
      unfold vcX11_heights_2
      have : x = n := by omega
      subst this
      rw [hf 0 (by decide), h9]
      refine ⟨fun _ => passes (hSum hs x - hSum (fun _ => 0) x).toNat (fun _ => 0) a (by omega) hf (fun y hy => ⟨ha y hy, Int.le_refl _, (hsb y hy).1⟩), fun z => absurd (Int32.le_refl _) z⟩
    | succ f ih =>
      intro x a hx hf ha
      refine uX11_heights_2 X (nI D) hR _ a ?_
      unfold vcX11_heights_2
      rw [hf 0 (by decide), h9, nI_clamp (by omega), nI_1]
      refine ⟨fun z => absurd z (by rw [nI_leI (by omega) (by omega)]; omega), fun _ => ⟨vp_in_nI (by omega) (by omega), ih (x + 1) _ (by omega) (hf.up (by decide) _ _) (fun x' hx' => ?_)⟩⟩
      by_cases e : x' = x
      · subst e
        exact up2_self _ _ _ _
      · rw [up2_ne _ _ (fun z => e z.2)]
        exact ha x' (by omega)
  refine uX11_heights_0 X (nI D) hR al ?_
  unfold vcX11_heights_0
  exact fill n 0 al (by omega) zFr.rf (fun x' h => absurd h (by omega))
end REFH
