-- needs: 41
/-! Spans: need, places, size -/
theorem zCol_rng (D : Nat) (b e : Nat → Int) (o : Nat → Nat) (sz : Nat) : ∀ (k : Nat) (off : Nat → Int), zCol D b e o sz k = some off → (∀ y, off y = -1 ∨ (0 ≤ off y ∧ off y < sz)) ∧ ∀ y, (∀ j, j < k → o j ≠ y) → off y = -1
  | 0, off, h => by
    injection h with h
    subst h
    exact ⟨fun y => Or.inl rfl, fun y _ => rfl⟩
  | k + 1, off, h => by
    unfold zCol at h
    cases hz : zCol D b e o sz k with
    | none =>
      rw [hz] at h
      cases h
    | some off1 =>
      rw [hz] at h
      simp only at h
      obtain ⟨i1, i2⟩ := zCol_rng D b e o sz k off1 hz
      cases hz2 : zFst (zFre D b e o sz off1 k) sz 0 with
      | none =>
        rw [hz2] at h
        cases h
      | some f =>
        rw [hz2] at h
        injection h with h
        subst h
        have hf := zFst_lt hz2
        refine ⟨fun y => ?_, fun y hy => ?_⟩
        · unfold fup
          by_cases q : y = o k
          · rw [if_pos q]
            exact Or.inr (by omega)
          · rw [if_neg q]
            exact i1 y
        · unfold fup
          rw [if_neg (fun z => hy k (by omega) z.symm)]
          exact i2 y (fun j hj => hy j (by omega))
theorem zCol_mono (D : Nat) (b e : Nat → Int) (o : Nat → Nat) (sz k : Nat) (h : zCol D b e o sz k = none) : ∀ f, zCol D b e o sz (k + f) = none
  | 0 => h
  | f + 1 => by
    show zCol D b e o sz (k + f + 1) = none
    unfold zCol
    rw [zCol_mono D b e o sz k h f]
section FIT
variable (G : zG) (r : Bool) (ad ln : Nat → Nat) (al : Nat → Nat → Int32) {n D K : Nat} {b e : Nat → Int} {o : Nat → Nat}
/-- the spans in their order -/
def zSo (al : Nat → Nat → Int32) (n D K : Nat) (b e : Nat → Int) (o : Nat → Nat) : Prop := n ≤ 48 ∧ (1 ≤ D ∧ D ≤ 200) ∧ al 22 9 = nI D ∧ al 22 10 = nI K ∧ K ≤ 48 ∧ (∀ j, j < K → al 26 j = nI (o j) ∧ o j < n) ∧ (∀ j j', j < j' → j' < K → o j ≠ o j') ∧ ∀ j, j < K → al 23 (o j) = zI (b (o j)) ∧ al 24 (o j) = zI (e (o j)) ∧ 0 ≤ b (o j) ∧ b (o j) ≤ e (o j) ∧ e (o j) ≤ 1000200
theorem zSo.fr {al al' : Nat → Nat → Int32} (h : zSo al n D K b e o) (h9 : al' 22 9 = al 22 9) (h10 : al' 22 10 = al 22 10) (h23 : al' 23 = al 23) (h24 : al' 24 = al 24) (h26 : al' 26 = al 26) : zSo al' n D K b e o := by
  unfold zSo
  rw [h9, h10, h23, h24, h26]
  exact h
theorem c_findNeed (h : zSo al n D K b e o) : zMi G yX6_findNeed wsX6_findNeed rmX6_findNeed (zTC r) ad ln [.ref (ad 22)] al (fun q a => zFr [27] al a ∧ q = zI (zNd D b e o K D)) := by
  refine zMi.of (cc := cX6_findNeed) (nL := 4) (rt := .int) (by decide) rfl (Nat.le_of_ble_eq_true rfl) (fun Z X hR => ?_)
  obtain ⟨hn, hD, h9, h10, hK, ho, hdist, hbe⟩ := h
  have hsm := fun s => zSm_rng (D := D) (b := b) (e := e) (o := o) (B := 1000200) hD.1 s K (fun j hj => (hbe j hj).2.2)
  have hnd := zNd_rng (D := D) (b := b) (e := e) (o := o) (B := 1000200) hD.1 (k := K) (by omega) (fun j hj => (hbe j hj).2.2)
  have scan : ∀ (f s : Nat) (a : Nat → Nat → Int32), s + f = D → zFr [27] al a → (∀ s, s < D → a 27 s = zI (zSm D b e o (s : Int) K)) → BX6_findNeed_75 G Z r ad ln (zI (zNd D b e o K s)) (nI s) a := by
    intro f
    induction f with
    | zero =>
      intro s a hs hf ha
      refine uX6_findNeed_75 X hR _ _ a ?_
      unfold vcX6_findNeed_75
      have : s = D := by omega
      subst this
      rw [hf 22 (by decide), h9]
      exact ⟨fun _ => ⟨hf, rfl⟩, fun z => absurd (Int32.le_refl _) z⟩
    | succ f ih =>
      intro s a hs hf ha
      refine uX6_findNeed_75 X hR _ _ a ?_
      unfold vcX6_findNeed_75
      rw [hf 22 (by decide), h9, nI_clamp (by omega), nI_1, ha s (by omega), zI_mx ⟨by have := (hnd s).1; omega, by have := (hnd s).2; omega⟩ ⟨by have := (hsm s).1; omega, by have := (hsm s).2; omega⟩]
      refine ⟨fun z => absurd z (by rw [nI_leI (by omega) (by omega)]; omega), fun _ => ⟨vp_in_nI (by omega) (by omega), ih (s + 1) a (by omega) hf ha⟩⟩
  have outer : ∀ (f k : Nat) (a : Nat → Nat → Int32), k + f = K → zFr [27] al a → (∀ s, s < D → a 27 s = zI (zSm D b e o (s : Int) k)) → BX6_findNeed_10 G Z r ad ln (nI k) a := by
    intro f
    induction f with
    | zero =>
      intro k a hk hf ha
      refine uX6_findNeed_10 X hR _ a ?_
      unfold vcX6_findNeed_10
      have : k = K := by omega
      subst this
      rw [hf 22 (by decide), h10]
      exact ⟨fun _ => scan D 0 a (by omega) hf ha, fun z => absurd (Int32.le_refl _) z⟩
    | succ f ih =>
      intro k a hk hf ha
      obtain ⟨o1, o2⟩ := ho k (by omega)
      obtain ⟨b1, b2, b3, b4, b5⟩ := hbe k (by omega)
      have inner : ∀ (g : Nat) (t : Int) (a' : Nat → Nat → Int32), t + g = e (o k) + 1 → b (o k) ≤ t → zFr [27] al a' → (∀ s, s < D → a' 27 s = zI (zSm D b e o (s : Int) k + (((s : Int) - b (o k)) / (D : Int) - ((s : Int) - (t - 1) - 1) / (D : Int)))) → BX6_findNeed_32 G Z r ad ln (nI k) (nI (o k)) (zI t) a' := by
        intro g
        induction g with
        | zero =>
          intro t a' ht hbt hf' ha'
          refine uX6_findNeed_32 X hR _ _ _ a' ?_
          unfold vcX6_findNeed_32
          rw [nI_clamp (by omega), hf' 24 (by decide), b2, zI_lt ⟨by omega, by omega⟩ ⟨by omega, by omega⟩, nI_1]
          refine ⟨vp_in_nI (by omega) (by omega), fun _ => ih (k + 1) a' (by omega) hf' (fun s hs => ?_), fun z => absurd (by omega) z⟩
          rw [ha' s hs, show t - 1 = e (o k) by omega]
          rfl
        | succ g ih2 =>
          intro t a' ht hbt hf' ha'
          refine uX6_findNeed_32 X hR _ _ _ a' ?_
          unfold vcX6_findNeed_32
          rw [nI_clamp (by omega), hf' 24 (by decide), b2, zI_lt ⟨by omega, by omega⟩ ⟨by omega, by omega⟩, hf' 22 (by decide), h9, zI_n D]
          refine ⟨vp_in_nI (by omega) (by omega), fun z => absurd z (by omega), fun _ => ?_⟩
          refine (c_rest G r ad ln a' (x := t) (y := (D : Int)) ⟨by omega, by omega⟩ ⟨by omega, by omega⟩ (by omega)).mono (fun q a2 hq => ?_)
          obtain ⟨rfl, e2⟩ := hq
          obtain rfl := e2.symm
          have m1 := Int.emod_nonneg t (b := (D : Int)) (by omega)
          have m2 := Int.emod_lt_of_pos t (b := (D : Int)) (by omega)
          have v : vp_in (zI (t % (D : Int))) 200 := zvp m1 (by omega) (by omega)
          refine ⟨v, v, ?_⟩
          rw [zI_clamp ⟨by omega, by omega⟩, zI_1, zI_add]
          refine ih2 (t + 1) _ (by omega) (by omega) (hf'.up (by decide) _ _) (fun s hs => ?_)
          have stp := zAl_step (D := D) hD.1 (b (o k)) t s hs
          rw [show (t + 1 - 1) = t by omega, stp]
          by_cases q : t % (D : Int) = (s : Int)
          · have es : (t % (D : Int)).toNat = s := by omega
            rw [es, up2_self, if_pos q, ha' s hs, zI_add]
            congr 1
            omega
          · rw [up2_ne _ _ (fun z => q (by have := z.2; omega)), if_neg q, Int.add_zero]
            exact ha' s hs
      refine uX6_findNeed_10 X hR _ a ?_
      unfold vcX6_findNeed_10
      rw [hf 22 (by decide), h10, nI_clamp (by omega), hf 26 (by decide), o1, nI_clamp (by omega), hf 23 (by decide), b1]
      refine ⟨fun z => absurd z (by rw [nI_leI (by omega) (by omega)]; omega), fun _ => ⟨vp_in_nI (by omega) (by omega), vp_in_nI (by omega) (by omega), inner (e (o k) + 1 - b (o k)).toNat (b (o k)) a (by omega) (by omega) hf (fun s hs => ?_)⟩⟩
      rw [ha s hs, show (s : Int) - (b (o k) - 1) - 1 = (s : Int) - b (o k) by omega, Int.sub_self, Int.add_zero]
  refine uX6_findNeed_0 X hR al ?_
  unfold vcX6_findNeed_0
  refine (c_fill G ad ln al (zTC r) 27 1 200 0 0 ⟨zTC_lt (by decide), rfl, Or.inl rfl⟩ (by show 200 < 2147483648; omega) 0).mono (fun a1 e1 => ?_)
  subst e1
  refine outer K 0 _ (by omega) (fun x hx => ?_) (fun s hs => ?_)
  · funext j
    unfold upA
    rw [if_neg (fun z => hx (by simp [z.1]))]
  · show upA al 27 200 _ 27 s = zI 0
    unfold upA
    rw [if_pos ⟨rfl, by omega⟩]
    rfl
/-- what the j-th span takes from the k-th -/
theorem c_markMeetings (h : zSo al n D K b e o) {j k : Nat} (hj : j < K) (hk : k < K) {sz : Nat} (hsz : 1 ≤ sz ∧ sz ≤ 128) (h12 : al 22 12 = nI sz) {of : Int} (hof : -1 ≤ of ∧ of ≤ 128) (h25 : al 25 (o j) = zI of) : zMv G yX6_markMeetings wsX6_markMeetings rmX6_markMeetings (zTC r) ad ln [.ref (ad 22), .int (nI (o j)), .int (nI (o k))] al (fun a => zFr [28] al a ∧ ∀ f : Nat, f < sz → (a 28 f = 0 ↔ al 28 f = 0 ∧ ¬ ∃ R : Int, -((e (o k) - b (o j)) / (D : Int)) ≤ R ∧ R ≤ (e (o j) - b (o k)) / (D : Int) ∧ (of + R) % (sz : Int) = (f : Int))) := by
  refine zMv.of (cc := cX6_markMeetings) (nL := 6) (by decide) rfl (Nat.le_of_ble_eq_true rfl) (fun Z X hR => ?_)
  obtain ⟨hn, hD, h9, h10, hK, ho, hdist, hbe⟩ := h
  obtain ⟨o1, o2⟩ := ho j hj
  obtain ⟨p1, p2⟩ := ho k hk
  obtain ⟨b1, b2, b3, b4, b5⟩ := hbe j hj
  obtain ⟨c1, c2, c3, c4, c5⟩ := hbe k hk
  have dvb : ∀ x : Int, -1000300 ≤ x → x ≤ 1000300 → -1000300 ≤ x / (D : Int) ∧ x / (D : Int) ≤ 1000300 := by
    intro x x1 x2
    have hD' : (0 : Int) < (D : Int) := by omega
    rw [Int.le_ediv_iff_mul_le hD']
    refine ⟨?_, ?_⟩
    · have : (-1000300 : Int) * (D : Int) ≤ -1000300 * 1 := Int.mul_le_mul_of_nonpos_left (by omega) (by omega)
      omega
    · refine Int.le_of_lt_add_one (Int.ediv_lt_of_lt_mul hD' ?_)
      have : (1000300 + 1 : Int) * 1 ≤ (1000300 + 1) * (D : Int) := Int.mul_le_mul_of_nonneg_left (by omega) (by omega)
      omega
  have hlo := dvb (e (o k) - b (o j)) (by omega) (by omega)
  have hhi := dvb (e (o j) - b (o k)) (by omega) (by omega)
  generalize hL : -((e (o k) - b (o j)) / (D : Int)) = L
  generalize hH : (e (o j) - b (o k)) / (D : Int) = H at hhi
  rw [hL, hH] at hR
  have loop : ∀ (g : Nat) (R : Int) (a : Nat → Nat → Int32), (R + g = H + 1 ∨ (g = 0 ∧ H < R ∧ R = L)) → L ≤ R → R ≤ 1000302 → zFr [28] al a → (∀ f : Nat, f < sz → (a 28 f = 0 ↔ al 28 f = 0 ∧ ¬ ∃ R' : Int, L ≤ R' ∧ R' < R ∧ (of + R') % (sz : Int) = (f : Int))) → BX6_markMeetings_47 G Z r ad ln (nI (o j)) (nI (o k)) (zI H) (zI R) a := by
    intro g
    induction g with
    | zero =>
      intro R a hg hLR hRb hf ha
      refine uX6_markMeetings_47 X (nI (o j)) (nI (o k)) hR _ _ a ?_
      unfold vcX6_markMeetings_47
      rw [zI_lt ⟨by omega, by omega⟩ ⟨by omega, by omega⟩]
      refine ⟨fun _ => ⟨hf, fun f hf2 => ?_⟩, fun z => absurd (by omega) z⟩
      rw [ha f hf2]
      refine ⟨fun z => ⟨z.1, fun ⟨R', q1, q2, q3⟩ => z.2 ⟨R', q1, by omega, q3⟩⟩, fun z => ⟨z.1, fun ⟨R', q1, q2, q3⟩ => ?_⟩⟩
      rcases hg with hg | hg
      · exact z.2 ⟨R', q1, by omega, q3⟩
      · omega
    | succ g ih =>
      intro R a hg hLR hRb hf ha
      refine uX6_markMeetings_47 X (nI (o j)) (nI (o k)) hR _ _ a ?_
      unfold vcX6_markMeetings_47
      have hgR : R + (g + 1 : Nat) = H + 1 := by
        rcases hg with hg | hg
        · exact hg
        · omega
      rw [zI_lt ⟨by omega, by omega⟩ ⟨by omega, by omega⟩, nI_clamp (by omega), hf 25 (by decide), h25, hf 22 (by decide), h12, zI_add, zI_n sz]
      refine ⟨fun z => absurd z (by omega), fun _ => ⟨vp_in_nI (by omega) (by omega), ?_⟩⟩
      refine (c_rest G r ad ln a (x := of + R) (y := (sz : Int)) ⟨by omega, by omega⟩ ⟨by omega, by omega⟩ (by omega)).mono (fun q a2 hq => ?_)
      obtain ⟨rfl, e2⟩ := hq
      obtain rfl := e2.symm
      have m1 := Int.emod_nonneg (of + R) (b := (sz : Int)) (by omega)
      have m2 := Int.emod_lt_of_pos (of + R) (b := (sz : Int)) (by omega)
      refine ⟨zvp m1 (by omega) (by omega), ?_⟩
      rw [zI_clamp ⟨by omega, by omega⟩, zI_1, zI_add]
      refine ih (R + 1) _ (Or.inl (by omega)) (by omega) (by omega) (hf.up (by decide) _ _) (fun f hf2 => ?_)
      by_cases q : (of + R) % (sz : Int) = (f : Int)
      · have es : ((of + R) % (sz : Int)).toNat = f := by omega
        rw [es, up2_self]
        exact ⟨fun z => absurd z (by decide), fun z => absurd ⟨R, hLR, by omega, q⟩ z.2⟩
      · rw [up2_ne _ _ (fun z => q (by have := z.2; omega)), ha f hf2]
        refine ⟨fun z => ⟨z.1, fun ⟨R', q1, q2, q3⟩ => ?_⟩, fun z => ⟨z.1, fun ⟨R', q1, q2, q3⟩ => z.2 ⟨R', q1, by omega, q3⟩⟩⟩
        by_cases q4 : R' = R
        · subst q4
          exact q q3
        · exact z.2 ⟨R', q1, by omega, q3⟩
  refine uX6_markMeetings_0 X _ _ hR al ?_
  unfold vcX6_markMeetings_0
  have v1 : vp_in (nI (o j)) 48 := vp_in_nI (by omega) (by omega)
  have v2 : vp_in (nI (o k)) 48 := vp_in_nI (by omega) (by omega)
  rw [nI_clamp (by omega), nI_clamp (by omega), c2, b1, h9, zI_sub, zI_n D]
  refine ⟨v2, v1, ?_⟩
  refine (c_quotient G r ad ln al (x := e (o k) - b (o j)) (y := (D : Int)) ⟨by omega, by omega⟩ ⟨by omega, by omega⟩ (by omega)).mono (fun q a hq => ?_)
  obtain ⟨rfl, e2⟩ := hq
  obtain rfl := e2.symm
  refine ⟨v1, v2, ?_⟩
  rw [b2, c1, h9, zI_sub, zI_n D]
  refine (c_quotient G r ad ln al (x := e (o j) - b (o k)) (y := (D : Int)) ⟨by omega, by omega⟩ ⟨by omega, by omega⟩ (by omega)).mono (fun q a hq => ?_)
  obtain ⟨rfl, e2⟩ := hq
  obtain rfl := e2.symm
  rw [zI_neg, hL, hH]
  refine loop (H + 1 - L).toNat L al (by omega) (by omega) (by omega) zFr.rf (fun f hf => ⟨fun z => ⟨z, fun ⟨R', q1, q2, _⟩ => by omega⟩, fun z => z.1⟩)
theorem c_leastFree (h : zSo al n D K b e o) {k : Nat} (hk : k < K) {sz : Nat} (hsz : 1 ≤ sz ∧ sz ≤ 128) (h12 : al 22 12 = nI sz) {off : Nat → Int} (hof : ∀ y, off y = -1 ∨ (0 ≤ off y ∧ off y < sz)) (h25 : ∀ j, j < k → al 25 (o j) = zI (off (o j))) : zMi G yX6_leastFree wsX6_leastFree rmX6_leastFree (zTC r) ad ln [.ref (ad 22), .int (nI k)] al (fun q a => zFr [28] al a ∧ match zFst (zFre D b e o sz off k) sz 0 with
    | some f => q = nI f ∧ f < sz
    | none => q = -1) := by
  refine zMi.of (cc := cX6_leastFree) (nL := 3) (rt := .int) (by decide) rfl (Nat.le_of_ble_eq_true rfl) (fun Z X hR => ?_)
  generalize hP : (fun (q : Int32) (a : Nat → Nat → Int32) => zFr [28] al a ∧ match zFst (zFre D b e o sz off k) sz 0 with
    | some f => q = nI f ∧ f < sz
    | none => q = -1) = P at hR
  have h0 := h
  obtain ⟨hn, hD, h9, h10, hK, ho, hdist, hbe⟩ := h
  have scan : ∀ (g f : Nat) (a : Nat → Nat → Int32), f + g = sz → zFr [28] al a → (∀ f : Nat, f < sz → (a 28 f = 0 ↔ zFre D b e o sz off k f)) → zFst (zFre D b e o sz off k) sz 0 = zFst (zFre D b e o sz off k) g f → BX6_leastFree_39 G Z r ad ln (nI k) (nI f) a := by
    intro g
    induction g with
    | zero =>
      intro f a hg hf ha e1
      refine uX6_leastFree_39 X (nI k) hR _ a ?_
      unfold vcX6_leastFree_39
      have : f = sz := by omega
      subst this
      rw [hf 22 (by decide), h12]
      refine ⟨fun _ => ?_, fun z => absurd (Int32.le_refl _) z⟩
      rw [← hP]
      refine ⟨hf, ?_⟩
      rw [e1]
      rfl
    | succ g ih =>
      intro f a hg hf ha e1
      refine uX6_leastFree_39 X (nI k) hR _ a ?_
      unfold vcX6_leastFree_39
      rw [hf 22 (by decide), h12, nI_clamp (by omega), nI_1, ha f (by omega)]
      refine ⟨fun z => absurd z (by rw [nI_leI (by omega) (by omega)]; omega), fun _ => ⟨vp_in_nI (by omega) (by omega), fun q => ih (f + 1) a (by omega) hf ha ?_, fun q => ?_⟩⟩
      · rw [e1, zFst_n q]
      · rw [← hP]
        refine ⟨hf, ?_⟩
        rw [e1, zFst_y q]
        exact ⟨rfl, by omega⟩
  have loop : ∀ (g j : Nat) (a : Nat → Nat → Int32), j + g = k → zFr [28] al a → (∀ f : Nat, f < sz → (a 28 f = 0 ↔ ∀ j', j' < j → ¬ zMe D b e sz off (o k) (f : Int) (o j'))) → BX6_leastFree_10 G Z r ad ln (nI k) (nI j) a := by
    intro g
    induction g with
    | zero =>
      intro j a hg hf ha
      refine uX6_leastFree_10 X (nI k) hR _ a ?_
      unfold vcX6_leastFree_10
      have : j = k := by omega
      subst this
      exact ⟨fun _ => scan sz 0 a (by omega) hf ha rfl, fun z => absurd (Int32.le_refl _) z⟩
    | succ g ih =>
      intro j a hg hf ha
      refine uX6_leastFree_10 X (nI k) hR _ a ?_
      unfold vcX6_leastFree_10
      rw [nI_clamp (by omega), nI_clamp (by omega), hf 26 (by decide), (ho j (by omega)).1, (ho k hk).1, nI_1]
      refine ⟨fun z => absurd z (by rw [nI_leI (by omega) (by omega)]; omega), fun _ => ⟨vp_in_nI (by omega) (by omega), vp_in_nI (by omega) (by omega), ?_⟩⟩
      have hf22 : a 22 = al 22 := hf 22 (by decide)
      have h1 : zSo a n D K b e o := h0.fr (by rw [hf22]) (by rw [hf22]) (hf 23 (by decide)) (hf 24 (by decide)) (hf 26 (by decide))
      have ob := hof (o j)
      refine (c_markMeetings G r ad ln a h1 (j := j) (k := k) (by omega) hk hsz (by rw [hf22]; exact h12) (of := off (o j)) (by omega) (by rw [hf 25 (by decide)]; exact h25 j (by omega))).mono (fun a2 hq => ?_)
      obtain ⟨f2, g2⟩ := hq
      refine ih (j + 1) a2 (by omega) (hf.tr f2) (fun f hf3 => ?_)
      rw [g2 f hf3, ha f hf3, ← zMe_iff hD.1 hsz.1 hf3]
      refine ⟨fun z j' hj' => ?_, fun z => ⟨fun j' hj' => z j' (by omega), z j (by omega)⟩⟩
      by_cases q : j' = j
      · subst q
        exact z.2
      · exact z.1 j' (by omega)
  refine uX6_leastFree_0 X (nI k) hR al ?_
  unfold vcX6_leastFree_0
  refine (c_fill G ad ln al (zTC r) 28 1 128 0 0 ⟨zTC_lt (by decide), rfl, Or.inl rfl⟩ (by show 128 < 2147483648; omega) 0).mono (fun a1 e1 => ?_)
  subst e1
  refine loop k 0 _ (by omega) (fun x hx => ?_) (fun f hf => ⟨fun _ j' hj' => absurd hj' (by omega), fun _ => ?_⟩)
  · funext j
    unfold upA
    rw [if_neg (fun z => hx (by simp [z.1]))]
  · show upA al 28 128 _ 28 f = 0
    unfold upA
    rw [if_pos ⟨rfl, by omega⟩]
theorem c_colourAll (h : zSo al n D K b e o) {sz : Nat} (hsz : 1 ≤ sz ∧ sz ≤ 128) (h12 : al 22 12 = nI sz) (hno : ∀ x, x < n → (∀ j, j < K → o j ≠ x) → al 25 x = -1) : zMi G yX6_colourAll wsX6_colourAll rmX6_colourAll (zTC r) ad ln [.ref (ad 22)] al (fun q a => zFr [25, 28] al a ∧ (∀ x, x < n → (∀ j, j < K → o j ≠ x) → a 25 x = -1) ∧ match zCol D b e o sz K with
    | some off => q = 1 ∧ ∀ x, x < n → a 25 x = zI (off x)
    | none => q = 0) := by
  refine zMi.of (cc := cX6_colourAll) (nL := 3) (rt := .boolean) (by decide) rfl (Nat.le_of_ble_eq_true rfl) (fun Z X hR => ?_)
  generalize hP : (fun (q : Int32) (a : Nat → Nat → Int32) => zFr [25, 28] al a ∧ (∀ x, x < n → (∀ j, j < K → o j ≠ x) → a 25 x = -1) ∧ match zCol D b e o sz K with
    | some off => q = 1 ∧ ∀ x, x < n → a 25 x = zI (off x)
    | none => q = 0) = P at hR
  have h0 := h
  obtain ⟨hn, hD, h9, h10, hK, ho, hdist, hbe⟩ := h
  have loop : ∀ (g k : Nat) (a : Nat → Nat → Int32) (off : Nat → Int), k + g = K → zFr [25, 28] al a → (∀ x, x < n → (∀ j, j < K → o j ≠ x) → a 25 x = -1) → zCol D b e o sz k = some off → (∀ j, j < k → a 25 (o j) = zI (off (o j))) → BX6_colourAll_2 G Z r ad ln (nI k) a := by
    intro g
    induction g with
    | zero =>
      intro k a off hg hf hx hc h25
      refine uX6_colourAll_2 X hR _ a ?_
      unfold vcX6_colourAll_2
      have : k = K := by omega
      subst this
      rw [hf 22 (by decide), h10]
      refine ⟨fun _ => ?_, fun z => absurd (Int32.le_refl _) z⟩
      rw [← hP]
      refine ⟨hf, hx, ?_⟩
      rw [hc]
      refine ⟨rfl, fun x hxn => ?_⟩
      by_cases q : ∃ j, j < k ∧ o j = x
      · obtain ⟨j, j1, j2⟩ := q
        subst j2
        exact h25 j j1
      · have q' : ∀ j, j < k → o j ≠ x := fun j hj z => q ⟨j, hj, z⟩
        rw [hx x hxn q', (zCol_rng D b e o sz k off hc).2 x q']
        rfl
    | succ g ih =>
      intro k a off hg hf hx hc h25
      refine uX6_colourAll_2 X hR _ a ?_
      unfold vcX6_colourAll_2
      have hf22 : a 22 = al 22 := hf 22 (by decide)
      rw [hf22, h10, nI_1]
      refine ⟨fun z => absurd z (by rw [nI_leI (by omega) (by omega)]; omega), fun _ => ?_⟩
      have h1 : zSo a n D K b e o := h0.fr (by rw [hf22]) (by rw [hf22]) (hf 23 (by decide)) (hf 24 (by decide)) (hf 26 (by decide))
      have nx : zCol D b e o sz (k + 1) = (match zFst (zFre D b e o sz off k) sz 0 with
          | none => none
          | some f => some (fup off (o k) (f : Int))) := by
        show (match zCol D b e o sz k with
          | none => none
          | some off => match zFst (zFre D b e o sz off k) sz 0 with
            | none => none
            | some f => some (fup off (o k) (f : Int))) = _
        rw [hc]
      refine (c_leastFree G r ad ln a h1 (k := k) (by omega) hsz (by rw [hf22]; exact h12) (zCol_rng D b e o sz k off hc).1 h25).mono (fun q a2 hq => ?_)
      obtain ⟨f2, g2⟩ := hq
      cases hz : zFst (zFre D b e o sz off k) sz 0 with
      | some f =>
        rw [hz] at g2 nx
        obtain ⟨rfl, g3⟩ := g2
        rw [nI_clamp (by omega), f2 26 (by decide), hf 26 (by decide), (ho k (by omega)).1, nI_clamp (by have := (ho k (by omega)).2; omega)]
        refine ⟨fun _ => ⟨vp_in_nI (by omega) (by omega), vp_in_nI (by have := (ho k (by omega)).2; omega) (by omega), ?_⟩, fun z => absurd (by rw [show (0 : Int32) = nI 0 from rfl, nI_leI (by omega) (by omega)]; omega) z⟩
        refine ih (k + 1) _ _ (by omega) ((hf.tr (f2.mono (by decide))).up (by decide) _ _) (fun x hxn hxo => ?_) nx (fun j hj => ?_)
        · rw [up2_ne _ _ (fun z => hxo k (by omega) z.2.symm), f2 25 (by decide)]
          exact hx x hxn hxo
        · unfold fup
          by_cases q : j = k
          · subst q
            rw [up2_self, if_pos rfl, zI_n]
          · have q2 := hdist j k (by omega) (by omega)
            rw [up2_ne _ _ (fun z => q2 z.2), if_neg q2, f2 25 (by decide)]
            exact h25 j (by omega)
      | none =>
        rw [hz] at g2 nx
        rw [g2]
        refine ⟨fun z => absurd z (by decide), fun _ => ?_⟩
        rw [← hP]
        refine ⟨hf.tr (f2.mono (by decide)), fun x hxn hxo => by rw [f2 25 (by decide)]; exact hx x hxn hxo, ?_⟩
        have := zCol_mono D b e o sz (k + 1) nx g
        rw [show k + 1 + g = K by omega] at this
        rw [this]
  refine uX6_colourAll_0 X hR al ?_
  unfold vcX6_colourAll_0
  exact loop K 0 al _ (by omega) zFr.rf hno rfl (fun j hj => absurd hj (by omega))
end FIT
section FIT2
variable (G : zG) (r : Bool) (ad ln : Nat → Nat) (al : Nat → Nat → Int32) {n D : Nat} {kd st : Nat → Nat} {c sl sr : Nat → Int}
/-- begin and end of the span of a row -/
def fBg (n D : Nat) (kd st : Nat → Nat) (c sl sr : Nat → Int) (x : Nat) : Int := zBg D c (fun x => st (kd x)) (zUsS sl sr) x n
def fEn (n D : Nat) (c sl sr : Nat → Int) (x : Nat) : Int := zE D c (zUsS sl sr) x n
theorem c_fit (h : zSn al n kd st c sl sr) (hD : 1 ≤ D ∧ D ≤ 200) (hbe : ∀ x, x < n → 0 ≤ fEn n D c sl sr x → fBg n D kd st c sl sr x ≤ fEn n D c sl sr x) : zMi G yX6_fit wsX6_fit rmX6_fit (zTC r) ad ln [.ref (ad 22), .int (nI D)] al (fun q a => zFr [22, 23, 24, 25, 26, 27, 28] al a ∧ match zFitS D (fBg n D kd st c sl sr) (fEn n D c sl sr) (zOr (fBg n D kd st c sl sr) n).1 (zOr (fBg n D kd st c sl sr) n).2 with
    | some (sz, off) => q = 1 ∧ a 22 11 = zI (zNd D (fBg n D kd st c sl sr) (fEn n D c sl sr) (zOr (fBg n D kd st c sl sr) n).1 (zOr (fBg n D kd st c sl sr) n).2 D) ∧ a 22 12 = nI sz ∧ (1 ≤ sz ∧ sz ≤ 128) ∧ ∀ x, x < n → a 23 x = zI (fBg n D kd st c sl sr x) ∧ a 24 x = zI (fEn n D c sl sr x) ∧ a 25 x = zI (off x)
    | none => q = 0) := by
  refine zMi.of (cc := cX6_fit) (nL := 2) (rt := .boolean) (by decide) rfl (Nat.le_of_ble_eq_true rfl) (fun Z X hR => ?_)
  have hn := h.2.1
  have hc := h.2.2.2.2.1
  have hk := h.2.2.1
  have hs := h.2.2.2.1
  generalize hb : fBg n D kd st c sl sr = b at hR hbe
  generalize he : fEn n D c sl sr = e at hR hbe
  generalize ho : (zOr b n).1 = o at hR
  generalize hK : (zOr b n).2 = K at hR
  have er : ∀ x, x < n → -1 ≤ e x ∧ e x ≤ 1000200 := by
    intro x hx
    have := zE_rng (D := D) (c := c) (us := zUsS sl sr) (n := n) (B := 1000000) (fun y hy => (hc y hy).2) (by omega) (x := x) n (Nat.le_refl _)
    rw [← he]
    unfold fEn
    omega
  have br : ∀ x, x < n → -1 ≤ b x ∧ b x ≤ 1000100 ∧ (0 ≤ b x → 0 ≤ e x) := by
    intro x hx
    have h1 := (hc x hx).2
    have h2 := (hs (kd x) (by have := (hk x hx).2; omega)).2
    have h3 := er x hx
    rw [← hb]
    rw [← he] at h3 ⊢
    unfold fBg zBg
    unfold fEn at h3 ⊢
    show -1 ≤ (if zE D c (zUsS sl sr) x n = -1 then -1 else c x + (st (kd x) : Int)) ∧ (if zE D c (zUsS sl sr) x n = -1 then -1 else c x + (st (kd x) : Int)) ≤ 1000100 ∧ (0 ≤ (if zE D c (zUsS sl sr) x n = -1 then -1 else c x + (st (kd x) : Int)) → 0 ≤ zE D c (zUsS sl sr) x n)
    split <;> omega
  obtain ⟨k1, k2, k3, k4⟩ := zOr_ok b n
  rw [ho, hK] at k2 k3 k4
  rw [hK] at k1
  have so : ∀ a : Nat → Nat → Int32, a 22 9 = nI D → a 22 10 = nI K → (∀ j, j < K → a 26 j = nI (o j)) → (∀ x, x < n → a 24 x = zI (e x) ∧ a 23 x = zI (b x)) → zSo a n D K b e o := by
    intro a h9 h10 h26 h2324
    refine ⟨hn, hD, h9, h10, by omega, fun j hj => ⟨h26 j hj, (k2 j hj).1⟩, k3, fun j hj => ?_⟩
    obtain ⟨o1, o2⟩ := k2 j hj
    obtain ⟨q1, q2⟩ := h2324 (o j) o1
    have q3 := (br (o j) o1).2.2 o2
    exact ⟨q2, q1, o2, hbe (o j) o1 q3, (er (o j) o1).2⟩
  have ndr := zNd_rng (D := D) (b := b) (e := e) (o := o) (B := 1000200) hD.1 (k := K) (by omega) (fun j hj => by
    obtain ⟨o1, o2⟩ := k2 j hj
    have q3 := (br (o j) o1).2.2 o2
    exact ⟨o2, hbe (o j) o1 q3, (er (o j) o1).2⟩) D
  generalize hP : (fun (q : Int32) (a : Nat → Nat → Int32) => zFr [22, 23, 24, 25, 26, 27, 28] al a ∧ match zFitS D b e o K with
    | some (sz, off) => q = 1 ∧ a 22 11 = zI (zNd D b e o K D) ∧ a 22 12 = nI sz ∧ (1 ≤ sz ∧ sz ≤ 128) ∧ ∀ x, x < n → a 23 x = zI (b x) ∧ a 24 x = zI (e x) ∧ a 25 x = zI (off x)
    | none => q = 0) = P at hR
  have loop : ∀ (g sz : Nat) (a : Nat → Nat → Int32), sz + g = 129 → 1 ≤ sz → zFr [22, 23, 24, 25, 26, 27, 28] al a → zSo a n D K b e o → a 22 12 = nI sz → a 22 11 = zI (zNd D b e o K D) → (∀ x, x < n → a 24 x = zI (e x) ∧ a 23 x = zI (b x)) → (∀ x, x < n → (∀ j, j < K → o j ≠ x) → a 25 x = -1) → zFitS D b e o K = zSz D b e o K g sz → BX6_fit_58 G Z r ad ln (nI D) a := by
    intro g
    induction g with
    | zero =>
      intro sz a hg h1 hf hso h12 h11 h2 h25 ez
      refine uX6_fit_58 X (nI D) hR a ?_
      unfold vcX6_fit_58
      have : sz = 129 := by omega
      subst this
      rw [h12]
      refine ⟨fun _ => ?_, fun z => absurd (by decide) z⟩
      rw [← hP]
      refine ⟨hf, ?_⟩
      rw [ez]
      rfl
    | succ g ih =>
      intro sz a hg h1 hf hso h12 h11 h2 h25 ez
      refine uX6_fit_58 X (nI D) hR a ?_
      unfold vcX6_fit_58
      rw [h12]
      refine ⟨fun z => absurd z (by rw [show (128 : Int32) = nI 128 from rfl, nI_ltI (by omega) (by omega)]; omega), fun _ => ?_⟩
      refine (c_colourAll G r ad ln a hso (sz := sz) (by omega) h12 h25).mono (fun q a2 hq => ?_)
      obtain ⟨f2, g2, g3⟩ := hq
      have nx : zSz D b e o K (g + 1) sz = (match zCol D b e o sz K with
        | some off => some (sz, off)
        | none => zSz D b e o K g (sz + 1)) := rfl
      cases hz : zCol D b e o sz K with
      | some off =>
        rw [hz] at g3 nx
        obtain ⟨rfl, g4⟩ := g3
        refine ⟨fun z => absurd z (by decide), fun _ => ?_⟩
        rw [← hP]
        refine ⟨hf.tr (f2.mono (by decide)), ?_⟩
        rw [ez, nx]
        refine ⟨rfl, by rw [f2 22 (by decide)]; exact h11, by rw [f2 22 (by decide)]; exact h12, by omega, fun x hx => ⟨?_, ?_, g4 x hx⟩⟩
        · rw [f2 23 (by decide)]
          exact (h2 x hx).2
        · rw [f2 24 (by decide)]
          exact (h2 x hx).1
      | none =>
        rw [hz] at g3 nx
        rw [g3]
        refine ⟨fun _ => ?_, fun z => absurd rfl z⟩
        rw [f2 22 (by decide), h12, nI_1]
        refine ih (sz + 1) _ (by omega) (by omega) ((hf.tr (f2.mono (by decide))).up (by decide) _ _) ?_ (up2_self _ _ _ _) ?_ (fun x hx => ?_) (fun x hx ho => ?_) ?_
        · refine hso.fr ?_ ?_ ?_ ?_ ?_
          · rw [up2_ne _ _ (fun z => absurd z.2 (by decide)), f2 22 (by decide)]
          · rw [up2_ne _ _ (fun z => absurd z.2 (by decide)), f2 22 (by decide)]
          · rw [up2_name _ _ _ (by decide), f2 23 (by decide)]
          · rw [up2_name _ _ _ (by decide), f2 24 (by decide)]
          · rw [up2_name _ _ _ (by decide), f2 26 (by decide)]
        · rw [up2_ne _ _ (fun z => absurd z.2 (by decide)), f2 22 (by decide)]
          exact h11
        · rw [up2_name _ _ _ (by decide), up2_name _ _ _ (by decide), f2 24 (by decide), f2 23 (by decide)]
          exact h2 x hx
        · rw [up2_name _ _ _ (by decide)]
          exact g2 x hx ho
        · rw [ez, nx]
  refine uX6_fit_0 X (nI D) hR al ?_
  unfold vcX6_fit_0
  refine ⟨fun z => absurd z (by rw [show (1 : Int32) = nI 1 from rfl, nI_ltI (by omega) (by omega)]; omega), fun _ => ⟨fun _ => ?_, fun z => absurd (by rw [show (200 : Int32) = nI 200 from rfl, nI_leI (by omega) (by omega)]; omega) z⟩⟩
  have f0 : zFr [22] al (up2 al 22 9 (nI D)) := zFr.rf.up (by decide) _ _
  refine (c_findSpans G r ad ln _ (h.fr f0 (by intro k hk; simp at hk; omega)) hD (up2_self _ _ _ _)).mono (fun a1 hq => ?_)
  obtain ⟨f1, g1⟩ := hq
  have g1' : ∀ x, x < n → a1 24 x = zI (e x) ∧ a1 23 x = zI (b x) ∧ a1 25 x = -1 := by
    intro x hx
    rw [← hb, ← he]
    exact g1 x hx
  refine (c_orderSpans G r ad ln a1 (n := n) (by rw [f1 4 (by decide), f0 4 (by decide)]; exact h.1) hn (b := b) (fun x hx => ⟨(g1' x hx).2.1, (br x hx).1, (br x hx).2.1⟩)).mono (fun a2 hq => ?_)
  obtain ⟨f2, j2, g2, g3⟩ := hq
  rw [hK] at g2 g3
  rw [ho] at g3
  have hso2 : zSo a2 n D K b e o := by
    refine so a2 ?_ g2 g3 (fun x hx => ?_)
    · rw [j2 9 (by decide), f1 22 (by decide), up2_self]
    · rw [f2 24 (by decide), f2 23 (by decide)]
      exact ⟨(g1' x hx).1, (g1' x hx).2.1⟩
  refine (c_findNeed G r ad ln a2 hso2).mono (fun q a3 hq => ?_)
  obtain ⟨f3, rfl⟩ := hq
  have ff : zFr [22, 23, 24, 25, 26, 27, 28] al a3 := (((f0.mono (by decide)).tr (f1.mono (by decide))).tr (f2.mono (by decide))).tr (f3.mono (by decide))
  rw [show (96 : Int32) = zI 96 from rfl, zI_le ⟨by omega, by omega⟩ ⟨by omega, by omega⟩, zI_1, zI_mx ⟨by omega, by omega⟩ ⟨by omega, by omega⟩]
  refine ⟨fun q => ?_, fun q => ?_⟩
  · have hmx : 1 ≤ zmx (zNd D b e o K D) 1 ∧ zmx (zNd D b e o K D) 1 ≤ 96 := by
      unfold zmx
      split <;> omega
    refine loop (129 - (zmx (zNd D b e o K D) 1).toNat) (zmx (zNd D b e o K D) 1).toNat _ (by omega) (by omega) ((ff.up (by decide) _ _).up (by decide) _ _) ?_ ?_ ?_ (fun x hx => ?_) (fun x hx _ => ?_) ?_
    · refine hso2.fr ?_ ?_ ?_ ?_ ?_
      · rw [up2_ne _ _ (fun z => absurd z.2 (by decide)), up2_ne _ _ (fun z => absurd z.2 (by decide)), f3 22 (by decide)]
      · rw [up2_ne _ _ (fun z => absurd z.2 (by decide)), up2_ne _ _ (fun z => absurd z.2 (by decide)), f3 22 (by decide)]
      · rw [up2_name _ _ _ (by decide), up2_name _ _ _ (by decide), f3 23 (by decide)]
      · rw [up2_name _ _ _ (by decide), up2_name _ _ _ (by decide), f3 24 (by decide)]
      · rw [up2_name _ _ _ (by decide), up2_name _ _ _ (by decide), f3 26 (by decide)]
    · rw [up2_self, zI_n]
      congr 1
      omega
    · rw [up2_ne _ _ (fun z => absurd z.2 (by decide)), up2_self]
    · rw [up2_name _ _ _ (by decide), up2_name _ _ _ (by decide), up2_name _ _ _ (by decide), up2_name _ _ _ (by decide), f3 24 (by decide), f3 23 (by decide), f2 24 (by decide), f2 23 (by decide)]
      exact ⟨(g1' x hx).1, (g1' x hx).2.1⟩
    · rw [up2_name _ _ _ (by decide), up2_name _ _ _ (by decide), f3 25 (by decide), f2 25 (by decide)]
      exact (g1' x hx).2.2
    · unfold zFitS
      rw [if_neg (by omega)]
  · rw [← hP]
    refine ⟨ff.up (by decide) _ _, ?_⟩
    unfold zFitS
    rw [if_pos (by omega)]
end FIT2
