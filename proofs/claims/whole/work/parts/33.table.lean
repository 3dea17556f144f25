-- needs: 24 32
/-! the class's table: contracts -/
/-- the rows, their kinds, the distance, the settings, the cycles; all but the counts -/
def zTb0 (al : Nat → Nat → Int32) (n D : Nat) (kd st : Nat → Nat) (c lat : Nat → Int) : Prop := al 4 1 = nI n ∧ n ≤ 48 ∧ al 18 6 = nI D ∧ (1 ≤ D ∧ D ≤ 200) ∧ (∀ x, x < n → al (29 + 3 * x) 0 = nI (kd x) ∧ kd x < 4) ∧ (∀ x, x < n → al 19 x = zI (c x) ∧ -1 ≤ c x ∧ c x ≤ 1000000) ∧ (∀ x, x < n → al 20 x = zI (lat x) ∧ -1 ≤ lat x ∧ lat x ≤ 1000000) ∧ ∀ j, j < 9 → al 2 j = nI (st j) ∧ 1 ≤ st j ∧ st j ≤ 64
/-- the counts -/
def zUs (al : Nat → Nat → Int32) (n D : Nat) (kd : Nat → Nat) (c : Nat → Int) : Prop := ∀ g j, g < 4 → j < D → al 21 (g * 200 + j) = nI (sCnt D kd c g j n)
def zTb (al : Nat → Nat → Int32) (n D : Nat) (kd st : Nat → Nat) (c lat : Nat → Int) : Prop := zTb0 al n D kd st c lat ∧ zUs al n D kd c
theorem zGS_lt : ∀ g, g < 4 → (zGS g).toNatClampNeg < 9 ∧ vp_in (zGS g) 9 ∧ nI (zGS g).toNatClampNeg = zGS g := by
  intro g hg
  rcases (show g = 0 ∨ g = 1 ∨ g = 2 ∨ g = 3 by omega) with rfl | rfl | rfl | rfl <;> exact ⟨by decide, by unfold vp_in; decide, by decide⟩
theorem zRest_lt {D : Nat} (hD : 1 ≤ D) (t : Int) : sRest D t < D ∧ ((sRest D t : Nat) : Int) = t % (D : Int) := by
  unfold sRest
  have h1 := Int.emod_nonneg t (b := (D : Int)) (by omega)
  have h2 := Int.emod_lt_of_pos t (b := (D : Int)) (by omega)
  omega
section TABLE
variable (G : zG) (r : Bool) (ad ln : Nat → Nat) (al : Nat → Nat → Int32) {n D : Nat} {kd st : Nat → Nat} {c lat : Nat → Int}
theorem c_isFull (h : zTb al n D kd st c lat) {g : Nat} (hg : g < 4) {t : Int} (ht : zR t) : zMi G yX7_isFull wsX7_isFull rmX7_isFull (zTC r) ad ln [.ref (ad 18), .int (nI g), .int (zI t)] al (fun q a => q = zb (sFull n D kd st c g t) ∧ a = al) := by
  refine zMi.of (cc := cX7_isFull) (nL := 3) (rt := .boolean) (by decide) rfl (Nat.le_of_ble_eq_true rfl) (fun Z X hR => ?_)
  refine tX7_isFull_0 X _ _ hR al ?_
  unfold vcX7_isFull_0 vcX7_isFull_37
  obtain ⟨⟨h1, h2, h3, h4, h5, h6, h7, h8⟩, hu⟩ := h
  rw [h3, zI_n]
  refine (c_rest G r ad ln al ht (y := (D : Int)) ⟨by omega, by omega⟩ (by omega)).mono (fun q a hq => ?_)
  obtain ⟨rfl, e⟩ := hq
  obtain rfl := e.symm
  have hr := zRest_lt h4.1 t
  have ei : nI g * 200 + zI (t % (D : Int)) = nI (g * 200 + sRest D t) := by
    rw [← hr.2, ← zI_n, show (200 : Int32) = nI 200 from rfl, pk_mul, nI_add]
  have hs := zGS_lt g hg
  have hsc := sCnt_le D kd c g (sRest D t) n
  rw [ei, nI_clamp (by omega), nI_clamp (by omega), hu g _ hg hr.1, (h8 _ hs.1).1]
  have hst := (h8 _ hs.1).2
  rw [nI_ltI (by omega) (by omega)]
  refine ⟨vp_in_nI (by omega) (by omega), vp_in_nI hg (by omega), hs.2.1, fun q => ⟨rfl, ?_, rfl⟩, fun q => ⟨rfl, ?_, rfl⟩⟩
  · unfold sFull sUnits
    rw [decide_eq_false (by omega)]
    rfl
  · unfold sFull sUnits
    rw [decide_eq_true (by omega)]
    rfl
theorem c_hasRoom (h : zTb al n D kd st c lat) {x : Nat} (hx : x < n) {t : Int} (ht : zR t) : zMi G yX7_hasRoom wsX7_hasRoom rmX7_hasRoom (zTC r) ad ln [.ref (ad 18), .int (nI x), .int (zI t)] al (fun q a => q = zb (sRoom n D kd st c x t) ∧ a = al) := by
  refine zMi.of (cc := cX7_hasRoom) (nL := 4) (rt := .boolean) (by decide) rfl (Nat.le_of_ble_eq_true rfl) (fun Z X hR => ?_)
  have hn := h.1.2.1
  have hk := h.1.2.2.2.2.1 x hx
  have loop : ∀ (f g : Nat), g + f = 4 → sRoomF n D kd st c x t f g = sRoom n D kd st c x t → BX7_hasRoom_2 G Z r ad ln (nI x) (zI t) (nI g) al := by
    intro f
    induction f with
    | zero =>
      intro g hg e
      refine uX7_hasRoom_2 X _ _ hR _ _ ?_
      unfold vcX7_hasRoom_2
      rw [show (4 : Int32) = nI 4 from rfl, nI_leI (by omega) (by omega)]
      refine ⟨fun _ => ⟨?_, rfl⟩, fun q => absurd (by omega) q⟩
      rw [← e]
      rfl
    | succ f ih =>
      intro g hg e
      refine uX7_hasRoom_2 X _ _ hR _ _ ?_
      unfold vcX7_hasRoom_2 vcX7_hasRoom_37
      rw [show (4 : Int32) = nI 4 from rfl, nI_leI (by omega) (by omega), nI_clamp (by omega), hk.1]
      refine ⟨fun q => absurd q (by omega), fun _ => ⟨vp_in_nI (by omega) (by omega), ?_⟩⟩
      refine (c_isInGroup G r ad ln al hk.2 (show g < 4 by omega)).mono (fun q a hq => ?_)
      obtain ⟨rfl, e2⟩ := hq
      obtain rfl := e2.symm
      rw [zb_0, nI_1]
      unfold sRoomF at e
      refine ⟨fun q => ?_, fun q => ?_⟩
      · rw [if_neg (by rw [q]; simp)] at e
        exact ih (g + 1) (by omega) e
      · have q' : zGrp (kd x) g = true := by
          cases h9 : zGrp (kd x) g
          · exact absurd h9 q
          · rfl
        refine (c_isFull G r ad ln al h (show g < 4 by omega) ht).mono (fun q2 a hq => ?_)
        obtain ⟨rfl, e2⟩ := hq
        obtain rfl := e2.symm
        rw [zb_0]
        refine ⟨fun q3 => ?_, fun q3 => ⟨?_, rfl⟩⟩
        · rw [if_neg (by rw [q3]; simp)] at e
          exact ih (g + 1) (by omega) e
        · have q3' : sFull n D kd st c g t = true := by
            cases h9 : sFull n D kd st c g t
            · exact absurd h9 q3
            · rfl
          rw [if_pos ⟨q', q3'⟩] at e
          rw [← e]
          rfl
  refine uX7_hasRoom_0 X _ _ hR al ?_
  unfold vcX7_hasRoom_0
  exact loop 4 0 rfl rfl
theorem zb_t {b : Bool} (h : ¬ zb b = 0) : b = true := by
  cases b
  · exact absurd rfl h
  · rfl
theorem c_firstWithRoom (h : zTb al n D kd st c lat) {x : Nat} (hx : x < n) {t : Int} (ht : 0 ≤ t ∧ t ≤ 2000000) : zMi G yX7_firstWithRoom wsX7_firstWithRoom rmX7_firstWithRoom (zTC r) ad ln [.ref (ad 18), .int (nI x), .int (zI t)] al (fun q a => q = zI (sFirst n D kd st c x D t) ∧ a = al) := by
  refine zMi.of (cc := cX7_firstWithRoom) (nL := 4) (rt := .int) (by decide) rfl (Nat.le_of_ble_eq_true rfl) (fun Z X hR => ?_)
  have h3 := h.1.2.2.1
  have hD := h.1.2.2.2.1
  generalize htg : sFirst n D kd st c x D t = tgt at hR
  have loop : ∀ (f : Nat) (s : Int), s + f = t + D → t ≤ s → sFirst n D kd st c x f s = tgt → BX7_firstWithRoom_2 G Z r ad ln (nI x) (zI t) (zI s) al := by
    intro f
    induction f with
    | zero =>
      intro s hs hts e
      refine uX7_firstWithRoom_2 X _ _ hR _ _ ?_
      unfold vcX7_firstWithRoom_2
      rw [h3, zI_n D, zI_add, zI_le ⟨by omega, by omega⟩ ⟨by omega, by omega⟩]
      refine ⟨fun _ => ⟨?_, rfl⟩, fun q => absurd (by omega) q⟩
      rw [← e]
      rfl
    | succ f ih =>
      intro s hs hts e
      refine uX7_firstWithRoom_2 X _ _ hR _ _ ?_
      unfold vcX7_firstWithRoom_2
      rw [h3, zI_n D, zI_add, zI_le ⟨by omega, by omega⟩ ⟨by omega, by omega⟩]
      refine ⟨fun q => absurd q (by omega), fun _ => ?_⟩
      refine (c_hasRoom G r ad ln al h hx (t := s) ⟨by omega, by omega⟩).mono (fun q a hq => ?_)
      obtain ⟨rfl, e2⟩ := hq
      obtain rfl := e2.symm
      unfold sFirst at e
      refine ⟨fun q => ?_, fun q => ⟨?_, rfl⟩⟩
      · rw [zb_0] at q
        rw [if_neg (by rw [q]; simp)] at e
        rw [zI_1, zI_add]
        exact ih (s + 1) (by omega) (by omega) e
      · rw [if_pos (zb_t q)] at e
        rw [e]
  refine uX7_firstWithRoom_0 X _ _ hR al ?_
  unfold vcX7_firstWithRoom_0
  exact loop D t rfl (Int.le_refl _) htg
theorem c_sharesRest (h : zTb0 al n D kd st c lat) {x : Nat} (hx : x < n) {t : Int} (ht : zR t) : zMi G yX7_sharesRest wsX7_sharesRest rmX7_sharesRest (zTC r) ad ln [.ref (ad 18), .int (nI x), .int (zI t)] al (fun q a => q = zb (decide (0 ≤ c x) && decide (c x % (D : Int) = ((sRest D t : Nat) : Int))) ∧ a = al) := by
  refine zMi.of (cc := cX7_sharesRest) (nL := 3) (rt := .boolean) (by decide) rfl (Nat.le_of_ble_eq_true rfl) (fun Z X hR => ?_)
  refine tX7_sharesRest_0 X _ _ hR al ?_
  unfold vcX7_sharesRest_0 vcX7_sharesRest_38 vcX7_sharesRest_39
  obtain ⟨h1, h2, h3, h4, h5, h6, h7, h8⟩ := h
  have h6x := h6 x hx
  have hr := zRest_lt h4.1 t
  rw [nI_clamp (by omega), h6x.1, zI_m1, zI_eq ⟨by omega, by omega⟩ ⟨by omega, by omega⟩]
  refine ⟨vp_in_nI (by omega) (by omega), fun q => ⟨rfl, ?_, rfl⟩, fun q => ⟨vp_in_nI (by omega) (by omega), ?_⟩⟩
  · rw [decide_eq_false (by omega)]
    rfl
  · rw [h3, zI_n]
    refine (c_rest G r ad ln al (x := c x) ⟨by omega, by omega⟩ (y := (D : Int)) ⟨by omega, by omega⟩ (by omega)).mono (fun q1 a hq => ?_)
    obtain ⟨rfl, e2⟩ := hq
    obtain rfl := e2.symm
    rw [h3, zI_n]
    refine (c_rest G r ad ln al ht (y := (D : Int)) ⟨by omega, by omega⟩ (by omega)).mono (fun q2 a hq => ?_)
    obtain ⟨rfl, e2⟩ := hq
    obtain rfl := e2.symm
    have b1 := Int.emod_nonneg (c x) (b := (D : Int)) (by omega)
    have b2 := Int.emod_lt_of_pos (c x) (b := (D : Int)) (by omega)
    rw [← hr.2, zI_eq ⟨by omega, by omega⟩ ⟨by omega, by omega⟩, decide_eq_true (show 0 ≤ c x by omega)]
    refine ⟨fun q => ⟨rfl, ?_, rfl⟩, fun q => ⟨rfl, ?_, rfl⟩⟩
    · rw [decide_eq_false q]
      rfl
    · rw [decide_eq_true q]
      rfl
/-- the counts of x's groups, at its cycle's rest, change by v -/
theorem c_changeUse (h : zTb0 al n D kd st c lat) {x : Nat} (hx : x < n) (hc : 0 ≤ c x) (v : Int32) : zMv G yX7_changeUse wsX7_changeUse rmX7_changeUse (zTC r) ad ln [.ref (ad 18), .int (nI x), .int v] al (fun a => zFr [21] al a ∧ ∀ g j, g < 4 → j < D → a 21 (g * 200 + j) = al 21 (g * 200 + j) + (if sAt D kd c g j x = true then v else 0)) := by
  refine zMv.of (cc := cX7_changeUse) (nL := 4) (by decide) rfl (Nat.le_of_ble_eq_true rfl) (fun Z X hR => ?_)
  obtain ⟨h1, h2, h3, h4, h5, h6, h7, h8⟩ := h
  have hk := h5 x hx
  have h6x := h6 x hx
  have hr := zRest_lt h4.1 (c x)
  have loop : ∀ (f g : Nat) (a : Nat → Nat → Int32), g + f = 4 → zFr [21] al a → (∀ g' j, g' < 4 → j < D → a 21 (g' * 200 + j) = al 21 (g' * 200 + j) + (if g' < g ∧ sAt D kd c g' j x = true then v else 0)) → BX7_changeUse_2 G Z r ad ln (nI x) v (nI g) a := by
    intro f
    induction f with
    | zero =>
      intro g a hg hfr ha
      refine uX7_changeUse_2 X _ _ hR _ _ ?_
      unfold vcX7_changeUse_2
      rw [show (4 : Int32) = nI 4 from rfl, nI_leI (by omega) (by omega)]
      refine ⟨fun _ => ⟨hfr, fun g' j hg' hj => ?_⟩, fun q => absurd (by omega) q⟩
      rw [ha g' j hg' hj]
      congr 1
      by_cases q : sAt D kd c g' j x = true
      · rw [if_pos q, if_pos ⟨by omega, q⟩]
      · rw [if_neg q, if_neg (fun z => q z.2)]
    | succ f ih =>
      intro g a hg hfr ha
      refine uX7_changeUse_2 X _ _ hR _ _ ?_
      unfold vcX7_changeUse_2 vcX7_changeUse_54
      rw [show (4 : Int32) = nI 4 from rfl, nI_leI (by omega) (by omega), nI_clamp (by omega), hfr _ (by simp; omega), hk.1]
      refine ⟨fun q => absurd q (by omega), fun _ => ⟨vp_in_nI (by omega) (by omega), ?_⟩⟩
      refine (c_isInGroup G r ad ln a hk.2 (show g < 4 by omega)).mono (fun q a3 hq => ?_)
      obtain ⟨rfl, e2⟩ := hq
      obtain rfl := e2.symm
      rw [nI_1]
      refine ⟨fun q => ?_, fun q => ⟨vp_in_nI (by omega) (by omega), ?_⟩⟩
      · rw [zb_0] at q
        refine ih (g + 1) a (by omega) hfr (fun g' j hg' hj => ?_)
        rw [ha g' j hg' hj]
        congr 1
        by_cases e : g' = g
        · subst e
          have : sAt D kd c g' j x = false := by unfold sAt; rw [q, Bool.and_false]
          rw [this]
          simp
        · by_cases q2 : sAt D kd c g' j x = true
          · by_cases q3 : g' < g
            · rw [if_pos ⟨q3, q2⟩, if_pos ⟨by omega, q2⟩]
            · rw [if_neg (fun z => q3 z.1), if_neg (fun z => by omega)]
          · rw [if_neg (fun z => q2 z.2), if_neg (fun z => q2 z.2)]
      · have q' := zb_t q
        rw [hfr 19 (by decide), hfr 18 (by decide), h6x.1, h3, zI_n D]
        refine (c_rest G r ad ln a (x := c x) ⟨by omega, by omega⟩ (y := (D : Int)) ⟨by omega, by omega⟩ (by omega)).mono (fun q5 a5 hq => ?_)
        obtain ⟨rfl, e2⟩ := hq
        obtain rfl := e2.symm
        have ei : nI g * 200 + zI (c x % (D : Int)) = nI (g * 200 + sRest D (c x)) := by
          rw [← hr.2, ← zI_n, show (200 : Int32) = nI 200 from rfl, pk_mul, nI_add]
        rw [ei, nI_clamp (by omega)]
        have hin : vp_in (nI (g * 200 + sRest D (c x))) 800 := vp_in_nI (by omega) (by omega)
        refine ⟨hin, hin, ih (g + 1) _ (by omega) (hfr.up (by decide) _ _) (fun g' j hg' hj => ?_)⟩
        by_cases e : g' = g ∧ j = sRest D (c x)
        · obtain ⟨rfl, rfl⟩ := e
          have hat : sAt D kd c g' (sRest D (c x)) x = true := by
            unfold sAt
            rw [q', hr.2]
            simp [hc]
          rw [up2_self, ha g' _ hg' hj, if_neg (by omega), if_pos ⟨by omega, hat⟩, Int32.add_zero]
        · rw [up2_ne _ _ (fun z => e (by have z2 := z.2; omega)), ha g' j hg' hj]
          congr 1
          by_cases eg : g' = g
          · subst eg
            have : ¬ sAt D kd c g' j x = true := by
              intro z
              unfold sAt at z
              simp at z
              exact e ⟨rfl, by omega⟩
            rw [if_neg (fun z => this z.2), if_neg (fun z => this z.2)]
          · by_cases q2 : sAt D kd c g' j x = true
            · by_cases q3 : g' < g
              · rw [if_pos ⟨q3, q2⟩, if_pos ⟨by omega, q2⟩]
              · rw [if_neg (fun z => q3 z.1), if_neg (fun z => by omega)]
            · rw [if_neg (fun z => q2 z.2), if_neg (fun z => q2 z.2)]
  refine uX7_changeUse_0 X _ _ hR al ?_
  unfold vcX7_changeUse_0
  refine loop 4 0 al rfl zFr.rf (fun g' j hg' hj => ?_)
  rw [if_neg (by omega), Int32.add_zero]
end TABLE
