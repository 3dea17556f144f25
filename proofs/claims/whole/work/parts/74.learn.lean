/-! Waits.learn -/
section LRNP
variable {R n : Nat} {rc : Nat → zRec} {st : Nat → Nat}
theorem zWy_mem {x : Nat} {e : zWe} : ∀ k, e ∈ zWy R rc st x k → ∃ y, y < k ∧ e ∈ zPair R rc st x y
  | 0, h => by unfold zWy at h; simp at h
  | k + 1, h => by
    rcases List.mem_append.mp h with h | h
    · obtain ⟨y, y1, y2⟩ := zWy_mem k h
      exact ⟨y, by omega, y2⟩
    · exact ⟨k, by omega, h⟩
theorem zWx_mem {e : zWe} : ∀ k, e ∈ zWx R rc st n k → ∃ x y, x < k ∧ y < n ∧ e ∈ zPair R rc st x y
  | 0, h => by unfold zWx at h; simp at h
  | k + 1, h => by
    rcases List.mem_append.mp h with h | h
    · obtain ⟨x, y, x1, y1, y2⟩ := zWx_mem k h
      exact ⟨x, y, by omega, y1, y2⟩
    · obtain ⟨y, y1, y2⟩ := zWy_mem n h
      exact ⟨k, y, by omega, y1, y2⟩
theorem zPair_63 (hR : R ≤ 64) {x y : Nat} {e : zWe} (h : e ∈ zPair R rc st x y) : e.2.2.1 ≤ 63 := by
  have u : zUon x y ≤ 1 := by unfold zUon; split <;> omega
  have po := zPo_rng (R := R) (rc := rc) x y
  unfold zPair at h
  split at h
  · rw [List.mem_singleton.mp h]
    show zUon x y ≤ 63
    omega
  · rcases List.mem_append.mp h with h | h
    · split at h
      · rw [List.mem_singleton.mp h]
        show zUon x y ≤ 63
        omega
      · simp at h
    · split at h
      · rw [List.mem_singleton.mp h]
        show (zPo R rc x y).toNat ≤ 63
        omega
      · simp at h
theorem zWL_63 (g : zGd n rc st) : ∀ i, i < (zWL n rc st).length → wO (zWL n rc st) i ≤ 63 := by
  intro i hi
  have hm : (wF (zWL n rc st) i, wT (zWL n rc st) i, wO (zWL n rc st) i, wD (zWL n rc st) i) ∈ zWL n rc st := List.mem_of_getElem? (wG hi)
  obtain ⟨x, y, -, -, h⟩ := zWx_mem n hm
  exact zPair_63 (g.2.2.2.2 8 (by omega)).2 h
theorem zWy_le {x : Nat} (y : Nat) : ∀ k, (zWy R rc st x y).length ≤ (zWy R rc st x (y + k)).length
  | 0 => Nat.le_refl _
  | k + 1 => by
    show _ ≤ (zWy R rc st x (y + k) ++ zPair R rc st x (y + k)).length
    rw [List.length_append]
    have := zWy_le (x := x) y k
    omega
theorem zWx_le (x : Nat) : ∀ k, (zWx R rc st n x).length ≤ (zWx R rc st n (x + k)).length
  | 0 => Nat.le_refl _
  | k + 1 => by
    show _ ≤ (zWx R rc st n (x + k) ++ zWy R rc st (x + k) n).length
    rw [List.length_append]
    have := zWx_le x k
    omega
theorem zW_pre {x y : Nat} (hx : x < n) (hy : y ≤ n) : (zWx R rc st n x ++ zWy R rc st x y).length ≤ (zWx R rc st n n).length := by
  have h1 := zWy_le (R := R) (rc := rc) (st := st) (x := x) y (n - y)
  rw [show y + (n - y) = n by omega] at h1
  have h2 := zWx_le (R := R) (rc := rc) (st := st) (n := n) (x + 1) (n - (x + 1))
  rw [show x + 1 + (n - (x + 1)) = n by omega] at h2
  have h3 : (zWx R rc st n (x + 1)).length = (zWx R rc st n x).length + (zWy R rc st x n).length := by
    show (zWx R rc st n x ++ zWy R rc st x n).length = _
    exact List.length_append
  rw [List.length_append]
  omega
theorem zCpL_mono (cap : Nat) {i j : Nat} (h : i ≤ j) : zCpL cap 0 i ≤ zCpL cap 0 j := by
  have := zCpL_add i (j - i) cap 0
  rw [show i + (j - i) = j by omega] at this
  rw [this]
  exact zCpL_ge _ _ _
end LRNP
section LRN
variable (G : zG) (r : Bool) (ad ln : Nat → Nat) (al : Nat → Nat → Int32) {cap : Nat} {n : Nat} {rc : Nat → zRec} {st : Nat → Nat}
theorem zCl.gd {a : Nat → Nat → Int32} (h : zCl a n rc st) (hn : 0 < n) : zGd n rc st := ⟨hn, h.1.2.1, fun x hx => (h.1.2.2 x hx).2, h.2.2.1, fun j hj => (h.2.1 j hj).2⟩
theorem c_learn (h : zCl al n rc st) (hn0 : 0 < n) {L0 : List zWe} (hw : zWc al ln cap L0) {cap' : Nat} (hc : zCpL cap 0 (zWL n rc st).length = cap') : zMgv G yX8_learn wsX8_learn (rmX8_learn (cap' - cap) (8 * (cap' - cap))) (zTC r, ad, ln, al) [.ref (ad 12)] (fun u => u.1 = zTC r ∧ zGr ad ln u.2.1 u.2.2.1 ∧ zFr [12, 13, 14, 15, 16, 17] al u.2.2.2 ∧ zLrn u.2.2.2 u.2.2.1 n rc st cap') := by
  refine zMgv.of (cc := cX8_learn) (nL := 3) (by decide) rfl (Nat.le_of_ble_eq_true rfl) (fun Z X hR => ?_)
  show zB G Z (rmX8_learn (cap' - cap) (8 * (cap' - cap))) 3 (zTC r) ad ln 0 0 0 [(0, .ref (ad 12))] [] al
  have gd := h.gd hn0
  have hn := h.1.2.1
  have ge : cap ≤ cap' := by rw [← hc]; exact zCpL_ge _ _ _
  have len0 : ∀ x y, x < n → y < n → (zWx (st 8) rc st n x ++ zWy (st 8) rc st x y).length + 2 ≤ 4608 := by
    intro x y hx hy
    have h8 := gd.2.2.2.2 8 (by omega)
    have l1 := (zWx_ok (R := st 8) (n := n) (rc := rc) (st := st) h8.2 gd.2.2.2.1 gd.2.2.1 x (by omega)).2
    have l2 := (zWy_ok (R := st 8) (n := n) (rc := rc) (st := st) h8.2 gd.2.2.2.1 gd.2.2.1 hx y (by omega)).2
    rw [List.length_append]
    have m1 : 2 * n * (x + 1) ≤ 2 * n * n := Nat.mul_le_mul_left _ (by omega)
    have m2 : 2 * n * n ≤ 2 * 48 * 48 := Nat.mul_le_mul (by omega) (by omega)
    rw [Nat.mul_add, Nat.mul_one] at m1
    omega
  -- after the pairs
  have endd : ∀ (ad1 ln1 : Nat → Nat) (a1 : Nat → Nat → Int32), zGr ad ln ad1 ln1 → zFr [12, 13, 14, 15, 16] al a1 → zWc a1 ln1 cap' (zWL n rc st) → ∀ (hkc : cap' - cap ≤ cap' - cap) (hks : 8 * (cap' - cap) ≤ 8 * (cap' - cap)), vcX8_learn_7 G r ad1 ln1 (cap' - cap) (8 * (cap' - cap)) (cap' - cap) (8 * (cap' - cap)) hkc hks (BX8_learn_7 G Z r ad1 ln1 (cap' - cap) (8 * (cap' - cap)) (cap' - cap) (8 * (cap' - cap)) hkc hks) (BX8_learn_20 G Z r ad1 ln1 (cap' - cap) (8 * (cap' - cap)) (cap' - cap) (8 * (cap' - cap)) hkc hks) (BX8_learn_34 G Z r ad1 ln1 (cap' - cap) (8 * (cap' - cap)) (cap' - cap) (8 * (cap' - cap)) hkc hks) (fun a => zTC r = zTC r ∧ zGr ad ln ad1 ln1 ∧ zFr [12, 13, 14, 15, 16, 17] al a ∧ zLrn a ln1 n rc st cap') (nI n) a1 := by
    intro ad1 ln1 a1 hg hf hw1 hkc hks
    have h1 : zCl a1 n rc st := h.fr hf (by decide)
    unfold vcX8_learn_7
    rw [h1.1.1]
    refine ⟨fun _ => ?_, fun z => absurd (Int32.le_refl _) z⟩
    have kd : ∀ x, x < n → a1 (29 + 3 * x) 0 = nI (rKd (rc x)) ∧ rKd (rc x) < 4 := fun x hx => by
      obtain ⟨⟨p, hp⟩, ok⟩ := h1.1.2.2 x hx
      obtain ⟨k1, k2⟩ := rKd_ok ok
      exact ⟨by rw [hp.1]; exact k2, k1⟩
    refine (c_findLeastByUnits G r ad1 ln1 a1 (kd := fun x => rKd (rc x)) (st := st) h1.1.1 hn kd h1.2.1).mono (fun q2 a2 hq => ?_)
    obtain ⟨rfl, e2⟩ := hq
    obtain rfl := e2.symm
    generalize hb : up2 a1 12 8 (nI (zLu (fun x => rKd (rc x)) st n 4)) = b1
    have fb : zFr [12] a1 b1 := by rw [← hb]; exact zFr.rf.up (by decide) _ _
    have hw2 : zWc b1 ln1 cap' (zWL n rc st) := by
      obtain ⟨w1, w2, w3, w4, w5⟩ := hw1
      refine ⟨?_, w2, w3, w4, ?_⟩
      · rw [← hb, up2_ne _ _ (by decide)]
        exact w1
      · rw [fb 13 (by decide), fb 14 (by decide), fb 15 (by decide), fb 16 (by decide)]
        exact w5
    have h41 : b1 4 1 = nI n := by rw [fb 4 (by decide)]; exact h1.1.1
    refine (c_findLeastByCircles G r ad1 ln1 b1 (hw2.wt gd (zWL_63 gd)) hn0 h41 (zFe_WL gd)).mono (fun q3 a3 hq => ?_)
    obtain ⟨f3, c, rfl, hcc⟩ := hq
    have ec := zCi_eq hcc
    refine ⟨rfl, hg, ?_, ?_, ?_, up2_self _ _ _ _ |>.trans (by rw [ec])⟩
    · exact ((((hf.mono (by decide)).tr (fb.mono (by decide))).tr (f3.mono (by decide))).up (by decide) _ _)
    · obtain ⟨w1, w2, w3, w4, w5⟩ := hw2
      refine ⟨?_, w2, w3, w4, ?_⟩
      · rw [up2_ne _ _ (by decide), f3 12 (by decide)]
        exact w1
      · rw [up2_name _ _ _ (by decide), up2_name _ _ _ (by decide), up2_name _ _ _ (by decide), up2_name _ _ _ (by decide), f3 13 (by decide), f3 14 (by decide), f3 15 (by decide), f3 16 (by decide)]
        exact w5
    · rw [up2_ne _ _ (by decide), f3 12 (by decide), ← hb, up2_self]
  have outer : ∀ (g x : Nat) (ad1 ln1 : Nat → Nat) (a1 : Nat → Nat → Int32) (cap1 : Nat), x + g = n → zGr ad ln ad1 ln1 → zFr [12, 13, 14, 15, 16] al a1 → zWc a1 ln1 cap1 (zWx (st 8) rc st n x) → cap1 = zCpL cap 0 (zWx (st 8) rc st n x).length → zB G Z (rmX8_learn (cap' - cap) (8 * (cap' - cap))) 3 (zTC r) ad1 ln1 (cap1 - cap) (8 * (cap1 - cap)) 7 [(0, .ref (ad1 12)), (1, .int (nI x))] [] a1 := by
    intro g
    induction g with
    | zero =>
      intro x ad1 ln1 a1 cap1 hx hg hf hw1 hc1
      have : x = n := by omega
      subst this
      have ec : cap1 = cap' := by rw [hc1]; exact hc
      subst ec
      exact uX8_learn_7 X (cap1 - cap) (8 * (cap1 - cap)) (cap1 - cap) (8 * (cap1 - cap)) (Nat.le_refl _) (Nat.le_refl _) (hR (zTC r) ad1 ln1) _ a1 (endd ad1 ln1 a1 hg hf hw1 _ _)
    | succ g ih =>
      intro x ad1 ln1 a1 cap1 hx hg hf hw1 hc1
      have hxn : x < n := by omega
      have inner : ∀ (g' y : Nat) (ad2 ln2 : Nat → Nat) (a2 : Nat → Nat → Int32) (cap2 : Nat), y + g' = n → zGr ad ln ad2 ln2 → zFr [12, 13, 14, 15, 16] al a2 → zWc a2 ln2 cap2 (zWx (st 8) rc st n x ++ zWy (st 8) rc st x y) → cap2 = zCpL cap 0 (zWx (st 8) rc st n x ++ zWy (st 8) rc st x y).length → zB G Z (rmX8_learn (cap' - cap) (8 * (cap' - cap))) 3 (zTC r) ad2 ln2 (cap2 - cap) (8 * (cap2 - cap)) 20 [(0, .ref (ad2 12)), (1, .int (nI x)), (2, .int (nI y))] [] a2 := by
        intro g'
        induction g' with
        | zero =>
          intro y ad2 ln2 a2 cap2 hy hg2 hf2 hw2 hc2
          have : y = n := by omega
          subst this
          have le : cap2 ≤ cap' := by rw [hc2, ← hc]; exact zCpL_mono cap (zW_pre hxn (Nat.le_refl _))
          refine uX8_learn_20 X (cap' - cap) (8 * (cap' - cap)) (cap2 - cap) (8 * (cap2 - cap)) (by omega) (by omega) (hR (zTC r) ad2 ln2) _ _ a2 ?_
          unfold vcX8_learn_20
          have h2 : zCl a2 y rc st := h.fr hf2 (by decide)
          rw [h2.1.1, nI_1]
          exact ⟨fun _ => ih (x + 1) ad2 ln2 a2 cap2 (by omega) hg2 hf2 hw2 hc2, fun z => absurd (Int32.le_refl _) z⟩
        | succ g' ih' =>
          intro y ad2 ln2 a2 cap2 hy hg2 hf2 hw2 hc2
          have hyn : y < n := by omega
          have le : cap2 ≤ cap' := by rw [hc2, ← hc]; exact zCpL_mono cap (zW_pre hxn (by omega))
          have ge2 : cap ≤ cap2 := by rw [hc2]; exact zCpL_ge _ _ _
          refine uX8_learn_20 X (cap' - cap) (8 * (cap' - cap)) (cap2 - cap) (8 * (cap2 - cap)) (by omega) (by omega) (hR (zTC r) ad2 ln2) _ _ a2 ?_
          unfold vcX8_learn_20
          have h2 : zCl a2 n rc st := h.fr hf2 (by decide)
          rw [h2.1.1, nI_leI (by omega) (by omega)]
          refine ⟨fun z => absurd z (by omega), fun _ => ?_⟩
          -- the pair
          have e3 : zCpL cap2 (zWx (st 8) rc st n x ++ zWy (st 8) rc st x y).length (zPair (st 8) rc st x y).length = zCpL cap 0 (zWx (st 8) rc st n x ++ zWy (st 8) rc st x (y + 1)).length := by
            have e4 : (zWx (st 8) rc st n x ++ zWy (st 8) rc st x (y + 1)).length = (zWx (st 8) rc st n x ++ zWy (st 8) rc st x y).length + (zPair (st 8) rc st x y).length := by
              show (zWx (st 8) rc st n x ++ (zWy (st 8) rc st x y ++ zPair (st 8) rc st x y)).length = _
              rw [← List.append_assoc, List.length_append]
            rw [e4, zCpL_add, Nat.zero_add, ← hc2]
          have le3 : zCpL cap 0 (zWx (st 8) rc st n x ++ zWy (st 8) rc st x (y + 1)).length ≤ cap' := by rw [← hc]; exact zCpL_mono cap (zW_pre hxn (by omega))
          have ge3 : cap2 ≤ zCpL cap 0 (zWx (st 8) rc st n x ++ zWy (st 8) rc st x (y + 1)).length := by rw [← e3]; exact zCpL_ge _ _ _
          generalize hcap3 : zCpL cap 0 (zWx (st 8) rc st n x ++ zWy (st 8) rc st x (y + 1)).length = cap3 at e3 le3 ge3
          refine zb_callVgv (n := 2) X 12 (zTC_lt (by decide)) 8 [6, 4, 0, 15, 16, 17, 18, 19, 0, 0] rfl (C := RX8) (Tt := TX8) (N := 10) rfl (c_addPair G r ad2 ln2 a2 h2 hw2 hxn hyn (len0 x y hxn hyn) e3) gX8_learn_X8_addPair rfl (by decide +kernel) ⟨⟨Nat.le_of_ble_eq_true rfl, Nat.le_of_ble_eq_true rfl⟩, ?_, ?_⟩ rfl rfl (Nat.le_of_ble_eq_true rfl) dX8_learn_34 (kc' := cap3 - cap) (ks' := 8 * (cap3 - cap)) ?_ ?_ (fun u hu => ?_)
          · show cap2 - cap + (cap3 - cap2) ≤ cap' - cap
            omega
          · show 8 * (cap2 - cap) + 8 * (cap3 - cap2) ≤ 8 * (cap' - cap)
            omega
          · show cap2 - cap + (cap3 - cap2) = cap3 - cap
            omega
          · show 8 * (cap2 - cap) + 8 * (cap3 - cap2) = 8 * (cap3 - cap)
            omega
          · obtain ⟨T', ad', ln', a'⟩ := u
            obtain ⟨rfl, u2, u3, u4, u5⟩ := hu
            have e12 : ad' 12 = ad2 12 := (u2 12 (by decide)).1
            rw [← e12]
            refine zb_iinc X (lv' := [(2, .int (nI (y + 1))), (0, .ref (ad' 12)), (1, .int (nI x))]) (nI (y + 1)) dX8_learn_37 2 rfl (nI_1 (a := y)) (by decide) rfl ?_
            refine zb_goto X 20 dX8_learn_40 (by decide) ?_
            refine zb_sub [1, 2, 0] rfl ?_
            refine ih' (y + 1) ad' ln' a' cap3 (by omega) (hg2.tr u2) (hf2.tr u3) ?_ hcap3.symm
            have u5' : zWc a' ln' cap3 ((zWx (st 8) rc st n x ++ zWy (st 8) rc st x y) ++ zPair (st 8) rc st x y) := u5
            rw [List.append_assoc] at u5'
            exact u5'
      have le : cap1 ≤ cap' := by
        rw [hc1, ← hc]
        refine zCpL_mono cap ?_
        have := zWx_le (R := st 8) (rc := rc) (st := st) (n := n) x (n - x)
        rw [show x + (n - x) = n by omega] at this
        exact this
      refine uX8_learn_7 X (cap' - cap) (8 * (cap' - cap)) (cap1 - cap) (8 * (cap1 - cap)) (by omega) (by omega) (hR (zTC r) ad1 ln1) _ a1 ?_
      unfold vcX8_learn_7
      have h1 : zCl a1 n rc st := h.fr hf (by decide)
      rw [h1.1.1, nI_leI (by omega) (by omega)]
      refine ⟨fun z => absurd z (by omega), fun _ => ?_⟩
      have e0 : zWx (st 8) rc st n x ++ zWy (st 8) rc st x 0 = zWx (st 8) rc st n x := List.append_nil _
      exact inner n 0 ad1 ln1 a1 cap1 (by omega) hg hf (by rw [e0]; exact hw1) (by rw [e0]; exact hc1)
  refine uX8_learn_0 X (cap' - cap) (8 * (cap' - cap)) 0 0 (by omega) (by omega) (hR (zTC r) ad ln) al ?_
  unfold vcX8_learn_0
  have := outer n 0 ad ln (up2 al 12 2 0) cap (by omega) zGr.rf (zFr.rf.up (by decide) _ _) ?_ rfl
  · rw [Nat.sub_self, Nat.mul_zero] at this
    exact this
  · obtain ⟨w1, w2, w3, w4, w5⟩ := hw
    exact ⟨up2_self _ _ _ _, Nat.zero_le _, w3, w4, fun i e hi => by have : ([] : List zWe)[i]? = some e := hi; simp at this⟩
end LRN
