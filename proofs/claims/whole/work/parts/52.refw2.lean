-- needs: 51
section REFW2
variable (G : zG) (ad ln : Nat → Nat) (al : Nat → Nat → Int32) {n : Nat} {rc : Nat → zRec} {st : Nat → Nat}
theorem r_findWaits (h : zRr al n rc) (hs : zRst al st) : zMv G yX11_findWaits wsX11_findWaits rmX11_findWaits zTR ad ln [.ref (ad 0)] al (fun a => zFr [0, 12, 13, 14, 15] al a ∧ (∀ j, j ≠ 28 → a 0 j = al 0 j) ∧ zWr a (zWx (st 8) rc st n n)) := by
  refine zMv.of (cc := cX11_findWaits) (nL := 4) (by decide) rfl (Nat.le_of_ble_eq_true rfl) (fun Z X hR => ?_)
  have hn := h.2.1
  have hR8 := hs.2.2 8 (by omega)
  have hst : ∀ j, j < 4 → 1 ≤ st j ∧ st j ≤ 20 := fun j hj => (hs.1 j hj).2
  have hok : ∀ x, x < n → zRecOk (rc x) := fun x hx => (h.2.2 x hx).2
  have hfr : ∀ a, zFr [0, 12, 13, 14, 15] al a → (∀ j, j ≠ 28 → a 0 j = al 0 j) → zRr a n rc ∧ zRst a st := by
    intro a f j
    refine ⟨h.fr f (j 9 (by decide)) (by intro k hk; simp at hk; omega), hs.fr (f 11 (by decide)) (fun i _ _ => j i (by omega))⟩
  have outer : ∀ (f x : Nat) (a : Nat → Nat → Int32), x + f = n → zFr [0, 12, 13, 14, 15] al a → (∀ j, j ≠ 28 → a 0 j = al 0 j) → zWr a (zWx (st 8) rc st n x) → BX11_findWaits_7 G Z ad ln (nI x) a := by
    intro f
    induction f with
    | zero =>
      intro x a hx hf hj hw
      refine uX11_findWaits_7 X hR _ a ?_
      unfold vcX11_findWaits_7
      have : x = n := by omega
      subst this
      rw [hj 9 (by decide), h.1]
      exact ⟨fun _ => ⟨hf, hj, hw⟩, fun z => absurd (Int32.le_refl _) z⟩
    | succ f ih =>
      intro x a hx hf hj hw
      refine uX11_findWaits_7 X hR _ a ?_
      unfold vcX11_findWaits_7
      rw [hj 9 (by decide), h.1]
      refine ⟨fun z => absurd z (by rw [nI_leI (by omega) (by omega)]; omega), fun _ => ?_⟩
      have hxn : x < n := by omega
      obtain ⟨wx1, wx2⟩ := zWx_ok (R := st 8) (n := n) hR8.2 hst hok x (by omega)
      have inner : ∀ (g y : Nat) (a : Nat → Nat → Int32), y + g = n → zFr [0, 12, 13, 14, 15] al a → (∀ j, j ≠ 28 → a 0 j = al 0 j) → zWr a (zWx (st 8) rc st n x ++ zWy (st 8) rc st x y) → BX11_findWaits_17 G Z ad ln (nI x) (nI y) a := by
        intro g
        induction g with
        | zero =>
          intro y a hy hf hj hw
          refine uX11_findWaits_17 X hR _ _ a ?_
          unfold vcX11_findWaits_17
          have : y = n := by omega
          subst this
          rw [hj 9 (by decide), h.1, nI_1]
          exact ⟨fun _ => ih (x + 1) a (by omega) hf hj hw, fun z => absurd (Int32.le_refl _) z⟩
        | succ g ih2 =>
          intro y a hy hf hj hw
          have hyn : y < n := by omega
          obtain ⟨wy1, wy2⟩ := zWy_ok (R := st 8) (n := n) hR8.2 hst hok hxn y (by omega)
          generalize hW : zWx (st 8) rc st n x ++ zWy (st 8) rc st x y = W at hw
          have hlen : W.length ≤ 4606 := by
            rw [← hW, List.length_append]
            have : 2 * n * x ≤ 96 * 47 := Nat.mul_le_mul (by omega) (by omega)
            omega
          have hmem : ∀ e ∈ W, zWeOk n e ∧ (e.1 < x ∨ e.2.1 < y) := by
            intro e he
            rw [← hW] at he
            rcases List.mem_append.mp he with he | he
            · exact ⟨(wx1 e he).1, Or.inl (wx1 e he).2⟩
            · exact ⟨(wy1 e he).1, Or.inr (wy1 e he).2.2⟩
          have hlast : ∀ e, W[W.length - 1]? = some e → ¬ (e.1 = x ∧ e.2.1 = y) := by
            intro e he
            have := (hmem e (List.mem_of_getElem? he)).2
            omega
          have hmem' : ∀ e ∈ W, e.1 < 48 ∧ e.2.1 < 48 ∧ e.2.2.1 ≤ 64 ∧ e.2.2.2 ≤ 20 := by
            intro e he
            obtain ⟨⟨q1, q2, q3, q4, -⟩, -⟩ := hmem e he
            omega
          have nx : ∀ a2 L, zFr [0, 12, 13, 14, 15] al a2 → (∀ j, j ≠ 28 → a2 0 j = al 0 j) → zWr a2 (W ++ L) → L = zPair (st 8) rc st x y → vcX11_findWaits_167 G ad ln (BX11_findWaits_7 G Z ad ln) (BX11_findWaits_17 G Z ad ln) (fun a => zFr [0, 12, 13, 14, 15] al a ∧ (∀ j, j ≠ 28 → a 0 j = al 0 j) ∧ zWr a (zWx (st 8) rc st n n)) (nI x) (nI y) a2 := by
            intro a2 L f2 j2 w2 e
            unfold vcX11_findWaits_167
            rw [nI_1]
            refine ih2 (y + 1) a2 (by omega) f2 j2 ?_
            show zWr a2 (zWx (st 8) rc st n x ++ (zWy (st 8) rc st x y ++ zPair (st 8) rc st x y))
            rw [← List.append_assoc, hW, ← e]
            exact w2
          -- behind the use
          have tail : ∀ a2 L, zFr [0, 12, 13, 14, 15] al a2 → (∀ j, j ≠ 28 → a2 0 j = al 0 j) → zWr a2 (W ++ L) → L = (if zUsX rc x y = true then [(x, y, zUon x y, zTm rc st x)] else []) → vcX11_findWaits_65 G ad ln (BX11_findWaits_7 G Z ad ln) (BX11_findWaits_17 G Z ad ln) (fun a => zFr [0, 12, 13, 14, 15] al a ∧ (∀ j, j ≠ 28 → a 0 j = al 0 j) ∧ zWr a (zWx (st 8) rc st n n)) (nI x) (nI y) a2 := by
            intro a2 L f2 j2 w2 eL
            obtain ⟨h2, hs2⟩ := hfr a2 f2 j2
            obtain ⟨rx, okx⟩ := h2.2.2 x hxn
            obtain ⟨ry, oky⟩ := h2.2.2 y hyn
            obtain ⟨x1, x2, x3⟩ := zOpc_k okx
            obtain ⟨y1, y2, y3⟩ := zOpc_k oky
            have v1 : vp_in (nI x) 49 := vp_in_nI (by omega) (by omega)
            have v2 : vp_in (nI y) 49 := vp_in_nI (by omega) (by omega)
            have hu1 : zUon x y ≤ 1 := by unfold zUon; split <;> omega
            have none : ¬ (¬ (rc x).2.2.2.1 < 0 ∧ (rc x).2.2.2.1 = (rc y).2.2.2.1 ∧ ((rc x).1 = 3 ∨ (rc y).1 = 3)) → L = zPair (st 8) rc st x y := by
              intro hno
              have hp : zPo (st 8) rc x y = -1 := by unfold zPo; rw [if_neg hno]
              unfold zPair
              rw [if_neg (fun z => by omega), if_neg (show ¬ 0 ≤ zPo (st 8) rc x y by omega), List.append_nil]
              exact eL
            have some' : (¬ (rc x).2.2.2.1 < 0 ∧ (rc x).2.2.2.1 = (rc y).2.2.2.1 ∧ ((rc x).1 = 3 ∨ (rc y).1 = 3)) → vcX11_findWaits_114 G ad ln (BX11_findWaits_7 G Z ad ln) (BX11_findWaits_17 G Z ad ln) (fun a => zFr [0, 12, 13, 14, 15] al a ∧ (∀ j, j ≠ 28 → a 0 j = al 0 j) ∧ zWr a (zWx (st 8) rc st n n)) (nI x) (nI y) a2 := by
              intro hyes
              have hp : zPo (st 8) rc x y = zOv (st 8) (rSt (rc x)) (rSh (rc x)) (rSt (rc y)) (rSh (rc y)) (zUon x y) := by unfold zPo; rw [if_pos hyes]
              have kx : (rc x).1 = 2 ∨ (rc x).1 = 3 := by
                rcases okx.1 with e | e | e | e
                · exact absurd (by rw [okx.2.2.2.2.1 (Or.inl e)]; decide) hyes.1
                · exact absurd (by rw [okx.2.2.2.2.1 (Or.inr e)]; decide) hyes.1
                · exact Or.inl e
                · exact Or.inr e
              have ky : (rc y).1 = 2 ∨ (rc y).1 = 3 := by
                have hy0 : ¬ (rc y).2.2.2.1 < 0 := by rw [← hyes.2.1]; exact hyes.1
                rcases oky.1 with e | e | e | e
                · exact absurd (by rw [oky.2.2.2.2.1 (Or.inl e)]; decide) hy0
                · exact absurd (by rw [oky.2.2.2.2.1 (Or.inr e)]; decide) hy0
                · exact Or.inl e
                · exact Or.inr e
              have hpr := zPo_rng (R := st 8) (rc := rc) x y
              unfold vcX11_findWaits_114
              refine (r_sameOver G ad ln a2 h2 hs2 hxn hyn kx ky).mono (fun q a3 hq => ?_)
              obtain ⟨rfl, e3⟩ := hq
              obtain rfl := e3.symm
              rw [← hp, zI_0, zI_lt ⟨by omega, by omega⟩ ⟨by omega, by omega⟩, nI_clamp (by omega), nI_clamp (by omega), rx.1, ry.1, x3, y3]
              -- the place's wait
              have wt : 0 ≤ zPo (st 8) rc x y → ∀ t : Nat, t = zPd rc st x y → vcX11_findWaits_164 G ad ln (BX11_findWaits_7 G Z ad ln) (BX11_findWaits_17 G Z ad ln) (fun a => zFr [0, 12, 13, 14, 15] al a ∧ (∀ j, j ≠ 28 → a 0 j = al 0 j) ∧ zWr a (zWx (st 8) rc st n n)) (nI x) (nI y) (nI t) (zI (zPo (st 8) rc x y)) (nI y) (nI x) a2 := by
                intro h0 t ht
                have htl := hst (rKd (rc x)) (rKd_ok okx).1
                have htl2 : zTm rc st x ≤ 20 := htl.2
                have ht2 : t ≤ 20 := by
                  rw [ht]
                  unfold zPd
                  split
                  · split <;> omega
                  · omega
                unfold vcX11_findWaits_164
                have e1 : zI (zPo (st 8) rc x y) = nI (zPo (st 8) rc x y).toNat := by rw [zI_n]; congr 1; omega
                rw [e1]
                have hLl : L = [] ∨ ∃ d0 t0, L = [(x, y, d0, t0)] := by
                  rw [eL]
                  split
                  · exact Or.inr ⟨_, _, rfl⟩
                  · exact Or.inl rfl
                have hLm : ∀ e ∈ W ++ L, e.1 < 48 ∧ e.2.1 < 48 ∧ e.2.2.1 ≤ 64 ∧ e.2.2.2 ≤ 20 := by
                  intro e he
                  rcases List.mem_append.mp he with he | he
                  · exact hmem' e he
                  · rw [eL] at he
                    split at he
                    · rw [List.mem_singleton] at he
                      subst he
                      exact ⟨by show x < 48; omega, by show y < 48; omega, by show zUon x y ≤ 64; omega, htl2⟩
                    · cases he
                refine (r_wait G ad ln a2 w2 (by rw [List.length_append]; rcases hLl with e | ⟨d0, t0, e⟩ <;> rw [e] <;> simp <;> omega) (x := x) (y := y) (d := (zPo (st 8) rc x y).toNat) (t := t) (by omega) (by omega) (by omega) ht2 hlast hLm hLl).mono (fun a4 hq => ?_)
                obtain ⟨f4, j4, w4⟩ := hq
                refine nx a4 _ (f2.tr f4) (fun j hj => (j4 j hj).trans (j2 j hj)) w4 ?_
                unfold zPair
                rw [eL, ht]
                by_cases qu : zUsX rc x y = true
                · rw [if_pos qu]
                  unfold zMg
                  by_cases qe : zPo (st 8) rc x y = (zUon x y : Int)
                  · rw [if_pos ⟨qu, qe⟩]
                    simp only
                    rw [if_pos (by omega), show (zPo (st 8) rc x y).toNat = zUon x y by omega]
                  · rw [if_neg (fun z => qe z.2)]
                    simp only
                    rw [if_neg (by omega), if_pos h0]
                    rfl
                · rw [if_neg qu, if_neg (fun z => qu z.1), if_pos h0]
                  rfl
              refine ⟨fun q => nx a2 L f2 j2 w2 ?_, fun q => ⟨v1, fun q3 => wt (by omega) 0 ?_, fun q3 => ⟨v2, fun q4 => ?_, fun q4 => wt (by omega) 1 ?_⟩⟩⟩
              · unfold zPair
                rw [if_neg (fun z => by omega), if_neg (show ¬ 0 ≤ zPo (st 8) rc x y by omega), List.append_nil]
                exact eL
              · unfold zPd
                rw [if_neg q3]
              · refine (r_time G ad ln a2 h2 hs2 hxn).mono (fun q5 a5 hq => ?_)
                obtain ⟨rfl, e5⟩ := hq
                obtain rfl := e5.symm
                refine wt (by omega) _ ?_
                unfold zPd
                rw [if_pos q3, if_neg q4]
              · unfold zPd
                rw [if_pos q3, if_pos q4]
            unfold vcX11_findWaits_65
            rw [nI_clamp (by omega), nI_clamp (by omega), rx.1, ry.1, rx.2.2.1, ry.2.2.1, x2, y2]
            refine ⟨v1, fun q => nx a2 L f2 j2 w2 (none (fun z => z.1 q)), fun q => ⟨v1, v2, fun q2 => nx a2 L f2 j2 w2 (none (fun z => q2 z.2.1)), fun q2 => ⟨v1, fun q3 => some' ⟨q, q2, ?_⟩, fun q3 => ⟨v2, fun q4 => some' ⟨q, q2, ?_⟩, fun q4 => nx a2 L f2 j2 w2 (none (fun z => ?_))⟩⟩⟩⟩
            · rcases okx.1 with e | e | e | e
              · exact absurd (by rw [okx.2.2.2.2.1 (Or.inl e)]; decide) q
              · exact absurd (by rw [okx.2.2.2.2.1 (Or.inr e)]; decide) q
              · exact absurd e q3
              · exact Or.inl e
            · have hy0 : ¬ (rc y).2.2.2.1 < 0 := by rw [← q2]; exact q
              rcases oky.1 with e | e | e | e
              · exact absurd (by rw [oky.2.2.2.2.1 (Or.inl e)]; decide) hy0
              · exact absurd (by rw [oky.2.2.2.2.1 (Or.inr e)]; decide) hy0
              · exact absurd e q4
              · exact Or.inr e
            · rcases z.2.2 with z | z
              · rw [q3] at z
                exact absurd z (by decide)
              · rw [q4] at z
                exact absurd z (by decide)
          refine uX11_findWaits_17 X hR _ _ a ?_
          unfold vcX11_findWaits_17
          obtain ⟨h1, hs1⟩ := hfr a hf hj
          obtain ⟨rx, okx⟩ := h1.2.2 x hxn
          have v1 : vp_in (nI x) 49 := vp_in_nI (by omega) (by omega)
          rw [hj 9 (by decide), h.1, nI_clamp (by omega), rx.2.1]
          refine ⟨fun z => absurd z (by rw [nI_leI (by omega) (by omega)]; omega), fun _ => ⟨v1, fun q => tail a [] hf hj (by rw [List.append_nil]; exact hw) ?_, fun q => ⟨v1, ?_⟩⟩⟩
          · rw [if_neg]
            unfold zUsX
            rw [decide_eq_false (Int32.not_le.mpr q)]
            simp
          · have qd : decide (0 ≤ (rc x).2.2.1) = true := decide_eq_true (Int32.not_lt.mp q)
            refine (r_uses G ad ln a h1 hyn _).mono (fun q3 a3 hq => ?_)
            obtain ⟨rfl, e3⟩ := hq
            obtain rfl := e3.symm
            refine ⟨fun q4 => tail a [] hf hj (by rw [List.append_nil]; exact hw) ?_, fun q4 => ?_⟩
            · rw [zb_0] at q4
              rw [if_neg]
              unfold zUsX
              rw [q4]
              simp
            · have qu : zUsX rc x y = true := by
                unfold zUsX
                cases hz : zUsR rc (rc x).2.2.1 y
                · rw [hz] at q4
                  exact absurd rfl q4
                · rw [qd]
                  rfl
              refine (r_useOver G ad ln a (x := x) (y := y) (by omega) (by omega)).mono (fun q5 a5 hq => ?_)
              obtain ⟨rfl, e3⟩ := hq
              obtain rfl := e3.symm
              refine (r_time G ad ln a h1 hs1 hxn).mono (fun q6 a6 hq => ?_)
              obtain ⟨rfl, e3⟩ := hq
              obtain rfl := e3.symm
              have hu1 : zUon x y ≤ 1 := by unfold zUon; split <;> omega
              have htl : zTm rc st x ≤ 20 := (hst (rKd (rc x)) (rKd_ok okx).1).2
              refine (r_wait G ad ln a (W := W) (L := []) (by rw [List.append_nil]; exact hw) (by rw [List.append_nil]; omega) (x := x) (y := y) (d := zUon x y) (t := zTm rc st x) (by omega) (by omega) (by omega) htl hlast (by rw [List.append_nil]; exact hmem') (Or.inl rfl)).mono (fun a7 hq => ?_)
              obtain ⟨f7, j7, w7⟩ := hq
              refine tail a7 _ (hf.tr f7) (fun j hj' => (j7 j hj').trans (hj j hj')) w7 ?_
              rw [if_pos qu]
              rfl
      refine inner n 0 a (by omega) hf hj ?_
      show zWr a (zWx (st 8) rc st n x ++ [])
      rw [List.append_nil]
      exact hw
  refine uX11_findWaits_0 X hR al ?_
  unfold vcX11_findWaits_0
  refine outer n 0 _ (by omega) (zFr.rf.up (by decide) _ _) (fun j hj => up2_ne _ _ (fun z => hj z.2)) ⟨up2_self _ _ _ _, fun i e hi => ?_⟩
  have hi' : ([] : List zWe)[i]? = some e := hi
  simp at hi'
theorem r_isIn (h : zRr al n rc) {x g : Nat} (hx : x < n) (hg : g < 4) : zMi G yX11_isIn wsX11_isIn rmX11_isIn zTR ad ln [.ref (ad 0), .int (nI x), .int (nI g)] al (fun q a => q = zb (zGrp (rKd (rc x)) g) ∧ a = al) := by
  refine zMi.of (cc := cX11_isIn) (nL := 3) (rt := .boolean) (by decide) rfl (Nat.le_of_ble_eq_true rfl) (fun Z X hR => ?_)
  refine tX11_isIn_0 X _ _ hR al ?_
  have hk := (rKd_ok (h.2.2 x hx).2).1
  have rk := r_kind G ad ln al h hx
  unfold vcX11_isIn_0 vcX11_isIn_18 vcX11_isIn_32 vcX11_isIn_46 vcX11_isIn_50 vcX11_isIn_51
  generalize rKd (rc x) = k at hk rk
  rcases (show g = 0 ∨ g = 1 ∨ g = 2 ∨ g = 3 by omega) with rfl | rfl | rfl | rfl
  · exact ⟨fun _ => ⟨rfl, rfl, rfl⟩, fun z => absurd rfl z⟩
  · refine ⟨fun z => absurd z (by decide), fun _ => ⟨fun z => absurd rfl z, fun _ => rk.mono (fun q a hq => ?_)⟩⟩
    obtain ⟨rfl, e⟩ := hq
    obtain rfl := e.symm
    rw [show (2 : Int32) = nI 2 from rfl, nI_ltI (by omega) (by omega)]
    refine ⟨fun q => ⟨rfl, ?_, rfl⟩, fun q => ⟨fun _ => ⟨fun _ => ⟨rfl, ?_, rfl⟩, fun z => absurd z (by decide)⟩, fun z => absurd z (by decide)⟩⟩
    · show (1 : Int32) = zb (decide (k < 2))
      rw [decide_eq_true q]
      rfl
    · show (0 : Int32) = zb (decide (k < 2))
      rw [decide_eq_false q]
      rfl
  · refine ⟨fun z => absurd z (by decide), fun _ => ⟨fun _ => ⟨fun z => absurd rfl z, fun _ => rk.mono (fun q a hq => ?_)⟩, fun z => absurd z (by decide)⟩⟩
    obtain ⟨rfl, e⟩ := hq
    obtain rfl := e.symm
    rw [show (2 : Int32) = nI 2 from rfl, nI_leI (by omega) (by omega)]
    refine ⟨fun q => ⟨rfl, ?_, rfl⟩, fun q => ⟨fun _ => ⟨rfl, ?_, rfl⟩, fun z => absurd z (by decide)⟩⟩
    · show (1 : Int32) = zb (decide (k = 2 ∨ k = 3))
      rw [decide_eq_true (by omega)]
      rfl
    · show (0 : Int32) = zb (decide (k = 2 ∨ k = 3))
      rw [decide_eq_false (by omega)]
      rfl
  · refine ⟨fun z => absurd z (by decide), fun _ => ⟨fun _ => ⟨fun _ => ⟨fun z => absurd rfl z, fun _ => rk.mono (fun q a hq => ?_)⟩, fun z => absurd z (by decide)⟩, fun z => absurd z (by decide)⟩⟩
    obtain ⟨rfl, e⟩ := hq
    obtain rfl := e.symm
    rw [show (1 : Int32) = nI 1 from rfl, nI_eq (by omega) (by omega)]
    refine ⟨fun q => ⟨rfl, ?_, rfl⟩, fun q => ⟨rfl, ?_, rfl⟩⟩
    · show (0 : Int32) = zb (decide (k = 1))
      rw [decide_eq_false q]
      rfl
    · show nI 1 = zb (decide (k = 1))
      rw [decide_eq_true q]
      rfl
theorem r_room (hs : zRst al st) {g : Nat} (hg : g < 4) : zMi G yX11_room wsX11_room rmX11_room zTR ad ln [.ref (ad 0), .int (nI g)] al (fun q a => q = nI (sUnits st g) ∧ a = al) := by
  refine zMi.of (cc := cX11_room) (nL := 2) (rt := .int) (by decide) rfl (Nat.le_of_ble_eq_true rfl) (fun Z X hR => ?_)
  refine tX11_room_0 X _ hR al ?_
  obtain ⟨-, ⟨h4, h5, h6, h7, h8⟩, -⟩ := hs
  unfold vcX11_room_0 vcX11_room_39
  rw [h4, h5, h6, h7]
  rcases (show g = 0 ∨ g = 1 ∨ g = 2 ∨ g = 3 by omega) with rfl | rfl | rfl | rfl
  · exact ⟨fun z => absurd rfl z, fun _ => ⟨rfl, rfl⟩⟩
  · exact ⟨fun _ => ⟨fun z => absurd rfl z, fun _ => ⟨rfl, rfl⟩⟩, fun z => absurd z (by decide)⟩
  · exact ⟨fun _ => ⟨fun _ => ⟨fun z => absurd rfl z, fun _ => ⟨rfl, rfl⟩⟩, fun z => absurd z (by decide)⟩, fun z => absurd z (by decide)⟩
  · exact ⟨fun _ => ⟨fun _ => ⟨fun _ => ⟨rfl, rfl⟩, fun z => absurd z (by decide)⟩, fun z => absurd z (by decide)⟩, fun z => absurd z (by decide)⟩
theorem zLu_pos {kd st : Nat → Nat} {n : Nat} (hn : 0 < n) (h7 : 1 ≤ st 7) : 1 ≤ zLu kd st n 1 := by
  have e : zGn kd 0 n = n := by
    have : ∀ m, zGn kd 0 m = m := by
      intro m
      induction m with
      | zero => rfl
      | succ m ih =>
        unfold zGn
        rw [ih]
        rfl
    exact this n
  show 1 ≤ max 0 ((zGn kd 0 n + sUnits st 0 - 1) / sUnits st 0)
  rw [e]
  have hu : sUnits st 0 = st 7 := rfl
  rw [hu]
  have : 1 ≤ (n + st 7 - 1) / st 7 := (Nat.le_div_iff_mul_le (by omega)).mpr (by omega)
  exact Nat.le_trans this (Nat.le_max_right _ _)
theorem r_leastByUnits (h : zRr al n rc) (hn0 : 0 < n) (hs : zRst al st) : zMi G yX11_leastByUnits wsX11_leastByUnits rmX11_leastByUnits zTR ad ln [.ref (ad 0)] al (fun q a => q = nI (zLu (fun x => rKd (rc x)) st n 4) ∧ a = al) := by
  refine zMi.of (cc := cX11_leastByUnits) (nL := 5) (rt := .int) (by decide) rfl (Nat.le_of_ble_eq_true rfl) (fun Z X hR => ?_)
  have hn := h.2.1
  have hub : ∀ g, g < 4 → 1 ≤ sUnits st g ∧ sUnits st g ≤ 64 := fun g hg => hs.2.2 _ (zGS_lt g hg).1
  have small : ∀ g, g < 4 → (zGn (fun x => rKd (rc x)) g n + sUnits st g - 1) / sUnits st g ≤ 48 := by
    intro g hg
    have h2 := hub g hg
    have h5 := zGn_le (fun x => rKd (rc x)) g n
    refine Nat.le_of_lt_succ (Nat.div_lt_of_lt_mul ?_)
    have : 1 * 48 ≤ sUnits st g * 48 := Nat.mul_le_mul_right _ (by omega)
    rw [Nat.mul_succ]
    omega
  have lle : ∀ g, g ≤ 4 → zLu (fun x => rKd (rc x)) st n g ≤ 48 := by
    intro g
    induction g with
    | zero =>
      intro _
      show 0 ≤ 48
      omega
    | succ g ih =>
      intro hg
      unfold zLu
      exact Nat.max_le.mpr ⟨ih (by omega), small g (by omega)⟩
  have p1 := zLu_pos (kd := fun x => rKd (rc x)) (st := st) hn0 (hs.2.2 7 (by omega)).1
  have outer : ∀ (f g : Nat), g + f = 4 → BX11_leastByUnits_4 G Z ad ln (nI (max 1 (zLu (fun x => rKd (rc x)) st n g))) (nI g) al := by
    intro f
    induction f with
    | zero =>
      intro g hg
      refine uX11_leastByUnits_4 X hR _ _ al ?_
      unfold vcX11_leastByUnits_4
      have : g = 4 := by omega
      subst this
      refine ⟨fun _ => ⟨?_, rfl⟩, fun z => absurd (by decide) z⟩
      rw [Nat.max_eq_right]
      have : zLu (fun x => rKd (rc x)) st n 1 ≤ zLu (fun x => rKd (rc x)) st n 4 := by
        show _ ≤ max (max (max (zLu (fun x => rKd (rc x)) st n 1) _) _) _
        exact Nat.le_trans (Nat.le_trans (Nat.le_max_left _ _) (Nat.le_max_left _ _)) (Nat.le_max_left _ _)
      omega
    | succ f ih =>
      intro g hg
      have inner : ∀ (k x : Nat), x + k = n → BX11_leastByUnits_14 G Z ad ln (nI (max 1 (zLu (fun x => rKd (rc x)) st n g))) (nI g) (nI (zGn (fun x => rKd (rc x)) g x)) (nI x) al := by
        intro k
        induction k with
        | zero =>
          intro x hx
          refine uX11_leastByUnits_14 X hR _ _ _ _ al ?_
          unfold vcX11_leastByUnits_14
          have : x = n := by omega
          subst this
          rw [h.1]
          refine ⟨fun _ => ?_, fun z => absurd (Int32.le_refl _) z⟩
          refine (r_room G ad ln al hs (g := g) (by omega)).mono (fun q a hq => ?_)
          obtain ⟨rfl, e⟩ := hq
          obtain rfl := e.symm
          refine (r_room G ad ln al hs (g := g) (by omega)).mono (fun q a hq => ?_)
          obtain ⟨rfl, e⟩ := hq
          obtain rfl := e.symm
          have hu := hub g (by omega)
          have h5 := zGn_le (fun x => rKd (rc x)) g x
          have ed : (nI (zGn (fun x => rKd (rc x)) g x) + nI (sUnits st g) - 1) / nI (sUnits st g) = nI ((zGn (fun x => rKd (rc x)) g x + sUnits st g - 1) / sUnits st g) := by
            rw [zI_n (zGn _ g x), zI_n (sUnits st g), zI_1, zI_add, zI_sub, zI_div ⟨by omega, by omega⟩ ⟨by omega, by omega⟩ (by omega), Int.tdiv_eq_ediv_of_nonneg (by omega), zI_n]
            rw [show (zGn (fun x => rKd (rc x)) g x : Int) + (sUnits st g : Int) - 1 = ((zGn (fun x => rKd (rc x)) g x + sUnits st g - 1 : Nat) : Int) by omega]
            rw [← Int.natCast_ediv]
          rw [ed, nI_1]
          refine ⟨fun z => ?_, ?_⟩
          · rw [show (0 : Int32) = nI 0 from rfl, nI_eq (by omega) (by omega)] at z
            omega
          · have i1 := ih (g + 1) (by omega)
            have g1 := small g (by omega)
            have g2 := lle g (by omega)
            have em : max 1 (zLu (fun x => rKd (rc x)) st x (g + 1)) = if max 1 (zLu (fun x => rKd (rc x)) st x g) < (zGn (fun x => rKd (rc x)) g x + sUnits st g - 1) / sUnits st g then (zGn (fun x => rKd (rc x)) g x + sUnits st g - 1) / sUnits st g else max 1 (zLu (fun x => rKd (rc x)) st x g) := by
              show max 1 (max (zLu (fun x => rKd (rc x)) st x g) ((zGn (fun x => rKd (rc x)) g x + sUnits st g - 1) / sUnits st g)) = _
              split <;> omega
            rw [em] at i1
            have hlt := nI_ltI (a := max 1 (zLu (fun x => rKd (rc x)) st x g)) (b := (zGn (fun x => rKd (rc x)) g x + sUnits st g - 1) / sUnits st g) (by omega) (by omega)
            by_cases q : max 1 (zLu (fun x => rKd (rc x)) st x g) < (zGn (fun x => rKd (rc x)) g x + sUnits st g - 1) / sUnits st g
            · rw [if_pos (hlt.mpr q)]
              rw [if_pos q] at i1
              exact i1
            · rw [if_neg (fun z => q (hlt.mp z))]
              rw [if_neg q] at i1
              exact i1
        | succ k ih2 =>
          intro x hx
          refine uX11_leastByUnits_14 X hR _ _ _ _ al ?_
          unfold vcX11_leastByUnits_14 vcX11_leastByUnits_39
          rw [h.1]
          refine ⟨fun z => absurd z (by rw [nI_leI (by omega) (by omega)]; omega), fun _ => ?_⟩
          refine (r_isIn G ad ln al h (x := x) (g := g) (by omega) (by omega)).mono (fun q a hq => ?_)
          obtain ⟨rfl, e⟩ := hq
          obtain rfl := e.symm
          have i1 := ih2 (x + 1) (by omega)
          unfold zGn at i1
          rw [nI_1, nI_1, Int32.add_zero]
          refine ⟨fun q => ?_, fun q => ?_⟩
          · rw [zb_0] at q
            rw [if_neg (by rw [q]; decide), Nat.add_zero] at i1
            exact i1
          · have q' : zGrp (rKd (rc x)) g = true := by
              cases hz : zGrp (rKd (rc x)) g
              · rw [hz] at q
                exact absurd rfl q
              · rfl
            rw [if_pos q'] at i1
            exact i1
      refine uX11_leastByUnits_4 X hR _ _ al ?_
      unfold vcX11_leastByUnits_4
      exact ⟨fun z => absurd z (by rw [show (4 : Int32) = nI 4 from rfl, nI_leI (by omega) (by omega)]; omega), fun _ => inner n 0 (by omega)⟩
  refine uX11_leastByUnits_0 X hR al ?_
  unfold vcX11_leastByUnits_0
  exact outer 4 0 (by omega)
end REFW2
