-- needs: 53 52
/-! THE REFERENCE: circles and heights -/
def zWf (a : Nat → Nat → Int32) (n m : Nat) (fr to ov dl : Nat → Nat) : Prop := a 0 28 = nI m ∧ m ≤ 4608 ∧ a 0 9 = nI n ∧ n ≤ 48 ∧ ∀ i, i < m → (a 12 i = nI (fr i) ∧ a 13 i = nI (to i) ∧ a 14 i = nI (ov i) ∧ a 15 i = nI (dl i)) ∧ fr i < n ∧ to i < n ∧ ov i ≤ 64 ∧ dl i ≤ 20
theorem zWf.fr {l : List Nat} {a a' : Nat → Nat → Int32} {n m : Nat} {fr to ov dl : Nat → Nat} (h : zWf a n m fr to ov dl) (hf : zFr l a a') (h28 : a' 0 28 = a 0 28) (h9 : a' 0 9 = a 0 9) (hl : 12 ∉ l ∧ 13 ∉ l ∧ 14 ∉ l ∧ 15 ∉ l) : zWf a' n m fr to ov dl := by
  unfold zWf
  rw [h28, h9, hf 12 hl.1, hf 13 hl.2.1, hf 14 hl.2.2.1, hf 15 hl.2.2.2]
  exact h
def fen : Option Int → Int32
  | none => zI (-536870912)
  | some v => zI v
def fEnc (a : Nat → Nat → Int32) (n : Nat) (M : fwL) : Prop := ∀ x y, x < n → y < n → a (29 + x) y = fen (M x y)
def zLG : List Nat := (List.range 48).map (29 + ·)
theorem zLG_in {x : Nat} (h : x < 48) : 29 + x ∈ zLG := List.mem_map.mpr ⟨x, List.mem_range.mpr h, rfl⟩
def fwI (fr to : Nat → Nat) (w : Nat → Int) : Nat → fwL
  | 0 => fun _ _ => none
  | i + 1 => fset (fwI fr to w i) (fr i) (to i) (some (fmx (fwI fr to w i (fr i) (to i)) (w i)))
theorem fwI_or {fr to : Nat → Nat} {w : Nat → Int} : ∀ (i x y : Nat) (v : Int), fwI fr to w i x y = some v → ∃ j, j < i ∧ fr j = x ∧ to j = y ∧ w j = v
  | 0, x, y, v, h => by cases h
  | i + 1, x, y, v, h => by
    unfold fwI at h
    by_cases e : x = fr i ∧ y = to i
    · obtain ⟨rfl, rfl⟩ := e
      rw [fset_self] at h
      injection h with h
      rcases fmx_or (fwI fr to w i (fr i) (to i)) (w i) with q | ⟨d, hd, q, -⟩
      · exact ⟨i, by omega, rfl, rfl, by omega⟩
      · obtain ⟨j, h1, h2, h3, h4⟩ := fwI_or i _ _ d hd
        exact ⟨j, by omega, h2, h3, by omega⟩
    · rw [fset_ne _ _ e] at h
      obtain ⟨j, h1, h2, h3, h4⟩ := fwI_or i x y v h
      exact ⟨j, by omega, h2, h3, h4⟩
theorem fwI_edge {fr to : Nat → Nat} {w : Nat → Int} : ∀ (i j : Nat), j < i → ∃ v, fwI fr to w i (fr j) (to j) = some v ∧ w j ≤ v
  | 0, j, h => absurd h (by omega)
  | i + 1, j, h => by
    unfold fwI
    by_cases e : fr j = fr i ∧ to j = to i
    · rw [e.1, e.2, fset_self]
      refine ⟨_, rfl, ?_⟩
      by_cases q : j = i
      · subst q
        exact (fmx_ge _ _).1
      · obtain ⟨v, h1, h2⟩ := fwI_edge (fr := fr) (to := to) (w := w) i j (by omega)
        rw [e.1, e.2] at h1
        exact Int.le_trans h2 ((fmx_ge _ _).2 v h1)
    · rw [fset_ne _ _ e]
      have q : j ≠ i := fun q => e (by rw [q]; exact ⟨rfl, rfl⟩)
      exact fwI_edge i j (by omega)
theorem zWg_rng {ov dl : Nat → Nat} {D i : Nat} (hD : D ≤ 1000) (ho : ov i ≤ 64) (hd : dl i ≤ 20) : -64000 ≤ zWg ov dl D i ∧ zWg ov dl D i ≤ 20 := by
  unfold zWg
  have h1 : (ov i : Int) * (D : Int) ≤ 64 * 1000 := Int.mul_le_mul (by omega) (by omega) (by omega) (by omega)
  have h2 : 0 ≤ (ov i : Int) * (D : Int) := Int.mul_nonneg (by omega) (by omega)
  omega
section ABOVE
variable (G : zG) (ad ln : Nat → Nat) (al : Nat → Nat → Int32) {n m : Nat} {fr to ov dl : Nat → Nat}
theorem r_isAbove (hw : zWf al n m fr to ov dl) {D : Nat} (hD : D ≤ 1000) : zMi G yX11_isAbove wsX11_isAbove rmX11_isAbove zTR ad ln [.ref (ad 0), .int (nI D)] al (fun q a => zFr zLG al a ∧ ((q = 1 ∧ ¬ zFe m fr to ov dl D) ∨ (q = 0 ∧ zFe m fr to ov dl D))) := by
  refine zMi.of (cc := cX11_isAbove) (nL := 5) (rt := .boolean) (by decide) rfl (Nat.le_of_ble_eq_true rfl) (fun Z X hR => ?_)
  obtain ⟨h28, hm2, h9, hn, hi⟩ := hw
  have f0 : ∀ {a : Nat → Nat → Int32}, zFr zLG al a → a 0 = al 0 := fun hf => hf 0 (by decide)
  have f12 : ∀ {a : Nat → Nat → Int32}, zFr zLG al a → a 12 = al 12 ∧ a 13 = al 13 ∧ a 14 = al 14 ∧ a 15 = al 15 := fun hf => ⟨hf 12 (by decide), hf 13 (by decide), hf 14 (by decide), hf 15 (by decide)⟩
  generalize hww : zWg ov dl D = w
  have hwr : ∀ i, i < m → -64000 ≤ w i ∧ w i ≤ 20 := fun i hi' => by
    rw [← hww]
    exact zWg_rng hD (hi i hi').2.2.2.1 (hi i hi').2.2.2.2
  have hFe : zFe m fr to ov dl D ↔ ∃ f, bfOk m fr to w f := by
    unfold zFe
    rw [hww]
  -- the start
  have I0 : fwInv m fr to w (fwI fr to w m) 0 := by
    refine ⟨fun h ok x y v hv => ?_, fun i hi' => fwI_edge m i hi', fun u hu => absurd hu (by omega), fun x y v hv => ⟨fun _ => false, fun u hu => (by cases hu), ?_, ?_⟩⟩
    · obtain ⟨j, h1, h2, h3, h4⟩ := fwI_or m x y v hv
      have := ok j h1
      rw [h2, h3, h4] at this
      exact this
    · obtain ⟨j, h1, h2, h3, h4⟩ := fwI_or m x y v hv
      have := hwr j h1
      show -64020 * (1 + ((0 : Nat) : Int)) ≤ v
      omega
    · obtain ⟨j, h1, h2, h3, h4⟩ := fwI_or m x y v hv
      have := hwr j h1
      show v ≤ 20 * (1 + ((0 : Nat) : Int))
      omega
  have b0 : ∀ x y, n ≤ x ∨ n ≤ y → fwI fr to w m x y = none := by
    intro x y hxy
    cases hz : fwI fr to w m x y with
    | none => rfl
    | some v =>
      obtain ⟨j, h1, h2, h3, h4⟩ := fwI_or m x y v hz
      have := hi j h1
      omega
  have fenle : ∀ c : Option Int, (∀ v, c = some v → -9600000 ≤ v ∧ v ≤ 9600000) → (fen c ≤ zI (-536870912) ↔ c = none) := by
    intro c hc
    cases c with
    | none => exact ⟨fun _ => rfl, fun _ => Int32.le_refl _⟩
    | some v =>
      have := hc v rfl
      show zI v ≤ _ ↔ _
      rw [zI_le ⟨by omega, by omega⟩ ⟨by omega, by omega⟩]
      exact ⟨fun h => by omega, fun h => by cases h⟩
  have feneq : ∀ c : Option Int, (∀ v, c = some v → -9600000 ≤ v ∧ v ≤ 9600000) → (fen c = zI (-536870912) ↔ c = none) := by
    intro c hc
    cases c with
    | none => exact ⟨fun _ => rfl, fun _ => rfl⟩
    | some v =>
      have := hc v rfl
      show zI v = _ ↔ _
      rw [zI_eq ⟨by omega, by omega⟩ ⟨by omega, by omega⟩]
      exact ⟨fun h => by omega, fun h => by cases h⟩
  have fenmx : ∀ (c : Option Int) (v : Int), (∀ u, c = some u → -9600000 ≤ u ∧ u ≤ 9600000) → (-20000000 ≤ v ∧ v ≤ 20000000) → (if fen c < zI v then zI v else fen c) = fen (some (fmx c v)) := by
    intro c v hc hv
    cases c with
    | none =>
      show (if zI (-536870912) < zI v then zI v else _) = zI v
      rw [if_pos ((zI_lt ⟨by omega, by omega⟩ ⟨by omega, by omega⟩).mpr (by omega))]
    | some u =>
      have := hc u rfl
      have hlt := zI_lt (x := u) (y := v) ⟨by omega, by omega⟩ ⟨by omega, by omega⟩
      show (if zI u < zI v then zI v else zI u) = zI (if u < v then v else u)
      by_cases q : u < v
      · rw [if_pos (hlt.mpr q), if_pos q]
      · rw [if_neg (fun z => q (hlt.mp z)), if_neg q]
  have encup : ∀ (a : Nat → Nat → Int32) (M : fwL) (x y : Nat) (v : Option Int), x < n → y < n → fEnc a n M → fEnc (up2 a (29 + x) y (fen v)) n (fset M x y v) := by
    intro a M x y v hx hy he x' y' hx' hy'
    by_cases e : x' = x ∧ y' = y
    · obtain ⟨rfl, rfl⟩ := e
      rw [up2_self, fset_self]
    · rw [up2_ne _ _ (fun z => e ⟨by omega, z.2⟩), fset_ne _ _ e]
      exact he x' y' hx' hy'
  -- steps
  have phases : ∀ (f p : Nat) (a : Nat → Nat → Int32) (M : fwL), p + f = n → zFr zLG al a → fwM n (fwI fr to w m) p = some M → fEnc a n M → BX11_isAbove_116 G Z ad ln (nI D) (nI p) a := by
    intro f
    induction f with
    | zero =>
      intro p a M hp hf hM he
      refine uX11_isAbove_116 X (nI D) hR _ a ?_
      unfold vcX11_isAbove_116
      have : p = n := by omega
      subst this
      rw [f0 hf, h9]
      refine ⟨fun _ => ⟨hf, Or.inr ⟨rfl, hFe.mpr ?_⟩⟩, fun z => absurd (Int32.le_refl _) z⟩
      exact fw_yes ((fwM_inv (fwI fr to w m) hn I0 b0 p (Nat.le_refl _)).2 M hM).1 (fun i hi' => ⟨(hi i hi').2.1, (hi i hi').2.2.1⟩)
    | succ f ih =>
      intro p a M hp hf hM he
      obtain ⟨jI, jb⟩ := (fwM_inv (fwI fr to w m) hn I0 b0 p (by omega)).2 M hM
      have bM := jI.2.2.2.bd (show p ≤ 48 by omega)
      have hpn : p < n := by omega
      have rows : ∀ (g x : Nat) (a : Nat → Nat → Int32) (N : fwL), x + g = n → zFr zLG al a → fwX n M p x = some N → fEnc a n N → BX11_isAbove_126 G Z ad ln (nI D) (nI p) (nI x) a := by
        intro g
        induction g with
        | zero =>
          intro x a N hx hf hN he
          refine uX11_isAbove_126 X (nI D) hR _ _ a ?_
          unfold vcX11_isAbove_126
          have : x = n := by omega
          subst this
          rw [f0 hf, h9, nI_1]
          refine ⟨fun _ => ih (p + 1) a N (by omega) hf ?_ he, fun z => absurd (Int32.le_refl _) z⟩
          unfold fwM
          rw [hM]
          exact hN
        | succ g ih2 =>
          intro x a N hx hf hN he
          have hxn : x < n := by omega
          have mid := (fwX_mid M hpn hn jI jb x (by omega)).2 N hN
          have mid1 := (fwX_mid M hpn hn jI jb (x + 1) (by omega)).1
          obtain ⟨s1, s2, s3, s4, s5⟩ := mid
          have v1 : vp_in (nI x) 48 := vp_in_nI (by omega) (by omega)
          have v2 : vp_in (nI p) 48 := vp_in_nI (by omega) (by omega)
          have nextX : fwX n M p (x + 1) = (match N x p with
              | none => some N
              | some _ => match fwY N p x n x x with
                | none => some (fwY N p x n)
                | some d => if 0 < d then none else some (fwY N p x n)) := by
            show (match fwX n M p x with
              | none => none
              | some M' => match M' x p with
                | none => some M'
                | some _ => match fwY M' p x n x x with
                  | none => some (fwY M' p x n)
                  | some d => if 0 < d then none else some (fwY M' p x n)) = _
            rw [hN]
          refine uX11_isAbove_126 X (nI D) hR _ _ a ?_
          unfold vcX11_isAbove_126 vcX11_isAbove_234
          rw [f0 hf, h9, nI_clamp (by omega), nI_clamp (by omega), nI_1, nI_1, he x p hxn hpn, show (-536870912 : Int32) = zI (-536870912) from rfl, feneq _ (fun v hv => by have := s2 x p v hv; omega)]
          refine ⟨fun z => absurd z (by rw [nI_leI (by omega) (by omega)]; omega), fun _ => ⟨v1, v2, fun q => ?_, fun q => ?_⟩⟩
          · -- the row's places
            obtain ⟨a0, ha0⟩ : ∃ a0, N x p = some a0 := by
              cases hz : N x p with
              | none => exact absurd hz q
              | some a0 => exact ⟨a0, rfl⟩
            have rowm : ∀ y v, N p y = some v → -3200000 ≤ v ∧ v ≤ 3200000 := by
              intro y v hv
              rcases Nat.lt_or_ge p x with q3 | q3
              · have hmm : ∀ d, M p p = some d → d ≤ 0 := fun d hd => by
                  rcases Int.lt_or_le 0 d with q2 | q2
                  · have := s5 ⟨d, hd, q2⟩
                    omega
                  · exact q2
                rw [(s4 hmm).1 p y q3] at hv
                rcases fwP_or hv with q4 | ⟨c, e, h1, h2, h3, h4⟩
                · exact bM p y v q4
                · have := hmm c h1
                  have := h4 e h2
                  omega
              · rw [s3 p y q3] at hv
                exact bM p y v hv
            have any := fun y => fwY_any N p x s1 (U := 3200000) (by omega) (fun y v hv => by rw [s3 x y (Nat.le_refl _)] at hv; exact bM x y v hv) rowm y
            have bdY : ∀ y u z v, fwY N p x y u z = some v → -9600000 ≤ v ∧ v ≤ 9600000 := by
              intro y u z v hv
              obtain ⟨t1, t2, t3, t4, t5, t6, t7⟩ := any y
              by_cases e : u = x
              · subst e
                have := t6 z v hv
                omega
              · rw [t2 u z e] at hv
                have := s2 u z v hv
                omega
            have cols : ∀ (k y : Nat) (a : Nat → Nat → Int32), y + k = n → zFr zLG al a → fEnc a n (fwY N p x y) → BX11_isAbove_153 G Z ad ln (nI D) (nI p) (nI x) (nI y) a := by
              intro k
              induction k with
              | zero =>
                intro y a hy hf he
                refine uX11_isAbove_153 X (nI D) hR _ _ _ a ?_
                unfold vcX11_isAbove_153 vcX11_isAbove_234
                have : y = n := by omega
                subst this
                rw [f0 hf, h9, nI_clamp (by omega), he x x hxn hxn, nI_1]
                refine ⟨fun _ => ⟨v1, v1, fun q3 => ?_, fun q3 => ?_⟩, fun z => absurd (Int32.le_refl _) z⟩
                · refine ih2 (x + 1) a (fwY N p x y) (by omega) hf ?_ he
                  rw [nextX, ha0]
                  simp only
                  cases hz : fwY N p x y x x with
                  | none => rfl
                  | some d =>
                    rw [hz] at q3
                    have := bdY y x x d hz
                    have q4 : zI d ≤ 0 := q3
                    rw [zI_0, zI_le ⟨by omega, by omega⟩ ⟨by omega, by omega⟩] at q4
                    simp only
                    rw [if_neg (by omega)]
                · refine ⟨hf, Or.inl ⟨rfl, fun z => mid1 ?_ (hFe.mp z)⟩⟩
                  rw [nextX, ha0]
                  simp only
                  cases hz : fwY N p x y x x with
                  | none =>
                    rw [hz] at q3
                    exact absurd (by decide) q3
                  | some d =>
                    rw [hz] at q3
                    have := bdY y x x d hz
                    have q4 : ¬ zI d ≤ 0 := q3
                    rw [zI_0, zI_le ⟨by omega, by omega⟩ ⟨by omega, by omega⟩] at q4
                    simp only
                    rw [if_pos (by omega)]
              | succ k ih3 =>
                intro y a hy hf he
                have hyn : y < n := by omega
                refine uX11_isAbove_153 X (nI D) hR _ _ _ a ?_
                unfold vcX11_isAbove_153 vcX11_isAbove_215
                have v3 : vp_in (nI y) 48 := vp_in_nI (by omega) (by omega)
                obtain ⟨t1, t2, t3, t4, t5, t6, t7⟩ := any y
                obtain ⟨a1, ha1, -⟩ := t7 p a0 ha0
                have nextY : fwY N p x (y + 1) = (match fwY N p x y x p, fwY N p x y p y with
                    | some a, some b => fset (fwY N p x y) x y (some (fmx (fwY N p x y x y) (a + b)))
                    | _, _ => fwY N p x y) := rfl
                rw [f0 hf, h9, nI_clamp (by omega), nI_clamp (by omega), nI_clamp (by omega), nI_1, he p y hpn hyn, he x y hxn hyn, he x p hxn hpn, show (-536870912 : Int32) = zI (-536870912) from rfl, fenle _ (fun v hv => bdY y p y v hv)]
                refine ⟨fun z => absurd z (by rw [nI_leI (by omega) (by omega)]; omega), fun _ => ⟨v2, v3, fun q3 => ?_, fun q3 => ⟨v1, v3, v2, v3, v3, ?_⟩⟩⟩
                · refine ih3 (y + 1) a (by omega) hf ?_
                  rw [nextY, ha1, q3]
                  exact he
                · obtain ⟨b1, hb1⟩ : ∃ b1, fwY N p x y p y = some b1 := by
                    cases hz : fwY N p x y p y with
                    | none => exact absurd hz q3
                    | some b1 => exact ⟨b1, rfl⟩
                  rw [ha1, hb1] at nextY ⊢
                  have c1 := bdY y x p a1 ha1
                  have c2 := bdY y p y b1 hb1
                  show BX11_isAbove_153 G Z ad ln (nI D) (nI p) (nI x) (nI (y + 1)) (up2 a (29 + x) y (if fen (fwY N p x y x y) < zI a1 + zI b1 then zI a1 + zI b1 else fen (fwY N p x y x y)))
                  rw [zI_add, fenmx _ _ (fun u hu => bdY y x y u hu) (by omega)]
                  refine ih3 (y + 1) _ (by omega) (hf.up (zLG_in (by omega)) _ _) ?_
                  rw [nextY]
                  exact encup a _ x y _ hxn hyn he
            exact cols n 0 a (by omega) hf he
          · refine ih2 (x + 1) a N (by omega) hf ?_ he
            rw [nextX, q]
      refine uX11_isAbove_116 X (nI D) hR _ a ?_
      unfold vcX11_isAbove_116
      rw [f0 hf, h9]
      exact ⟨fun z => absurd z (by rw [nI_leI (by omega) (by omega)]; omega), fun _ => rows n 0 a M (by omega) hf rfl he⟩
  -- the waits
  have waits : ∀ (f i : Nat) (a : Nat → Nat → Int32), i + f = m → zFr zLG al a → fEnc a n (fwI fr to w i) → BX11_isAbove_44 G Z ad ln (nI D) (nI i) a := by
    intro f
    induction f with
    | zero =>
      intro i a hi' hf he
      refine uX11_isAbove_44 X (nI D) hR _ a ?_
      unfold vcX11_isAbove_44
      have : i = m := by omega
      subst this
      rw [f0 hf, h28]
      exact ⟨fun _ => phases n 0 a _ (by omega) hf rfl he, fun z => absurd (Int32.le_refl _) z⟩
    | succ f ih =>
      intro i a hi' hf he
      refine uX11_isAbove_44 X (nI D) hR _ a ?_
      unfold vcX11_isAbove_44
      obtain ⟨⟨w1, w2, w3, w4⟩, w5, w6, w7, w8⟩ := hi i (by omega)
      obtain ⟨g1, g2, g3, g4⟩ := f12 hf
      have ew : nI (dl i) - nI (ov i) * nI D = zI (w i) := by
        rw [zI_n, zI_n, zI_n, zI_mul, zI_sub, ← hww]
        rfl
      have hb := hwr i (by omega)
      rw [f0 hf, h28, nI_clamp (by omega), g1, g2, g3, g4, w1, w2, w3, w4, nI_clamp (by omega), nI_clamp (by omega), ew, he _ _ w5 w6, nI_1]
      have v : vp_in (nI i) 4608 := vp_in_nI (by omega) (by omega)
      have v1 : vp_in (nI (fr i)) 48 := vp_in_nI (by omega) (by omega)
      have v2 : vp_in (nI (to i)) 48 := vp_in_nI (by omega) (by omega)
      refine ⟨fun z => absurd z (by rw [nI_leI (by omega) (by omega)]; omega), fun _ => ⟨v, v, v, v1, v, v, v, v2, v2, ?_⟩⟩
      rw [fenmx _ _ (fun u hu => by
        obtain ⟨j, h1, h2, h3, h4⟩ := fwI_or i _ _ u hu
        have := hwr j (by omega)
        omega) (by omega)]
      exact ih (i + 1) _ (by omega) (hf.up (zLG_in (by omega)) _ _) (encup a _ _ _ _ w5 w6 he)
  -- all far
  have fill : ∀ (f x : Nat) (a : Nat → Nat → Int32), x + f = n → zFr zLG al a → (∀ x' y', x' < x → y' < n → a (29 + x') y' = zI (-536870912)) → BX11_isAbove_2 G Z ad ln (nI D) (nI x) a := by
    intro f
    induction f with
    | zero =>
      intro x a hx hf ha
      refine uX11_isAbove_2 X (nI D) hR _ a ?_
      unfold vcX11_isAbove_2
      have : x = n := by omega
      subst this
      rw [f0 hf, h9]
      exact ⟨fun _ => waits m 0 a (by omega) hf (fun x' y' h1 h2 => ha x' y' h1 h2), fun z => absurd (Int32.le_refl _) z⟩
    | succ f ih =>
      intro x a hx hf ha
      have inner : ∀ (g y : Nat) (a : Nat → Nat → Int32), y + g = n → zFr zLG al a → (∀ x' y', x' < x → y' < n → a (29 + x') y' = zI (-536870912)) → (∀ y', y' < y → a (29 + x) y' = zI (-536870912)) → BX11_isAbove_12 G Z ad ln (nI D) (nI x) (nI y) a := by
        intro g
        induction g with
        | zero =>
          intro y a hy hf ha hb
          refine uX11_isAbove_12 X (nI D) hR _ _ a ?_
          unfold vcX11_isAbove_12
          have : y = n := by omega
          subst this
          rw [f0 hf, h9, nI_1]
          refine ⟨fun _ => ih (x + 1) a (by omega) hf (fun x' y' h1 h2 => ?_), fun z => absurd (Int32.le_refl _) z⟩
          by_cases e : x' = x
          · subst e
            exact hb y' h2
          · exact ha x' y' (by omega) h2
        | succ g ih2 =>
          intro y a hy hf ha hb
          refine uX11_isAbove_12 X (nI D) hR _ _ a ?_
          unfold vcX11_isAbove_12
          rw [f0 hf, h9, nI_1, nI_1, nI_clamp (by omega), nI_clamp (by omega)]
          refine ⟨fun z => absurd z (by rw [nI_leI (by omega) (by omega)]; omega), fun _ => ⟨vp_in_nI (by omega) (by omega), vp_in_nI (by omega) (by omega), ih2 (y + 1) _ (by omega) (hf.up (zLG_in (by omega)) _ _) (fun x' y' h1 h2 => ?_) (fun y' h1 => ?_)⟩⟩
          · rw [up2_ne _ _ (fun z => by omega)]
            exact ha x' y' h1 h2
          · by_cases e : y' = y
            · subst e
              rw [up2_self]
              rfl
            · rw [up2_ne _ _ (fun z => e z.2)]
              exact hb y' (by omega)
      refine uX11_isAbove_2 X (nI D) hR _ a ?_
      unfold vcX11_isAbove_2
      rw [f0 hf, h9]
      exact ⟨fun z => absurd z (by rw [nI_leI (by omega) (by omega)]; omega), fun _ => inner n 0 a (by omega) hf ha (fun y' h => absurd h (by omega))⟩
  refine uX11_isAbove_0 X (nI D) hR al ?_
  unfold vcX11_isAbove_0
  exact fill n 0 al (by omega) zFr.rf (fun x' y' h => absurd h (by omega))
theorem r_leastByCircles (hw : zWf al n m fr to ov dl) (hF : zFe m fr to ov dl 960) : zMi G yX11_leastByCircles wsX11_leastByCircles rmX11_leastByCircles zTR ad ln [.ref (ad 0)] al (fun q a => zFr zLG al a ∧ ∃ c, q = nI c ∧ zLcIs m fr to ov dl c) := by
  refine zMi.of (cc := cX11_leastByCircles) (nL := 4) (rt := .int) (by decide) rfl (Nat.le_of_ble_eq_true rfl) (fun Z X hR => ?_)
  have loop : ∀ (f lo hi : Nat) (a : Nat → Nat → Int32), zFr zLG al a → 1 ≤ lo → lo ≤ hi → hi ≤ 1000 → hi - lo ≤ f → zFe m fr to ov dl hi → (∀ D, 1 ≤ D → D < lo → ¬ zFe m fr to ov dl D) → BX11_leastByCircles_6 G Z ad ln (nI lo) (nI hi) a := by
    intro f
    induction f with
    | zero =>
      intro lo hi a hf h1 h2 h3 h5 h6 h7
      refine uX11_leastByCircles_6 X hR _ _ a ?_
      unfold vcX11_leastByCircles_6
      have : lo = hi := by omega
      subst this
      refine ⟨fun _ => ⟨hf, lo, rfl, h1, ?_, h6, h7⟩, fun z => absurd (Int32.le_refl _) z⟩
      rcases Nat.lt_or_ge 960 lo with q | q
      · exact absurd hF (h7 960 (by omega) q)
      · exact q
    | succ f ih =>
      intro lo hi a hf h1 h2 h3 h5 h6 h7
      refine uX11_leastByCircles_6 X hR _ _ a ?_
      unfold vcX11_leastByCircles_6 vcX11_leastByCircles_34
      rw [nI_leI (by omega) (by omega)]
      refine ⟨fun q => ?_, fun q => ⟨by decide, ?_⟩⟩
      · have : lo = hi := by omega
        subst this
        refine ⟨hf, lo, rfl, h1, ?_, h6, h7⟩
        rcases Nat.lt_or_ge 960 lo with q | q
        · exact absurd hF (h7 960 (by omega) q)
        · exact q
      · have em : (nI lo + nI hi) / 2 = nI ((lo + hi) / 2) := by
          rw [zI_n lo, zI_n hi, zI_add, zI_2, zI_div ⟨by omega, by omega⟩ ⟨by omega, by omega⟩ (by omega), Int.tdiv_eq_ediv_of_nonneg (by omega), zI_n]
          congr 1
        rw [em, nI_1]
        have hw2 : zWf a n m fr to ov dl := hw.fr hf (by rw [hf 0 (by decide)]) (by rw [hf 0 (by decide)]) (by decide)
        refine (r_isAbove G ad ln a hw2 (D := (lo + hi) / 2) (by omega)).mono (fun q1 a1 hq => ?_)
        obtain ⟨f1, ⟨rfl, hb⟩ | ⟨rfl, hb⟩⟩ := hq
        · refine ⟨fun z => absurd z (by decide), fun _ => ?_⟩
          exact ih ((lo + hi) / 2 + 1) hi a1 (hf.tr f1) (by omega) (by omega) (by omega) (by omega) h6 (fun D d1 d2 z => hb (zFe_mono z (by omega)))
        · refine ⟨fun _ => ?_, fun z => absurd rfl z⟩
          exact ih lo ((lo + hi) / 2) a1 (hf.tr f1) h1 (by omega) (by omega) (by omega) hb h7
  refine uX11_leastByCircles_0 X hR al ?_
  unfold vcX11_leastByCircles_0
  exact loop 999 1 1000 al zFr.rf (by omega) (by omega) (by omega) (by omega) (zFe_mono hF (by omega)) (fun D d1 d2 => absurd d1 (by omega))
end ABOVE
