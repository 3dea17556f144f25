/-! THE REFERENCE: run -/
theorem zCol_in (D : Nat) (b e : Nat → Int) (o : Nat → Nat) (sz : Nat) : ∀ (k : Nat) (off : Nat → Int), zCol D b e o sz k = some off → ∀ j, j < k → 0 ≤ off (o j)
  | 0, off, _, j, hj => absurd hj (by omega)
  | k + 1, off, h, j, hj => by
    have h' : (match zCol D b e o sz k with
      | none => none
      | some off => match zFst (zFre D b e o sz off k) sz 0 with
        | none => none
        | some f => some (fup off (o k) (f : Int))) = some off := h
    match h1 : zCol D b e o sz k with
    | none => rw [h1] at h'; cases h'
    | some off' =>
      rw [h1] at h'
      match h2 : zFst (zFre D b e o sz off' k) sz 0 with
      | none => simp only [h2] at h'; cases h'
      | some f =>
        simp only [h2] at h'
        have e1 := Option.some.inj h'
        rw [← e1]
        unfold fup
        by_cases q : o j = o k
        · rw [if_pos q]
          omega
        · rw [if_neg q]
          have : j ≠ k := fun z => q (by rw [z])
          exact zCol_in D b e o sz k off' h1 j (by omega)
theorem zSz_some (D : Nat) (b e : Nat → Int) (o : Nat → Nat) (k : Nat) : ∀ (g s0 sz : Nat) (off : Nat → Int), zSz D b e o k g s0 = some (sz, off) → s0 ≤ sz ∧ sz < s0 + g ∧ zCol D b e o sz k = some off
  | 0, s0, sz, off, h => by cases h
  | g + 1, s0, sz, off, h => by
    have h' : (match zCol D b e o s0 k with
      | some off => some (s0, off)
      | none => zSz D b e o k g (s0 + 1)) = some (sz, off) := h
    match h1 : zCol D b e o s0 k with
    | some off' =>
      rw [h1] at h'
      have e1 := Option.some.inj h'
      cases e1
      exact ⟨by omega, by omega, h1⟩
    | none =>
      rw [h1] at h'
      have := zSz_some D b e o k g (s0 + 1) sz off h'
      exact ⟨by omega, by omega, this.2.2⟩
section RUNP
variable {n : Nat} {rc : Nat → zRec} {st : Nat → Nat} {us : Nat → Nat → Bool} {D : Nat}
theorem lF_ok {sz : Nat} {off : Nat → Int} (h : lF n rc st us D = some (sz, off)) : (1 ≤ sz ∧ sz ≤ 128) ∧ ∀ x, x < n → (off x = -1 ∨ (0 ≤ off x ∧ off x < sz)) ∧ (0 ≤ off x ↔ 0 ≤ lB n rc st us D x) := by
  have h' : (if 96 < lNd n rc st us D then none else zSz D (lB n rc st us D) (lE n rc st us D) (lO n rc st us D).1 (lO n rc st us D).2 (129 - (zmx (lNd n rc st us D) 1).toNat) (zmx (lNd n rc st us D) 1).toNat) = some (sz, off) := h
  by_cases q : 96 < lNd n rc st us D
  · rw [if_pos q] at h'
    cases h'
  · rw [if_neg q] at h'
    obtain ⟨s1, s2, s3⟩ := zSz_some _ _ _ _ _ _ _ _ _ h'
    have m : 1 ≤ zmx (lNd n rc st us D) 1 ∧ zmx (lNd n rc st us D) 1 ≤ 96 := by
      unfold zmx
      split <;> omega
    obtain ⟨r1, r2⟩ := zCol_rng _ _ _ _ _ _ _ s3
    have r3 := zCol_in _ _ _ _ _ _ _ s3
    obtain ⟨o1, o2, o3, o4⟩ := zOr_ok (lB n rc st us D) n
    refine ⟨by omega, fun x hx => ⟨r1 x, fun z => ?_, fun z => ?_⟩⟩
    · by_cases q2 : ∃ j, j < (lO n rc st us D).2 ∧ (lO n rc st us D).1 j = x
      · obtain ⟨j, j1, j2⟩ := q2
        rw [← j2]
        exact (o2 j j1).2
      · have := r2 x (fun j hj e => q2 ⟨j, hj, e⟩)
        omega
    · obtain ⟨j, j1, j2⟩ := o4 x hx z
      rw [← j2]
      exact r3 j j1
theorem lB_is {x : Nat} (h : 0 ≤ lB n rc st us D x) : lB n rc st us D x = zCy n rc st D x + (zTm rc st x : Int) := by
  unfold lB zBg at h ⊢
  split
  · rename_i q
    rw [if_pos q] at h
    omega
  · rfl
/-- the laid run's own conditions -/
theorem zLH_ok (g : zGd n rc st) (hu : zUq n rc) (hD : 1 ≤ D ∧ D ≤ 200) (hF : zFe (zWL n rc st).length (wF (zWL n rc st)) (wT (zWL n rc st)) (wO (zWL n rc st)) (wD (zWL n rc st)) D) (ht : (zFl n rc st D).2.2 = true) : zLH n D rc (zCy n rc st D) (lB n rc st (zUsC n rc) D) (zSvI n rc) (zTm rc st) (st 3) := by
  obtain ⟨cy1, cy2, cy3, cy4, cy5⟩ := zCy_ok g hD hF ht
  have hn := g.2.1
  have tm : ∀ x, x < n → 1 ≤ zTm rc st x := fun x hx => (g.2.2.2.1 _ (rKd_ok (g.2.2.1 x hx)).1).1
  have us := zUsC_ok hu g.2.1 g.2.2.1
  -- a use
  have use : ∀ x y, x < n → y < n → zUsC n rc x y = true → 0 ≤ lB n rc st (zUsC n rc) D x ∧ lB n rc st (zUsC n rc) D x ≤ zCy n rc st D y + zUo x y * (D : Int) := by
    intro x y hx hy hxy
    have e1 := zE_ge (D := D) (c := zCy n rc st D) (us := zUsC n rc) (x := x) n y hy hxy
    have u0 : 0 ≤ zUo x y * (D : Int) := Int.mul_nonneg (by unfold zUo; split <;> omega) (by omega)
    unfold zUe at e1
    have c0 := (cy2 y hy).1
    have c1 := (cy2 x hx).1
    have eb : lB n rc st (zUsC n rc) D x = zCy n rc st D x + (zTm rc st x : Int) := by
      unfold lB zBg
      rw [if_neg (by omega)]
    obtain ⟨i, i1, i2, i3, i4, i5⟩ := use_wait (R := st 8) (st := st) hx hy (by rw [← us x y hx hy]; exact hxy)
    have w := cy4 i i1
    unfold sBound at w
    have i2' : wF (zWL n rc st) i = x := i2
    have i3' : wT (zWL n rc st) i = y := i3
    have i4' : wO (zWL n rc st) i = zUon x y := i4
    have i5' : zTm rc st x ≤ wD (zWL n rc st) i := i5
    rw [i2', i3', i4'] at w
    have eu : (zUon x y : Int) = zUo x y := by unfold zUon zUo; split <;> rfl
    rw [eu] at w
    rw [eb]
    omega
  have one : ∀ (s v : Int32) y, y < n → zOpOk s v → (s = 114 → 0 ≤ zSvI n rc v.toNatClampNeg → zUsC n rc (zSvI n rc v.toNatClampNeg).toNat y = true) → zUb n D (zCy n rc st D) (lB n rc st (zUsC n rc) D) (zSvI n rc) s v y := by
    intro s v y hy ho hx hs h0
    obtain ⟨o1, o2, o3⟩ := ho.v hs
    rcases zSv_rng n rc v.toNatClampNeg with ⟨g1, g2⟩ | ⟨x, g1, g2, g3, g4⟩
    · unfold zSvI at h0
      omega
    · have e : zSvI n rc v.toNatClampNeg = (x : Int) := g3 hn
      have hxy := hx hs h0
      rw [e, show ((x : Nat) : Int).toNat = x by omega] at hxy ⊢
      exact ⟨g1, use x y g1 hy hxy⟩
  refine ⟨hD.1, (g.2.2.2.1 3 (by omega)).1, fun x hx => (cy2 x hx).1, fun x hx hb => ⟨lB_is hb, tm x hx⟩, fun y hy => ⟨one _ _ y hy (g.2.2.1 y hy).2.2.2.2.2.2.2.1 (fun hs h0 => ?_), one _ _ y hy (g.2.2.1 y hy).2.2.2.2.2.2.2.2.1 (fun hs h0 => ?_)⟩⟩
  · unfold zUsC zUsS
    refine decide_eq_true (Or.inl ?_)
    unfold zSl
    rw [if_pos hs]
    omega
  · unfold zUsC zUsS
    refine decide_eq_true (Or.inr ?_)
    unfold zSr2
    rw [if_pos hs]
    omega
end RUNP
section RUNS
variable (n : Nat) (rc : Nat → zRec) (st : Nat → Nat) (D : Nat) (bg : Nat → Int32)
/-- the last cycle of a laid run -/
noncomputable def zLst : Nat := (zLs (zCy n rc st D) (zTm rc st) n + ((st 8 : Int) - 1) * (D : Int)).toNat
/-- what a laid run leaves -/
noncomputable def zLdW : (Nat → Int32) × (Nat → Int32) × (Nat → Int32) := match lF n rc st (zUsC n rc) D with
  | some (sz, off) => zLc n D (st 8) sz rc (zCy n rc st D) (lB n rc st (zUsC n rc) D) off (zSvI n rc) bg (st 3) (fun _ => 0, fun _ => 0, zCe0) (zLst n rc st D + 1)
  | none => (fun _ => 0, fun _ => 0, zCe0)
noncomputable def zRgL (r : Nat) : Int32 := zKl (st 8) (zSvI n rc) bg (zLdW n rc st D bg).1 r
end RUNS
section RUNQ
variable {n : Nat} {rc : Nat → zRec} {st : Nat → Nat} {D : Nat} {bg : Nat → Int32}
theorem zLs_ge {c : Nat → Int} {tm : Nat → Nat} : ∀ k x, x < k → c x + (tm x : Int) ≤ zLs c tm k
  | 0, x, hx => absurd hx (by omega)
  | k + 1, x, hx => by
    show _ ≤ zmx (zLs c tm k) (c k + (tm k : Int))
    by_cases q : x = k
    · subst q
      unfold zmx
      split <;> omega
    · have := zLs_ge (c := c) (tm := tm) k x (by omega)
      unfold zmx
      split <;> omega
theorem zLst_is (g : zGd n rc st) (hD : 1 ≤ D ∧ D ≤ 200) (hF : zFe (zWL n rc st).length (wF (zWL n rc st)) (wT (zWL n rc st)) (wO (zWL n rc st)) (wD (zWL n rc st)) D) (ht : (zFl n rc st D).2.2 = true) : (zLst n rc st D : Int) = zLs (zCy n rc st D) (zTm rc st) n + ((st 8 : Int) - 1) * (D : Int) ∧ zLst n rc st D ≤ 1900000 := by
  obtain ⟨cy1, cy2, cy3, cy4, cy5⟩ := zCy_ok g hD hF ht
  have tm : ∀ x, x < n → 1 ≤ zTm rc st x ∧ zTm rc st x ≤ 20 := fun x hx => g.2.2.2.1 _ (rKd_ok (g.2.2.1 x hx)).1
  have rg : ∀ x, x ≤ n → 0 ≤ zLs (zCy n rc st D) (zTm rc st) x ∧ zLs (zCy n rc st D) (zTm rc st) x ≤ 100020 := by
    intro x
    induction x with
    | zero => intro _; exact ⟨Int.le_refl _, by show (0 : Int) ≤ 100020; omega⟩
    | succ x ih =>
      intro hx
      have := ih (by omega)
      have := cy2 x (by omega)
      have := tm x (by omega)
      show 0 ≤ zmx (zLs (zCy n rc st D) (zTm rc st) x) (zCy n rc st D x + (zTm rc st x : Int)) ∧ zmx (zLs (zCy n rc st D) (zTm rc st) x) (zCy n rc st D x + (zTm rc st x : Int)) ≤ 100020
      unfold zmx
      split <;> omega
  have r := rg n (Nat.le_refl _)
  have h8 := g.2.2.2.2 8 (by omega)
  have m1 : 0 ≤ ((st 8 : Int) - 1) * (D : Int) := Int.mul_nonneg (by omega) (by omega)
  have m2 : ((st 8 : Int) - 1) * (D : Int) ≤ 63 * 200 := Int.mul_le_mul (by omega) (by omega) (by omega) (by omega)
  unfold zLst
  omega
/-- whatever lay there before: the same registers and arrays -/
theorem zLdW_eq (g : zGd n rc st) (hu : zUq n rc) (hD : 1 ≤ D ∧ D ≤ 200) (hF : zFe (zWL n rc st).length (wF (zWL n rc st)) (wT (zWL n rc st)) (wO (zWL n rc st)) (wD (zWL n rc st)) D) (ht : (zFl n rc st D).2.2 = true) {sz : Nat} {off : Nat → Int} (hf : lF n rc st (zUsC n rc) D = some (sz, off)) (g0 P0 : Nat → Int32) : (zLc n D (st 8) sz rc (zCy n rc st D) (lB n rc st (zUsC n rc) D) off (zSvI n rc) bg (st 3) (g0, P0, zCe0) (zLst n rc st D + 1)).2.2 = (zLdW n rc st D bg).2.2 ∧ ∀ r, zKl (st 8) (zSvI n rc) bg (zLc n D (st 8) sz rc (zCy n rc st D) (lB n rc st (zUsC n rc) D) off (zSvI n rc) bg (st 3) (g0, P0, zCe0) (zLst n rc st D + 1)).1 r = zRgL n rc st D bg r := by
  have e : zLdW n rc st D bg = zLc n D (st 8) sz rc (zCy n rc st D) (lB n rc st (zUsC n rc) D) off (zSvI n rc) bg (st 3) (fun _ => 0, fun _ => 0, zCe0) (zLst n rc st D + 1) := by
    unfold zLdW
    rw [hf]
  obtain ⟨a1, a2, a3⟩ := zLc_ag (R := st 8) (sz := sz) (off := off) (bg := bg) (zLH_ok g hu hD hF ht) (g := g0) (g' := fun _ => 0) (P := P0) (P' := fun _ => 0) (ce := zCe0) (zLst n rc st D + 1)
  refine ⟨by rw [e]; exact a1, fun r => ?_⟩
  unfold zRgL zKl
  rw [e]
  by_cases q : zSvI n rc r < 0
  · rw [if_pos q, if_pos q]
  · rw [if_neg q, if_neg q]
    have h8 := g.2.2.2.2 8 (by omega)
    rcases zSv_rng n rc r with ⟨g1, g2⟩ | ⟨x, g1, g2, g3, g4⟩
    · unfold zSvI at q
      omega
    · have ex : zSvI n rc r = (x : Int) := g3 g.2.1
      rw [ex, show ((x : Nat) : Int).toNat = x by omega]
      have := a2 x g1 ((st 8 : Int) - 1) (by omega) (by omega) ?_
      · rw [show ((st 8 : Int) - 1).toNat = st 8 - 1 by omega] at this
        exact this
      · have l1 := (zLst_is g hD hF ht).1
        have l2 := zLs_ge (c := zCy n rc st D) (tm := zTm rc st) n x g1
        omega
end RUNQ
