-- needs: 5d 5f
/-! THE LAID RUN does not see what lay there before, nor the order of sets in one cycle -/
section LPURE
variable {k D R sz : Nat} {rc : Nat → zRec} {c b off sv : Nat → Int} {bg : Nat → Int32} {tm : Nat → Nat} {t3 : Nat}
def zUb (k D : Nat) (c b sv : Nat → Int) (s v : Int32) (y : Nat) : Prop := s = 114 → 0 ≤ sv v.toNatClampNeg → (sv v.toNatClampNeg).toNat < k ∧ 0 ≤ b (sv v.toNatClampNeg).toNat ∧ b (sv v.toNatClampNeg).toNat ≤ c y + zUo (sv v.toNatClampNeg).toNat y * (D : Int)
def zLH (k D : Nat) (rc : Nat → zRec) (c b sv : Nat → Int) (tm : Nat → Nat) (t3 : Nat) : Prop := 1 ≤ D ∧ 1 ≤ t3 ∧ (∀ x, x < k → 0 ≤ c x) ∧ (∀ x, x < k → 0 ≤ b x → b x = c x + (tm x : Int) ∧ 1 ≤ tm x) ∧ ∀ y, y < k → zUb k D c b sv (rc y).2.2.2.2.2.2.1 (rc y).2.2.2.2.2.2.2.1 y ∧ zUb k D c b sv (rc y).2.2.2.2.2.2.2.2.1 (rc y).2.2.2.2.2.2.2.2.2 y
def zAgG (k D R : Nat) (c : Nat → Int) (t : Int) (g g' : Nat → Int32) : Prop := ∀ x, x < k → ∀ i : Int, 0 ≤ i → i < R → c x + i * (D : Int) < t → g (x * 64 + i.toNat) = g' (x * 64 + i.toNat)
def zAgP (k D R sz : Nat) (b off : Nat → Int) (t : Int) (P P' : Nat → Int32) : Prop := ∀ x, x < k → 0 ≤ b x → ∀ i : Int, 0 ≤ i → i < R → b x + i * (D : Int) < t → P (zSp sz off x i) = P' (zSp sz off x i)
theorem zBv_ag (h : zLH k D rc c b sv tm t3) {t : Int} {g g' P P' : Nat → Int32} (hg : zAgG k D R c t g g') : ∀ k', k' ≤ k → ∀ s, (P s = P' s ∨ ∃ x, x < k' ∧ 0 ≤ b x ∧ 0 ≤ zRa D R t (b x) ∧ s = zSp sz off x (zRa D R t (b x))) → zBv D R sz b off t g k' P s = zBv D R sz b off t g' k' P' s
  | 0, _, s, hs => hs.elim id (fun ⟨x, hx, _⟩ => absurd hx (by omega))
  | k' + 1, hk, s, hs => by
    obtain ⟨hD, ht3, hc, hb, hu⟩ := h
    have ih := zBv_ag (P := P) (P' := P') ⟨hD, ht3, hc, hb, hu⟩ hg k' (by omega)
    unfold zBv
    by_cases q : 0 ≤ b k' ∧ 0 ≤ zRa D R t (b k')
    · rw [if_pos q, if_pos q]
      rcases zRa_rng (R := R) t (b k') hD with z | ⟨z1, z2, z3⟩
      · exact absurd q.2 (by omega)
      · have hb' := hb k' (by omega) q.1
        have eg := hg k' (by omega) (zRa D R t (b k')) z1 z2 (by omega)
        rw [eg]
        by_cases e : s = zSp sz off k' (zRa D R t (b k'))
        · rw [e, fu_self, fu_self]
        · rw [fu_ne _ _ e, fu_ne _ _ e]
          refine ih s (hs.imp id (fun ⟨x, hx, h1, h2, h3⟩ => ⟨x, ?_, h1, h2, h3⟩))
          have : x ≠ k' := fun z => e (by rw [← z]; exact h3)
          omega
    · rw [if_neg q, if_neg q]
      refine ih s (hs.imp id (fun ⟨x, hx, h1, h2, h3⟩ => ⟨x, ?_, h1, h2, h3⟩))
      have : x ≠ k' := fun z => q (by rw [← z]; exact ⟨h1, h2⟩)
      omega
theorem zRa_is {first i t : Int} (hD : 1 ≤ D) (h0 : 0 ≤ i) (h1 : i < R) (e : first + i * (D : Int) = t) : zRa D R t first = i := by
  have := zRa_of (D := D) (R := R) (n := i.toNat) first hD (by omega)
  rw [show ((i.toNat : Nat) : Int) = i by omega, e] at this
  exact this
theorem zBv_agP (h : zLH k D rc c b sv tm t3) {t : Int} {g g' P P' : Nat → Int32} (hg : zAgG k D R c t g g') (hP : zAgP k D R sz b off t P P') : zAgP k D R sz b off (t + 1) (zBv D R sz b off t g k P) (zBv D R sz b off t g' k P') := by
  intro x hx hb i i0 i1 hi
  refine zBv_ag h hg k (Nat.le_refl _) _ ?_
  by_cases q : b x + i * (D : Int) < t
  · exact Or.inl (hP x hx hb i i0 i1 q)
  · have e := zRa_is (R := R) h.1 i0 i1 (show b x + i * (D : Int) = t by omega)
    exact Or.inr ⟨x, hx, hb, by rw [e]; exact i0, by rw [e]⟩
theorem zLv_ag {t : Int} {P P' : Nat → Int32} (hD : 1 ≤ D) (hP : zAgP k D R sz b off (t + 1) P P') {s v : Int32} {y n : Nat} (hu : zUb k D c b sv s v y) (hn : n < R) (ht : c y + (n : Int) * (D : Int) = t) : zLv sz off sv bg P s v y n = zLv sz off sv bg P' s v y n := by
  unfold zLv
  by_cases q : s = 114
  · rw [if_pos q, if_pos q]
    by_cases q2 : sv v.toNatClampNeg < 0 ∨ (n : Int) - zUo (sv v.toNatClampNeg).toNat y < 0
    · rw [if_pos q2, if_pos q2]
    · rw [if_neg q2, if_neg q2]
      obtain ⟨u1, u2, u3⟩ := hu q (by omega)
      have hz : 0 ≤ zUo (sv v.toNatClampNeg).toNat y := by unfold zUo; split <;> omega
      refine hP _ u1 u2 _ (by omega) (by omega) ?_
      have : ((n : Int) - zUo (sv v.toNatClampNeg).toNat y) * (D : Int) = (n : Int) * (D : Int) - zUo (sv v.toNatClampNeg).toNat y * (D : Int) := Int.sub_mul _ _ _
      omega
  · rw [if_neg q, if_neg q]
theorem zGv_ag {t : Int} {P P' ce : Nat → Int32} (h : zLH k D rc c b sv tm t3) (hP : zAgP k D R sz b off (t + 1) P P') {y n : Nat} (hy : y < k) (hn : n < R) (ht : c y + (n : Int) * (D : Int) = t) : zGv sz rc off sv bg P ce y n = zGv sz rc off sv bg P' ce y n := by
  obtain ⟨u1, u2⟩ := h.2.2.2.2 y hy
  unfold zGv
  rw [zLv_ag (bg := bg) h.1 hP u1 hn ht, zLv_ag (bg := bg) h.1 hP u2 hn ht]
theorem zBr_ag (h : zLH k D rc c b sv tm t3) {t : Int} {g g' P P' ce : Nat → Int32} (hP : zAgP k D R sz b off (t + 1) P P') : ∀ k', k' ≤ k → ∀ j, (g j = g' j ∨ ∃ x, x < k' ∧ 0 ≤ zRa D R t (c x) ∧ j = x * 64 + (zRa D R t (c x)).toNat) → zBr D R sz rc c off sv bg t P ce k' g j = zBr D R sz rc c off sv bg t P' ce k' g' j
  | 0, _, j, hs => hs.elim id (fun ⟨x, hx, _⟩ => absurd hx (by omega))
  | k' + 1, hk, j, hs => by
    have ih := zBr_ag h hP (g := g) (g' := g') (ce := ce) k' (by omega)
    unfold zBr
    by_cases q : 0 ≤ zRa D R t (c k')
    · rw [if_pos q, if_pos q]
      rcases zRa_rng (R := R) t (c k') h.1 with z | ⟨z1, z2, z3⟩
      · exact absurd q (by omega)
      · rw [zGv_ag (bg := bg) (ce := ce) h hP (y := k') (n := (zRa D R t (c k')).toNat) (by omega) (by omega) (by rw [show (((zRa D R t (c k')).toNat : Nat) : Int) = zRa D R t (c k') by omega]; exact z3.symm)]
        by_cases e : j = k' * 64 + (zRa D R t (c k')).toNat
        · rw [e, fu_self, fu_self]
        · rw [fu_ne _ _ e, fu_ne _ _ e]
          refine ih j (hs.imp id (fun ⟨x, hx, h1, h2⟩ => ⟨x, ?_, h1, h2⟩))
          have : x ≠ k' := fun z => e (by rw [← z]; exact h2)
          omega
    · rw [if_neg q, if_neg q]
      refine ih j (hs.imp id (fun ⟨x, hx, h1, h2⟩ => ⟨x, ?_, h1, h2⟩))
      have : x ≠ k' := fun z => q (by rw [← z]; exact h1)
      omega
theorem zBr_agG (h : zLH k D rc c b sv tm t3) {t : Int} {g g' P P' ce : Nat → Int32} (hg : zAgG k D R c t g g') (hP : zAgP k D R sz b off (t + 1) P P') : zAgG k D R c (t + 1) (zBr D R sz rc c off sv bg t P ce k g) (zBr D R sz rc c off sv bg t P' ce k g') := by
  intro x hx i i0 i1 hi
  refine zBr_ag h hP k (Nat.le_refl _) _ ?_
  by_cases q : c x + i * (D : Int) < t
  · exact Or.inl (hg x hx i i0 i1 q)
  · have e := zRa_is (R := R) h.1 i0 i1 (show c x + i * (D : Int) = t by omega)
    exact Or.inr ⟨x, hx, by rw [e]; exact i0, by rw [e]⟩
theorem zBs_ag (h : zLH k D rc c b sv tm t3) {t : Int} {g g' ce : Nat → Int32} (hg : zAgG k D R c (t + 1) g g') : ∀ k', k' ≤ k → zBs D R rc c t3 t g k' ce = zBs D R rc c t3 t g' k' ce
  | 0, _ => rfl
  | k' + 1, hk => by
    have ih := zBs_ag h hg (ce := ce) k' (by omega)
    unfold zBs
    rw [ih]
    by_cases q : (rc k').1 = 3 ∧ 0 ≤ zRa D R t (c k' + (t3 : Int) - 1)
    · rw [if_pos q, if_pos q]
      have ht3 := h.2.1
      rcases zRa_rng (R := R) t (c k' + (t3 : Int) - 1) h.1 with z | ⟨z1, z2, z3⟩
      · exact absurd q.2 (by omega)
      · rw [hg k' (by omega) _ z1 z2 (by omega)]
    · rw [if_neg q, if_neg q]
theorem zLc_ag (h : zLH k D rc c b sv tm t3) {g g' P P' ce : Nat → Int32} : ∀ t : Nat, (zLc k D R sz rc c b off sv bg t3 (g, P, ce) t).2.2 = (zLc k D R sz rc c b off sv bg t3 (g', P', ce) t).2.2 ∧ zAgG k D R c (t : Int) (zLc k D R sz rc c b off sv bg t3 (g, P, ce) t).1 (zLc k D R sz rc c b off sv bg t3 (g', P', ce) t).1 ∧ zAgP k D R sz b off (t : Int) (zLc k D R sz rc c b off sv bg t3 (g, P, ce) t).2.1 (zLc k D R sz rc c b off sv bg t3 (g', P', ce) t).2.1
  | 0 => by
    refine ⟨rfl, fun x hx i i0 i1 hi => ?_, fun x hx hb i i0 i1 hi => ?_⟩
    · have := h.2.2.1 x hx
      have := Int.mul_nonneg i0 (show (0 : Int) ≤ (D : Int) by omega)
      omega
    · have := Int.mul_nonneg i0 (show (0 : Int) ≤ (D : Int) by omega)
      omega
  | t + 1 => by
    obtain ⟨i1, i2, i3⟩ := zLc_ag h (g := g) (g' := g') (P := P) (P' := P') (ce := ce) t
    have j1 := zBv_agP h i2 i3
    have j2 := zBr_agG (bg := bg) (ce := (zLc k D R sz rc c b off sv bg t3 (g, P, ce) t).2.2) h i2 j1
    refine ⟨?_, ?_, ?_⟩
    · show zBs _ _ _ _ _ _ _ _ _ = zBs _ _ _ _ _ _ _ _ _
      rw [← i1]
      exact zBs_ag h j2 k (Nat.le_refl _)
    · show zAgG _ _ _ _ _ (zBr _ _ _ _ _ _ _ _ _ _ _ _ _) (zBr _ _ _ _ _ _ _ _ _ _ _ _ _)
      rw [← i1, show (((t + 1 : Nat)) : Int) = (t : Int) + 1 by omega]
      exact j2
    · show zAgP _ _ _ _ _ _ _ (zBv _ _ _ _ _ _ _ _ _) (zBv _ _ _ _ _ _ _ _ _)
      rw [show (((t + 1 : Nat)) : Int) = (t : Int) + 1 by omega]
      exact j1
/-! sets in another order -/
/-- no two sets of one cycle meet -/
def zNC (k D R : Nat) (rc : Nat → zRec) (c : Nat → Int) (t3 : Nat) (t : Int) : Prop := ∀ x x', x < k → x' < k → (rc x).1 = 3 → (rc x').1 = 3 → 0 ≤ zRa D R t (c x + (t3 : Int) - 1) → 0 ≤ zRa D R t (c x' + (t3 : Int) - 1) → zCx (rc x) (zRa D R t (c x + (t3 : Int) - 1)).toNat = zCx (rc x') (zRa D R t (c x' + (t3 : Int) - 1)).toNat → x = x'
def zBx (D R : Nat) (rc : Nat → zRec) (c : Nat → Int) (t3 : Nat) (t : Int) (g : Nat → Int32) (i : Nat) : Nat → (Nat → Int32) → (Nat → Int32)
  | 0, ce => ce
  | x + 1, ce => if (rc x).1 = 3 ∧ zRa D R t (c x + (t3 : Int) - 1) = (i : Int) then fu (zBx D R rc c t3 t g i x ce) (zCx (rc x) i) (g (x * 64 + i)) else zBx D R rc c t3 t g i x ce
def zBn (k D R : Nat) (rc : Nat → zRec) (c : Nat → Int) (t3 : Nat) (t : Int) (g : Nat → Int32) : Nat → (Nat → Int32) → (Nat → Int32)
  | 0, ce => ce
  | i + 1, ce => zBx D R rc c t3 t g i k (zBn k D R rc c t3 t g i ce)
theorem zBs_ch {t : Int} {g ce : Nat → Int32} (nc : zNC k D R rc c t3 t) : ∀ k', k' ≤ k → (∀ x, x < k' → (rc x).1 = 3 → 0 ≤ zRa D R t (c x + (t3 : Int) - 1) → zBs D R rc c t3 t g k' ce (zCx (rc x) (zRa D R t (c x + (t3 : Int) - 1)).toNat) = g (x * 64 + (zRa D R t (c x + (t3 : Int) - 1)).toNat)) ∧ ∀ j, (∀ x, x < k' → (rc x).1 = 3 → 0 ≤ zRa D R t (c x + (t3 : Int) - 1) → zCx (rc x) (zRa D R t (c x + (t3 : Int) - 1)).toNat ≠ j) → zBs D R rc c t3 t g k' ce j = ce j
  | 0, _ => ⟨fun x hx => absurd hx (by omega), fun j _ => rfl⟩
  | k' + 1, hk => by
    obtain ⟨ih1, ih2⟩ := zBs_ch nc (g := g) (ce := ce) k' (by omega)
    unfold zBs
    by_cases q : (rc k').1 = 3 ∧ 0 ≤ zRa D R t (c k' + (t3 : Int) - 1)
    · rw [if_pos q]
      refine ⟨fun x hx h3 h0 => ?_, fun j hj => ?_⟩
      · by_cases e : x = k'
        · subst e
          exact fu_self _ _ _
        · rw [fu_ne _ _ (fun z => e (nc x k' (by omega) (by omega) h3 q.1 h0 q.2 z))]
          exact ih1 x (by omega) h3 h0
      · rw [fu_ne _ _ (fun z => hj k' (by omega) q.1 q.2 z.symm)]
        exact ih2 j (fun x hx h3 h0 => hj x (by omega) h3 h0)
    · rw [if_neg q]
      refine ⟨fun x hx h3 h0 => ih1 x ?_ h3 h0, fun j hj => ih2 j (fun x hx h3 h0 => hj x (by omega) h3 h0)⟩
      have : x ≠ k' := fun z => q (by rw [← z]; exact ⟨h3, h0⟩)
      omega
theorem zBx_ch {t : Int} {g ce : Nat → Int32} (nc : zNC k D R rc c t3 t) {i : Nat} : ∀ k', k' ≤ k → (∀ x, x < k' → (rc x).1 = 3 → zRa D R t (c x + (t3 : Int) - 1) = (i : Int) → zBx D R rc c t3 t g i k' ce (zCx (rc x) i) = g (x * 64 + i)) ∧ ∀ j, (∀ x, x < k' → (rc x).1 = 3 → zRa D R t (c x + (t3 : Int) - 1) = (i : Int) → zCx (rc x) i ≠ j) → zBx D R rc c t3 t g i k' ce j = ce j
  | 0, _ => ⟨fun x hx => absurd hx (by omega), fun j _ => rfl⟩
  | k' + 1, hk => by
    obtain ⟨ih1, ih2⟩ := zBx_ch nc (g := g) (ce := ce) (i := i) k' (by omega)
    unfold zBx
    by_cases q : (rc k').1 = 3 ∧ zRa D R t (c k' + (t3 : Int) - 1) = (i : Int)
    · rw [if_pos q]
      refine ⟨fun x hx h3 h0 => ?_, fun j hj => ?_⟩
      · by_cases e : x = k'
        · subst e
          exact fu_self _ _ _
        · rw [fu_ne _ _ (fun z => e (nc x k' (by omega) (by omega) h3 q.1 (by omega) (by omega) (by rw [h0, q.2]; exact z)))]
          exact ih1 x (by omega) h3 h0
      · rw [fu_ne _ _ (fun z => hj k' (by omega) q.1 q.2 z.symm)]
        exact ih2 j (fun x hx h3 h0 => hj x (by omega) h3 h0)
    · rw [if_neg q]
      refine ⟨fun x hx h3 h0 => ih1 x ?_ h3 h0, fun j hj => ih2 j (fun x hx h3 h0 => hj x (by omega) h3 h0)⟩
      have : x ≠ k' := fun z => q (by rw [← z]; exact ⟨h3, h0⟩)
      omega
theorem zBn_ch {t : Int} {g ce : Nat → Int32} (nc : zNC k D R rc c t3 t) : ∀ i : Nat, (∀ x, x < k → (rc x).1 = 3 → 0 ≤ zRa D R t (c x + (t3 : Int) - 1) → zRa D R t (c x + (t3 : Int) - 1) < (i : Int) → zBn k D R rc c t3 t g i ce (zCx (rc x) (zRa D R t (c x + (t3 : Int) - 1)).toNat) = g (x * 64 + (zRa D R t (c x + (t3 : Int) - 1)).toNat)) ∧ ∀ j, (∀ x, x < k → (rc x).1 = 3 → 0 ≤ zRa D R t (c x + (t3 : Int) - 1) → zRa D R t (c x + (t3 : Int) - 1) < (i : Int) → zCx (rc x) (zRa D R t (c x + (t3 : Int) - 1)).toNat ≠ j) → zBn k D R rc c t3 t g i ce j = ce j
  | 0 => ⟨fun x hx h3 h0 h1 => absurd h1 (by omega), fun j _ => rfl⟩
  | i + 1 => by
    obtain ⟨ih1, ih2⟩ := zBn_ch nc (g := g) (ce := ce) i
    obtain ⟨x1, x2⟩ := zBx_ch nc (g := g) (ce := zBn k D R rc c t3 t g i ce) (i := i) k (Nat.le_refl _)
    refine ⟨fun x hx h3 h0 h1 => ?_, fun j hj => ?_⟩
    · show zBx D R rc c t3 t g i k (zBn k D R rc c t3 t g i ce) _ = _
      by_cases e : zRa D R t (c x + (t3 : Int) - 1) = (i : Int)
      · rw [e, show ((i : Nat) : Int).toNat = i by omega]
        exact x1 x hx h3 e
      · rw [x2 _ (fun x' hx' h3' h0' z => e ?_)]
        · exact ih1 x hx h3 h0 (by omega)
        · have := nc x' x hx' hx h3' h3 (by omega) h0 (by rw [h0', show ((i : Nat) : Int).toNat = i by omega]; exact z)
          rw [← this]
          exact h0'
    · show zBx D R rc c t3 t g i k (zBn k D R rc c t3 t g i ce) j = _
      rw [x2 j (fun x hx h3 h0 => ?_)]
      · exact ih2 j (fun x hx h3 h0 h1 => hj x hx h3 h0 (by omega))
      · have := hj x hx h3 (by omega) (by omega)
        rw [h0, show ((i : Nat) : Int).toNat = i by omega] at this
        exact this
theorem zBn_eq {t : Int} {g ce : Nat → Int32} (hD : 1 ≤ D) (nc : zNC k D R rc c t3 t) : zBn k D R rc c t3 t g R ce = zBs D R rc c t3 t g k ce := by
  funext j
  obtain ⟨a1, a2⟩ := zBs_ch nc (g := g) (ce := ce) k (Nat.le_refl _)
  obtain ⟨b1, b2⟩ := zBn_ch nc (g := g) (ce := ce) R
  by_cases q : ∃ x, x < k ∧ (rc x).1 = 3 ∧ 0 ≤ zRa D R t (c x + (t3 : Int) - 1) ∧ zCx (rc x) (zRa D R t (c x + (t3 : Int) - 1)).toNat = j
  · obtain ⟨x, hx, h3, h0, rfl⟩ := q
    have hl : zRa D R t (c x + (t3 : Int) - 1) < (R : Int) := by
      rcases zRa_rng (R := R) t (c x + (t3 : Int) - 1) hD with z | ⟨z1, z2, z3⟩
      · omega
      · exact z2
    rw [a1 x hx h3 h0, b1 x hx h3 h0 hl]
  · rw [a2 j (fun x hx h3 h0 z => q ⟨x, hx, h3, h0, z⟩), b2 j (fun x hx h3 h0 _ z => q ⟨x, hx, h3, h0, z⟩)]
end LPURE
section LPURE2
variable {n : Nat} {rc : Nat → zRec} {st : Nat → Nat}
theorem place_wait (gd : zGd n rc st) {x y : Nat} (hx : x < n) (hy : y < n) (kx : (rc x).1 = 3) (ky : (rc y).1 = 3) (ea : rAr (rc x) = rAr (rc y)) {i d : Nat} (hd : zUon x y ≤ d) (hid : i + d < st 8) (hm : rSt (rc x) * (i : Int) + rSh (rc x) = rSt (rc y) * ((i + d : Nat) : Int) + rSh (rc y)) : ∃ j, j < (zWL n rc st).length ∧ wF (zWL n rc st) j = x ∧ wT (zWL n rc st) j = y ∧ wO (zWL n rc st) j ≤ d ∧ 1 ≤ wD (zWL n rc st) j := by
  obtain ⟨h0, h1, h2, h3, h4⟩ := gd
  have okx := h2 x hx
  have oky := h2 y hy
  have tx : (rc x).2.2.1 = -1 := okx.2.1 kx
  have nus : ¬ zUsX rc x y = true := by
    unfold zUsX
    rw [tx, decide_eq_false (by decide)]
    exact fun z => by cases z
  have ax := zRec_pl okx (Or.inr kx) (n := 0) (by omega)
  have ay := zRec_pl oky (Or.inr ky) (n := 0) (by omega)
  have hpo : zPo (st 8) rc x y = zOv (st 8) (rSt (rc x)) (rSh (rc x)) (rSt (rc y)) (rSh (rc y)) (zUon x y) := by
    unfold zPo
    have z1 : ¬ (rc x).2.2.2.1 < 0 := by
      rw [ax.2.1, show (0 : Int32) = nI 0 from rfl, nI_ltI (by omega) (by omega)]
      exact Nat.not_lt_zero _
    have z2 : (rc x).2.2.2.1 = (rc y).2.2.2.1 := by rw [ax.2.1, ay.2.1, ea]
    rw [if_pos ⟨z1, z2, Or.inl kx⟩]
  have his := zOv_is (st 8) (rSt (rc x)) (rSh (rc x)) (rSt (rc y)) (rSh (rc y)) (zUon x y)
  rw [← hpo] at his
  rcases his with ⟨_, no⟩ | ⟨d0, e0, l0, m0, le0⟩
  · exact absurd ⟨i, by omega, hid, hm⟩ (no d hd)
  · have hd0 := le0 d hd ⟨i, by omega, hid, hm⟩
    have hin : (x, y, d0, 1) ∈ zPair (st 8) rc st x y := by
      unfold zPair
      rw [if_neg (fun z => nus z.1), if_neg nus, List.nil_append, e0, if_pos (by omega)]
      unfold zPd
      rw [if_pos kx, if_pos ky, show ((d0 : Nat) : Int).toNat = d0 by omega]
      exact List.mem_singleton.mpr rfl
    have h3 := zWx_use (n := n) n x hx (zWy_use n y hy hin)
    obtain ⟨j, hj, e⟩ := List.getElem_of_mem h3
    have hg : (zWL n rc st)[j]? = some (x, y, d0, 1) := by
      unfold zWL
      rw [List.getElem?_eq_getElem hj, e]
    obtain ⟨w1, w2, w3, w4⟩ := wG' hg
    exact ⟨j, hj, w1, w2, by rw [w3]; exact hd0, by rw [w4]; exact Nat.le_refl _⟩
theorem zNC_ok (gd : zGd n rc st) {D : Nat} (hD : 1 ≤ D) {c : Nat → Int} (hw : ∀ i, i < (zWL n rc st).length → sBound D (wF (zWL n rc st)) (wO (zWL n rc st)) (wD (zWL n rc st)) c i ≤ c (wT (zWL n rc st) i)) (t : Int) : zNC n D (st 8) rc c (st 3) t := by
  have h8 := gd.2.2.2.2 8 (by omega)
  -- one after the other
  have one : ∀ x x' (i d : Nat), x < n → x' < n → (rc x).1 = 3 → (rc x').1 = 3 → i + d < st 8 → zUon x x' ≤ d → zCx (rc x) i = zCx (rc x') (i + d) → c x = c x' + (d : Int) * (D : Int) → False := by
    intro x x' i d hx hx' kx kx' hid hd he hc
    obtain ⟨a1, a2, a3, a4, a5, a6, a7⟩ := zRec_pl (gd.2.2.1 x hx) (Or.inr kx) (n := i) (by omega)
    obtain ⟨b1, b2, b3, b4, b5, b6, b7⟩ := zRec_pl (gd.2.2.1 x' hx') (Or.inr kx') (n := i + d) (by omega)
    rw [he] at a4
    obtain ⟨j, j1, j2, j3, j4, j5⟩ := place_wait gd hx hx' kx kx' (by omega) hd hid (by omega)
    have := hw j j1
    unfold sBound at this
    rw [j2, j3] at this
    have m : (wO (zWL n rc st) j : Int) * (D : Int) ≤ (d : Int) * (D : Int) := Int.mul_le_mul_of_nonneg_right (by omega) (by omega)
    omega
  intro x x' hx hx' kx kx' r0 r0' e
  rcases zRa_rng (R := st 8) t (c x + (st 3 : Int) - 1) hD with z | ⟨z1, z2, z3⟩
  · omega
  rcases zRa_rng (R := st 8) t (c x' + (st 3 : Int) - 1) hD with z | ⟨y1, y2, y3⟩
  · omega
  generalize hi : zRa D (st 8) t (c x + (st 3 : Int) - 1) = i at *
  generalize hi' : zRa D (st 8) t (c x' + (st 3 : Int) - 1) = i' at *
  by_cases q : x = x'
  · exact q
  exfalso
  rcases Int.lt_trichotomy i i' with o | o | o
  · refine one x x' i.toNat (i' - i).toNat hx hx' kx kx' (by omega) (by unfold zUon; split <;> omega) (by rw [show i.toNat + (i' - i).toNat = i'.toNat by omega]; exact e) ?_
    rw [show (((i' - i).toNat : Nat) : Int) = i' - i by omega, Int.sub_mul]
    omega
  · subst o
    by_cases q2 : x < x'
    · refine one x x' i.toNat 0 hx hx' kx kx' (by omega) (by unfold zUon; rw [if_pos q2]; omega) e ?_
      rw [show ((0 : Nat) : Int) = 0 from rfl, Int.zero_mul]
      omega
    · refine one x' x i.toNat 0 hx' hx kx' kx (by omega) (by unfold zUon; rw [if_pos (by omega)]; omega) e.symm ?_
      rw [show ((0 : Nat) : Int) = 0 from rfl, Int.zero_mul]
      omega
  · refine one x' x i'.toNat (i - i').toNat hx' hx kx' kx (by omega) (by unfold zUon; split <;> omega) (by rw [show i'.toNat + (i - i').toNat = i.toNat by omega]; exact e.symm) ?_
    rw [show (((i - i').toNat : Nat) : Int) = i - i' by omega, Int.sub_mul]
    omega
end LPURE2
