-- needs: 50
/-! LONGEST WAYS, by all rows between, one after the other -/
abbrev fwL := Nat → Nat → Option Int
def fset (M : fwL) (x y : Nat) (v : Option Int) : fwL := fun a b => if a = x ∧ b = y then v else M a b
theorem fset_self (M : fwL) (x y : Nat) (v : Option Int) : fset M x y v x y = v := if_pos ⟨rfl, rfl⟩
theorem fset_ne (M : fwL) {x y a b : Nat} (v : Option Int) (h : ¬ (a = x ∧ b = y)) : fset M x y v a b = M a b := if_neg h
/-- the greater, if there is one -/
def fmx (c : Option Int) (v : Int) : Int := match c with
  | none => v
  | some c => if c < v then v else c
theorem fmx_ge (c : Option Int) (v : Int) : v ≤ fmx c v ∧ (∀ d, c = some d → d ≤ fmx c v) := by
  cases c with
  | none => exact ⟨Int.le_refl _, fun d h => by cases h⟩
  | some c =>
    unfold fmx
    refine ⟨by simp only; split <;> omega, fun d h => ?_⟩
    injection h with h
    subst h
    simp only
    split <;> omega
theorem fmx_or (c : Option Int) (v : Int) : fmx c v = v ∨ ∃ d, c = some d ∧ fmx c v = d ∧ v ≤ d := by
  cases c with
  | none => exact Or.inl rfl
  | some c =>
    unfold fmx
    simp only
    by_cases q : c < v
    · exact Or.inl (by rw [if_pos q])
    · exact Or.inr ⟨c, rfl, by rw [if_neg q], by omega⟩
section FW
variable (n : Nat)
/-- one row of a step, place after place -/
def fwY (M : fwL) (m x : Nat) : Nat → fwL
  | 0 => M
  | y + 1 => match fwY M m x y x m, fwY M m x y m y with
    | some a, some b => fset (fwY M m x y) x y (some (fmx (fwY M m x y x y) (a + b)))
    | _, _ => fwY M m x y
/-- all rows of a step; none: a circle was found -/
def fwX (L : fwL) (m : Nat) : Nat → Option fwL
  | 0 => some L
  | x + 1 => match fwX L m x with
    | none => none
    | some M => match M x m with
      | none => some M
      | some _ => match fwY M m x n x x with
        | none => some (fwY M m x n)
        | some d => if 0 < d then none else some (fwY M m x n)
def fwM (L : fwL) : Nat → Option fwL
  | 0 => some L
  | m + 1 => match fwM L m with
    | none => none
    | some M => fwX n M m n
/-- all at once -/
def fwP (L : fwL) (m : Nat) : fwL := fun x y => match L x m, L m y with
  | some a, some b => some (fmx (L x y) (a + b))
  | _, _ => L x y
end FW
section FWT
variable {n k : Nat} {fr to : Nat → Nat} {w : Nat → Int}
def fwSound (k : Nat) (fr to : Nat → Nat) (w : Nat → Int) (M : fwL) : Prop := ∀ h, bfOk k fr to w h → ∀ x y v, M x y = some v → h y + v ≤ h x
def fwEdge (k : Nat) (fr to : Nat → Nat) (w : Nat → Int) (M : fwL) : Prop := ∀ i, i < k → ∃ v, M (fr i) (to i) = some v ∧ w i ≤ v
def fwClo (M : fwL) (j : Nat) : Prop := ∀ u, u < j → ∀ x y a b, M x u = some a → M u y = some b → ∃ c, M x y = some c ∧ a + b ≤ c
def fwCnt (s : Nat → Bool) : Nat → Nat
  | 0 => 0
  | j + 1 => fwCnt s j + (if s j then 1 else 0)
def fwWit (M : fwL) (j : Nat) : Prop := ∀ x y v, M x y = some v → ∃ s : Nat → Bool, (∀ u, s u = true → u < j ∧ ∃ a b, M x u = some a ∧ M u y = some b ∧ v ≤ a + b) ∧ -64020 * (1 + (fwCnt s j : Int)) ≤ v ∧ v ≤ 20 * (1 + (fwCnt s j : Int))
def fwBd (K : Int) (M : fwL) : Prop := ∀ x y v, M x y = some v → -K ≤ v ∧ v ≤ K
theorem fwCnt_le (s : Nat → Bool) : ∀ j, fwCnt s j ≤ j
  | 0 => Nat.le_refl _
  | j + 1 => by
    unfold fwCnt
    have := fwCnt_le s j
    split <;> omega
theorem fwWit.bd {M : fwL} {j : Nat} (h : fwWit M j) (hj : j ≤ 48) : fwBd 3200000 M := by
  intro x y v hv
  obtain ⟨s, -, h1, h2⟩ := h x y v hv
  have := fwCnt_le s j
  omega
theorem fwCnt_or {s t : Nat → Bool} (hd : ∀ u, s u = true → t u = true → False) (m : Nat) : ∀ j, j ≤ m → fwCnt (fun u => decide (u = m) || s u || t u) j = fwCnt s j + fwCnt t j
  | 0, _ => rfl
  | j + 1, hj => by
    have ih := fwCnt_or hd m j (by omega)
    unfold fwCnt
    rw [ih]
    have e : decide (j = m) = false := decide_eq_false (by omega)
    rw [e]
    cases hs : s j <;> cases ht : t j <;> simp
    · omega
    · omega
    · exact absurd ht (fun z => hd j hs z)
theorem fwP_ge {L : fwL} {m x y : Nat} {v : Int} (h : L x y = some v) : ∃ v', fwP L m x y = some v' ∧ v ≤ v' := by
  unfold fwP
  cases hx : L x m with
  | none => exact ⟨v, h, Int.le_refl _⟩
  | some a =>
    cases hy : L m y with
    | none => exact ⟨v, h, Int.le_refl _⟩
    | some b => exact ⟨_, rfl, (fmx_ge _ _).2 v h⟩
theorem fwP_via {L : fwL} {m x y : Nat} {a b : Int} (h1 : L x m = some a) (h2 : L m y = some b) : ∃ v', fwP L m x y = some v' ∧ a + b ≤ v' := by
  unfold fwP
  rw [h1, h2]
  exact ⟨_, rfl, (fmx_ge _ _).1⟩
theorem fwP_or {L : fwL} {m x y : Nat} {v : Int} (h : fwP L m x y = some v) : L x y = some v ∨ ∃ a b, L x m = some a ∧ L m y = some b ∧ v = a + b ∧ (∀ d, L x y = some d → d < v) := by
  unfold fwP at h
  cases hx : L x m with
  | none =>
    rw [hx] at h
    exact Or.inl h
  | some a =>
    cases hy : L m y with
    | none =>
      rw [hx, hy] at h
      exact Or.inl h
    | some b =>
      rw [hx, hy] at h
      simp only at h
      injection h with h
      cases hz : L x y with
      | none =>
        rw [hz] at h
        exact Or.inr ⟨a, b, rfl, rfl, h.symm, fun d hd => by cases hd⟩
      | some c =>
        rw [hz] at h
        unfold fmx at h
        simp only at h
        by_cases q : c < a + b
        · rw [if_pos q] at h
          exact Or.inr ⟨a, b, rfl, rfl, h.symm, fun d hd => by injection hd with hd; omega⟩
        · rw [if_neg q] at h
          exact Or.inl (by rw [h])
def fwGood (L : fwL) (m : Nat) : Prop := ∀ v a b, L v m = some a → L m v = some b → a + b ≤ 0
theorem fwP_sound {L : fwL} {m : Nat} (h : fwSound k fr to w L) : fwSound k fr to w (fwP L m) := by
  intro h0 ok x y v hv
  rcases fwP_or hv with hv | ⟨a, b, h1, h2, rfl, -⟩
  · exact h h0 ok x y v hv
  · have := h h0 ok x m a h1
    have := h h0 ok m y b h2
    omega
theorem fwP_edge {L : fwL} {m : Nat} (h : fwEdge k fr to w L) : fwEdge k fr to w (fwP L m) := by
  intro i hi
  obtain ⟨v, h1, h2⟩ := h i hi
  obtain ⟨v', h3, h4⟩ := fwP_ge (m := m) h1
  exact ⟨v', h3, by omega⟩
theorem fwP_clo {L : fwL} {m : Nat} (h : fwClo L m) (g : fwGood L m) : fwClo (fwP L m) (m + 1) := by
  intro u hu x y a b ha hb
  by_cases e : u = m
  · subst e
    have mm : ∀ d, L u u = some d → d ≤ 0 := fun d hd => by have := g u d d hd hd; omega
    -- column and row stay
    have ha' : L x u = some a := by
      rcases fwP_or ha with q | ⟨p, q, h1, h2, e, h3⟩
      · exact q
      · have := mm q h2
        have := h3 p h1
        omega
    have hb' : L u y = some b := by
      rcases fwP_or hb with q | ⟨p, q, h1, h2, e, h3⟩
      · exact q
      · have := mm p h1
        have := h3 q h2
        omega
    exact fwP_via ha' hb'
  · have hu' : u < m := by omega
    rcases fwP_or ha with ha | ⟨p1, q1, a1, a2, rfl, -⟩
    · rcases fwP_or hb with hb | ⟨p2, q2, b1, b2, rfl, -⟩
      · obtain ⟨c, h1, h2⟩ := h u hu' x y a b ha hb
        obtain ⟨c', h3, h4⟩ := fwP_ge (m := m) h1
        exact ⟨c', h3, by omega⟩
      · obtain ⟨c, h1, h2⟩ := h u hu' x m a p2 ha b1
        obtain ⟨c', h3, h4⟩ := fwP_via h1 b2
        exact ⟨c', h3, by omega⟩
    · rcases fwP_or hb with hb | ⟨p2, q2, b1, b2, rfl, -⟩
      · obtain ⟨c, h1, h2⟩ := h u hu' m y q1 b a2 hb
        obtain ⟨c', h3, h4⟩ := fwP_via a1 h1
        exact ⟨c', h3, by omega⟩
      · obtain ⟨c', h3, h4⟩ := fwP_via a1 b2
        have := g u p2 q1 b1 a2
        exact ⟨c', h3, by omega⟩
theorem fwP_wit {L : fwL} {m : Nat} (h : fwClo L m) (g : fwGood L m) (hw : fwWit L m) : fwWit (fwP L m) (m + 1) := by
  intro x y v hv
  rcases fwP_or hv with hv | ⟨a, b, h1, h2, rfl, h3⟩
  · obtain ⟨s, s1, s2, s3⟩ := hw x y v hv
    have sm : s m = false := by
      cases hs : s m
      · rfl
      · exact absurd (s1 m hs).1 (by omega)
    refine ⟨s, fun u hu => ?_, ?_, ?_⟩
    · obtain ⟨u1, p, q, u2, u3, u4⟩ := s1 u hu
      obtain ⟨p', u5, u6⟩ := fwP_ge (m := m) u2
      obtain ⟨q', u7, u8⟩ := fwP_ge (m := m) u3
      exact ⟨by omega, p', q', u5, u7, by omega⟩
    · unfold fwCnt
      rw [sm]
      simp
      omega
    · unfold fwCnt
      rw [sm]
      simp
      omega
  · obtain ⟨s, s1, s2, s3⟩ := hw x m a h1
    obtain ⟨t, t1, t2, t3⟩ := hw m y b h2
    have disj : ∀ u, s u = true → t u = true → False := by
      intro u hs ht
      obtain ⟨u1, p, q, u2, u3, u4⟩ := s1 u hs
      obtain ⟨-, p', q', v2, v3, v4⟩ := t1 u ht
      obtain ⟨c, c1, c2⟩ := h u u1 x y p q' u2 v3
      have := g u q p' u3 v2
      have := h3 c c1
      omega
    refine ⟨fun u => decide (u = m) || s u || t u, fun u hu => ?_, ?_⟩
    · simp only [Bool.or_eq_true, decide_eq_true_eq] at hu
      rcases hu with (e | hu) | hu
      · subst e
        obtain ⟨p', u5, u6⟩ := fwP_ge (m := u) h1
        obtain ⟨q', u7, u8⟩ := fwP_ge (m := u) h2
        exact ⟨by omega, p', q', u5, u7, by omega⟩
      · obtain ⟨u1, p, q, u2, u3, u4⟩ := s1 u hu
        obtain ⟨p', u5, u6⟩ := fwP_ge (m := m) u2
        obtain ⟨q', u7, u8⟩ := fwP_via u3 h2
        exact ⟨by omega, p', q', u5, u7, by omega⟩
      · obtain ⟨u1, p, q, u2, u3, u4⟩ := t1 u hu
        obtain ⟨p', u5, u6⟩ := fwP_via h1 u2
        obtain ⟨q', u7, u8⟩ := fwP_ge (m := m) u3
        exact ⟨by omega, p', q', u5, u7, by omega⟩
    · have e := fwCnt_or disj m m (Nat.le_refl _)
      have e2 : fwCnt (fun u => decide (u = m) || s u || t u) (m + 1) = fwCnt s m + fwCnt t m + 1 := by
        show fwCnt _ m + _ = _
        rw [e]
        simp
      rw [e2]
      constructor <;> (push_cast; omega)
/-- what a row's step leaves, in any case -/
theorem fwY_any (M : fwL) (m x : Nat) (hs : fwSound k fr to w M) {U : Int} (hU : 0 ≤ U) (hx : ∀ y v, M x y = some v → -U ≤ v ∧ v ≤ U) (hm : ∀ y v, M m y = some v → -U ≤ v ∧ v ≤ U) : ∀ y, fwSound k fr to w (fwY M m x y) ∧ (∀ u z, u ≠ x → fwY M m x y u z = M u z) ∧ (∀ z, y ≤ z → (z ≠ m → fwY M m x y x z = M x z)) ∧ (y ≤ m → fwY M m x y x m = M x m) ∧ (∀ v, fwY M m x y x m = some v → -(2 * U) ≤ v ∧ v ≤ 2 * U) ∧ (∀ z v, fwY M m x y x z = some v → -(3 * U) ≤ v ∧ v ≤ 3 * U) ∧ (∀ z v, M x z = some v → ∃ v', fwY M m x y x z = some v' ∧ v ≤ v')
  | 0 => ⟨hs, fun _ _ _ => rfl, fun _ _ _ => rfl, fun _ => rfl, fun v hv => by have := hx m v hv; omega, fun z v hv => by have := hx z v hv; omega, fun z v hv => ⟨v, hv, Int.le_refl _⟩⟩
  | y + 1 => by
    obtain ⟨i1, i2, i3, i4, i5, i6, i7⟩ := fwY_any M m x hs hU hx hm y
    unfold fwY
    generalize fwY M m x y = N at i1 i2 i3 i4 i5 i6 i7
    cases ha : N x m with
    | none => exact ⟨i1, i2, fun z hz hzm => i3 z (by omega) hzm, fun hz => i4 (by omega), fun v hv => i5 v hv, i6, i7⟩
    | some a =>
      cases hb : N m y with
      | none => exact ⟨i1, i2, fun z hz hzm => i3 z (by omega) hzm, fun hz => i4 (by omega), i5, i6, i7⟩
      | some b =>
        simp only
        have ba := i5 a ha
        -- the other's entry is as it was
        have bb : (-U ≤ b ∧ b ≤ U) ∨ (x = m ∧ y = m ∧ b = a) := by
          by_cases e : m = x
          · subst e
            by_cases e2 : y = m
            · subst e2
              rw [ha] at hb
              injection hb with hb
              exact Or.inr ⟨rfl, rfl, hb.symm⟩
            · rw [i3 y (Nat.le_refl _) e2] at hb
              exact Or.inl (hm y b hb)
          · rw [i2 m y e] at hb
            exact Or.inl (hm y b hb)
        have ay : y = m → -U ≤ a ∧ a ≤ U := by
          intro e
          rw [i4 (by omega)] at ha
          exact hx m a ha
        have hle : ∀ c, N x y = some c → -(3 * U) ≤ c ∧ c ≤ 3 * U := fun c hc => i6 y c hc
        have bnd : (-(3 * U) ≤ fmx (N x y) (a + b) ∧ fmx (N x y) (a + b) ≤ 3 * U) ∧ (y = m → -(2 * U) ≤ fmx (N x y) (a + b) ∧ fmx (N x y) (a + b) ≤ 2 * U) := by
          have sum : (-(3 * U) ≤ a + b ∧ a + b ≤ 3 * U) ∧ (y = m → -(2 * U) ≤ a + b ∧ a + b ≤ 2 * U) := by
            rcases bb with bb | ⟨e1, e2, e3⟩
            · exact ⟨by omega, fun e => by have := ay e; omega⟩
            · have := ay e2
              exact ⟨by omega, fun _ => by omega⟩
          rcases fmx_or (N x y) (a + b) with e | ⟨d, hd, e, -⟩
          · rw [e]
            exact sum
          · rw [e]
            refine ⟨hle d hd, fun e2 => ?_⟩
            subst e2
            exact i5 d hd
        refine ⟨?_, ?_, ?_, ?_, ?_, ?_, ?_⟩
        · intro h0 ok u z v hv
          by_cases e : u = x ∧ z = y
          · obtain ⟨rfl, rfl⟩ := e
            rw [fset_self] at hv
            injection hv with hv
            have g1 := i1 h0 ok u m a ha
            have g2 := i1 h0 ok m z b hb
            rcases fmx_or (N u z) (a + b) with e | ⟨d, hd, e, -⟩
            · omega
            · have := i1 h0 ok u z d hd
              omega
          · rw [fset_ne _ _ e] at hv
            exact i1 h0 ok u z v hv
        · intro u z hu
          rw [fset_ne _ _ (fun q => hu q.1)]
          exact i2 u z hu
        · intro z hz hzm
          rw [fset_ne _ _ (fun q => by omega)]
          exact i3 z (by omega) hzm
        · intro hz
          rw [fset_ne _ _ (fun q => by omega)]
          exact i4 (by omega)
        · intro v hv
          by_cases e : y = m
          · subst e
            rw [fset_self] at hv
            injection hv with hv
            rw [← hv]
            exact bnd.2 rfl
          · rw [fset_ne _ _ (fun q => e q.2.symm)] at hv
            exact i5 v hv
        · intro z v hv
          by_cases e : z = y
          · subst e
            rw [fset_self] at hv
            injection hv with hv
            rw [← hv]
            exact bnd.1
          · rw [fset_ne _ _ (fun q => e q.2)] at hv
            exact i6 z v hv
        · intro z v hv
          obtain ⟨v', h1, h2⟩ := i7 z v hv
          by_cases e : z = y
          · subst e
            rw [fset_self]
            exact ⟨_, rfl, Int.le_trans h2 ((fmx_ge _ _).2 v' h1)⟩
          · rw [fset_ne _ _ (fun q => e q.2)]
            exact ⟨v', h1, h2⟩
/-- with no circle at m: as if at once -/
theorem fwY_eq (L M : fwL) (m x : Nat) (hmm : ∀ d, L m m = some d → d ≤ 0) (hx : ∀ y, M x y = L x y) (hm : ∀ y, M m y = L m y) : ∀ y, (∀ u z, u ≠ x → fwY M m x y u z = M u z) ∧ (∀ z, z < y → fwY M m x y x z = fwP L m x z) ∧ (∀ z, y ≤ z → fwY M m x y x z = L x z)
  | 0 => ⟨fun _ _ _ => rfl, fun z hz => absurd hz (by omega), fun z _ => hx z⟩
  | y + 1 => by
    obtain ⟨i1, i2, i3⟩ := fwY_eq L M m x hmm hx hm y
    have col : fwP L m x m = L x m := by
      cases hz : fwP L m x m with
      | none =>
        cases hq : L x m with
        | none => rfl
        | some a =>
          obtain ⟨v', h1, -⟩ := fwP_ge (m := m) hq
          rw [hz] at h1
          cases h1
      | some v =>
        rcases fwP_or hz with q | ⟨a, b, h1, h2, e, h3⟩
        · exact q.symm
        · have := hmm b h2
          have := h3 a h1
          omega
    have rowm : x = m → ∀ z, fwP L m m z = L m z := by
      intro _ z
      cases hz : fwP L m m z with
      | none =>
        cases hq : L m z with
        | none => rfl
        | some a =>
          obtain ⟨v', h1, -⟩ := fwP_ge (m := m) hq
          rw [hz] at h1
          cases h1
      | some v =>
        rcases fwP_or hz with q | ⟨a, b, h1, h2, e, h3⟩
        · exact q.symm
        · have := hmm a h1
          have := h3 b h2
          omega
    have exm : fwY M m x y x m = L x m := by
      rcases Nat.lt_or_ge m y with q | q
      · rw [i2 m q, col]
      · exact i3 m q
    have emy : fwY M m x y m y = L m y := by
      by_cases e : m = x
      · subst e
        exact i3 y (Nat.le_refl _)
      · rw [i1 m y e, hm y]
    have exy : fwY M m x y x y = L x y := i3 y (Nat.le_refl _)
    have ep : fwP L m x y = (match L x m, L m y with
      | some a, some b => some (fmx (L x y) (a + b))
      | _, _ => L x y) := rfl
    unfold fwY
    rw [exm, emy]
    cases ha : L x m with
    | none =>
      rw [ha] at ep
      refine ⟨i1, fun z hz => ?_, fun z hz => i3 z (by omega)⟩
      by_cases e : z = y
      · subst e
        rw [ep]
        exact exy
      · exact i2 z (by omega)
    | some a =>
      cases hb : L m y with
      | none =>
        rw [ha, hb] at ep
        refine ⟨i1, fun z hz => ?_, fun z hz => i3 z (by omega)⟩
        by_cases e : z = y
        · subst e
          rw [ep]
          exact exy
        · exact i2 z (by omega)
      | some b =>
        rw [ha, hb] at ep
        simp only at ep ⊢
        refine ⟨fun u z hu => ?_, fun z hz => ?_, fun z hz => ?_⟩
        · rw [fset_ne _ _ (fun q => hu q.1)]
          exact i1 u z hu
        · by_cases e : z = y
          · subst e
            rw [fset_self, ep, exy]
          · rw [fset_ne _ _ (fun q => e q.2)]
            exact i2 z (by omega)
        · rw [fset_ne _ _ (fun q => by omega)]
          exact i3 z (by omega)
/-- a circle at a row -/
theorem fwNo {M : fwL} (h : fwSound k fr to w M) {x : Nat} {d : Int} (hd : M x x = some d) (h0 : 0 < d) : ¬ ∃ f, bfOk k fr to w f := by
  rintro ⟨f, ok⟩
  have := h f ok x x d hd
  omega
/-- all that a step keeps -/
def fwInv (k : Nat) (fr to : Nat → Nat) (w : Nat → Int) (M : fwL) (j : Nat) : Prop := fwSound k fr to w M ∧ fwEdge k fr to w M ∧ fwClo M j ∧ fwWit M j
/-- in the midst of a step -/
def fwMid (k n : Nat) (fr to : Nat → Nat) (w : Nat → Int) (L : fwL) (m x : Nat) (M : fwL) : Prop := fwSound k fr to w M ∧ fwBd 9600000 M ∧ (∀ u y, x ≤ u → M u y = L u y) ∧ ((∀ d, L m m = some d → d ≤ 0) → (∀ u y, u < x → M u y = fwP L m u y) ∧ (∀ v a b, v < x → L v m = some a → L m v = some b → a + b ≤ 0)) ∧ ((∃ d, L m m = some d ∧ 0 < d) → x ≤ m)
theorem fwX_mid (L : fwL) {m : Nat} (hm : m < n) (hn : n ≤ 48) (hI : fwInv k fr to w L m) (hb : ∀ x y, n ≤ x ∨ n ≤ y → L x y = none) : ∀ x, x ≤ n → (fwX n L m x = none → ¬ ∃ f, bfOk k fr to w f) ∧ (∀ M, fwX n L m x = some M → fwMid k n fr to w L m x M)
  | 0, _ => by
    refine ⟨fun h => absurd h (by unfold fwX; simp), fun M h => ?_⟩
    have h' : some L = some M := h
    cases h'
    have b := hI.2.2.2.bd (by omega)
    exact ⟨hI.1, fun x y v hv => by have := b x y v hv; omega, fun _ _ _ => rfl, fun _ => ⟨fun u y hu => absurd hu (by omega), fun v a b hv => absurd hv (by omega)⟩, fun _ => by omega⟩
  | x + 1, hx => by
    obtain ⟨i1, i2⟩ := fwX_mid L hm hn hI hb x (by omega)
    have bL := hI.2.2.2.bd (show m ≤ 48 by omega)
    cases hz : fwX n L m x with
    | none =>
      refine ⟨fun _ => i1 hz, fun M h => ?_⟩
      unfold fwX at h
      rw [hz] at h
      cases h
    | some M =>
      obtain ⟨s1, s2, s3, s4, s5⟩ := i2 M hz
      have rowm : ∀ y, M m y = L m y := by
        intro y
        rcases Nat.lt_or_ge m x with q | q
        · have hmm : ∀ d, L m m = some d → d ≤ 0 := fun d hd => by
            rcases Int.lt_or_le 0 d with q2 | q2
            · have := s5 ⟨d, hd, q2⟩
              omega
            · exact q2
          rw [(s4 hmm).1 m y q]
          cases hq : fwP L m m y with
          | none =>
            cases hq2 : L m y with
            | none => rfl
            | some a =>
              obtain ⟨v', h1, -⟩ := fwP_ge (m := m) hq2
              rw [hq] at h1
              cases h1
          | some v =>
            rcases fwP_or hq with q2 | ⟨a, b, h1, h2, e, h3⟩
            · exact q2.symm
            · have := hmm a h1
              have := h3 b h2
              omega
        · exact s3 m y q
      have rowx : ∀ y, M x y = L x y := fun y => s3 x y (Nat.le_refl _)
      unfold fwX
      rw [hz]
      simp only
      cases ha : M x m with
      | none =>
        refine ⟨fun h => (by cases h), fun M' h => ?_⟩
        injection h with h
        subst h
        have hxm : L x m = none := by rw [← rowx]; exact ha
        refine ⟨s1, s2, fun u y hu => s3 u y (by omega), fun hmm => ⟨fun u y hu => ?_, fun v a b hv h1 h2 => ?_⟩, fun ⟨d, h1, h2⟩ => ?_⟩
        · by_cases e : u = x
          · subst e
            rw [rowx]
            unfold fwP
            rw [hxm]
          · exact (s4 hmm).1 u y (by omega)
        · by_cases e : v = x
          · subst e
            rw [hxm] at h1
            cases h1
          · exact (s4 hmm).2 v a b (by omega) h1 h2
        · have := s5 ⟨d, h1, h2⟩
          by_cases e : x = m
          · subst e
            rw [hxm] at h1
            cases h1
          · omega
      | some a0 =>
        simp only
        have any := fwY_any M m x s1 (U := 3200000) (by omega) (fun y v hv => by rw [rowx] at hv; exact bL x y v hv) (fun y v hv => by rw [rowm] at hv; exact bL m y v hv) n
        obtain ⟨t1, t2, t3, t4, t5, t6, t7⟩ := any
        -- what stays outside
        have mid : (∀ d, fwY M m x n x x = some d → d ≤ 0) → fwMid k n fr to w L m (x + 1) (fwY M m x n) := by
          intro hd
          refine ⟨t1, fun u y v hv => ?_, fun u y hu => ?_, fun hmm => ?_, fun ⟨d, h1, h2⟩ => ?_⟩
          · by_cases e : u = x
            · subst e
              have := t6 y v hv
              omega
            · rw [t2 u y e] at hv
              exact s2 u y v hv
          · rw [t2 u y (by omega)]
            exact s3 u y (by omega)
          · obtain ⟨e1, e2, e3⟩ := fwY_eq L M m x hmm rowx rowm n
            have rowe : ∀ y, fwY M m x n x y = fwP L m x y := by
              intro y
              rcases Nat.lt_or_ge y n with q | q
              · exact e2 y q
              · rw [e3 y q, hb x y (Or.inr q)]
                unfold fwP
                cases L x m with
                | none => exact (hb x y (Or.inr q)).symm
                | some a =>
                  rw [hb m y (Or.inr q)]
                  exact (hb x y (Or.inr q)).symm
            refine ⟨fun u y hu => ?_, fun v a b hv h1 h2 => ?_⟩
            · by_cases e : u = x
              · subst e
                exact rowe y
              · rw [t2 u y e]
                exact (s4 hmm).1 u y (by omega)
            · by_cases e : v = x
              · subst e
                obtain ⟨v', g1, g2⟩ := fwP_via h1 h2
                rw [← rowe] at g1
                have := hd v' g1
                omega
              · exact (s4 hmm).2 v a b (by omega) h1 h2
          · have := s5 ⟨d, h1, h2⟩
            by_cases e : x = m
            · subst e
              obtain ⟨v', g1, g2⟩ := t7 x d (by rw [rowx]; exact h1)
              have := hd v' g1
              omega
            · omega
        cases hd : fwY M m x n x x with
        | none =>
          refine ⟨fun h => (by cases h), fun M' h => ?_⟩
          injection h with h
          subst h
          exact mid (fun d h => by rw [hd] at h; cases h)
        | some d =>
          simp only
          by_cases q : 0 < d
          · rw [if_pos q]
            exact ⟨fun _ => fwNo t1 hd q, fun M' h => by cases h⟩
          · rw [if_neg q]
            refine ⟨fun h => (by cases h), fun M' h => ?_⟩
            injection h with h
            subst h
            refine mid (fun d' h => ?_)
            rw [hd] at h
            injection h with h
            omega
/-- a step at its end -/
theorem fwX_end (L : fwL) {m : Nat} (hm : m < n) (hn : n ≤ 48) (hI : fwInv k fr to w L m) (hb : ∀ x y, n ≤ x ∨ n ≤ y → L x y = none) {M : fwL} (h : fwX n L m n = some M) : fwInv k fr to w M (m + 1) ∧ ∀ x y, n ≤ x ∨ n ≤ y → M x y = none := by
  obtain ⟨s1, s2, s3, s4, s5⟩ := (fwX_mid L hm hn hI hb n (Nat.le_refl _)).2 M h
  have hmm : ∀ d, L m m = some d → d ≤ 0 := fun d hd => by
    rcases Int.lt_or_le 0 d with q2 | q2
    · have := s5 ⟨d, hd, q2⟩
      omega
    · exact q2
  obtain ⟨e1, e2⟩ := s4 hmm
  have eM : M = fwP L m := by
    funext x y
    rcases Nat.lt_or_ge x n with q | q
    · exact e1 x y q
    · rw [s3 x y q]
      unfold fwP
      rw [hb x m (Or.inl q)]
  have good : fwGood L m := by
    intro v a b h1 h2
    rcases Nat.lt_or_ge v n with q | q
    · exact e2 v a b q h1 h2
    · rw [hb v m (Or.inl q)] at h1
      cases h1
  rw [eM]
  refine ⟨⟨fwP_sound hI.1, fwP_edge hI.2.1, fwP_clo hI.2.2.1 good, fwP_wit hI.2.2.1 good hI.2.2.2⟩, fun x y hxy => ?_⟩
  unfold fwP
  rcases hxy with q | q
  · rw [hb x m (Or.inl q)]
    exact hb x y (Or.inl q)
  · cases L x m with
    | none => exact hb x y (Or.inr q)
    | some a =>
      rw [hb m y (Or.inr q)]
      exact hb x y (Or.inr q)
/-- the longest way from a row -/
def fwH (M : fwL) (x : Nat) : Nat → Int
  | 0 => 0
  | y + 1 => match M x y with
    | none => fwH M x y
    | some v => if fwH M x y < v then v else fwH M x y
theorem fwH_ge (M : fwL) (x : Nat) : ∀ j, 0 ≤ fwH M x j ∧ ∀ y v, y < j → M x y = some v → v ≤ fwH M x j
  | 0 => ⟨Int.le_refl _, fun y v h => absurd h (by omega)⟩
  | j + 1 => by
    obtain ⟨i1, i2⟩ := fwH_ge M x j
    unfold fwH
    cases hz : M x j with
    | none =>
      refine ⟨i1, fun y v h1 h2 => ?_⟩
      by_cases e : y = j
      · subst e
        rw [hz] at h2
        cases h2
      · exact i2 y v (by omega) h2
    | some c =>
      simp only
      refine ⟨by split <;> omega, fun y v h1 h2 => ?_⟩
      by_cases e : y = j
      · subst e
        rw [hz] at h2
        injection h2 with h2
        split <;> omega
      · have := i2 y v (by omega) h2
        split <;> omega
theorem fwH_or (M : fwL) (x : Nat) : ∀ j, fwH M x j = 0 ∨ ∃ y v, y < j ∧ M x y = some v ∧ fwH M x j = v
  | 0 => Or.inl rfl
  | j + 1 => by
    unfold fwH
    cases hz : M x j with
    | none =>
      rcases fwH_or M x j with h | ⟨y, v, h1, h2, h3⟩
      · exact Or.inl h
      · exact Or.inr ⟨y, v, by omega, h2, h3⟩
    | some c =>
      simp only
      by_cases q : fwH M x j < c
      · rw [if_pos q]
        exact Or.inr ⟨j, c, by omega, hz, rfl⟩
      · rw [if_neg q]
        rcases fwH_or M x j with h | ⟨y, v, h1, h2, h3⟩
        · exact Or.inl h
        · exact Or.inr ⟨y, v, by omega, h2, h3⟩
theorem fw_yes {M : fwL} (hI : fwInv k fr to w M n) (ht : ∀ i, i < k → fr i < n ∧ to i < n) : ∃ f, bfOk k fr to w f := by
  refine ⟨fun x => fwH M x n, fun i hi => ?_⟩
  obtain ⟨v, h1, h2⟩ := hI.2.1 i hi
  obtain ⟨t1, t2⟩ := ht i hi
  have g := fwH_ge M (fr i) n
  show fwH M (to i) n + w i ≤ fwH M (fr i) n
  rcases fwH_or M (to i) n with e | ⟨y, u, y1, y2, e⟩
  · have := g.2 (to i) v t2 h1
    omega
  · obtain ⟨c, c1, c2⟩ := hI.2.2.1 (to i) t2 (fr i) y v u h1 y2
    have := g.2 y c y1 c1
    omega
theorem fwM_inv (L : fwL) (hn : n ≤ 48) (hI : fwInv k fr to w L 0) (hb : ∀ x y, n ≤ x ∨ n ≤ y → L x y = none) : ∀ m, m ≤ n → (fwM n L m = none → ¬ ∃ f, bfOk k fr to w f) ∧ (∀ M, fwM n L m = some M → fwInv k fr to w M m ∧ ∀ x y, n ≤ x ∨ n ≤ y → M x y = none)
  | 0, _ => by
    refine ⟨fun h => absurd h (by unfold fwM; simp), fun M h => ?_⟩
    have h' : some L = some M := h
    cases h'
    exact ⟨hI, hb⟩
  | m + 1, hm => by
    obtain ⟨i1, i2⟩ := fwM_inv L hn hI hb m (by omega)
    unfold fwM
    cases hz : fwM n L m with
    | none => exact ⟨fun _ => i1 hz, fun M h => by cases h⟩
    | some M =>
      obtain ⟨j1, j2⟩ := i2 M hz
      exact ⟨(fwX_mid M (by omega) hn j1 j2 n (Nat.le_refl _)).1, fun M' h => fwX_end M (by omega) hn j1 j2 h⟩
end FWT
