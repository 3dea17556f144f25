-- needs: 36 50
/-! the table once more, as the reference has it: rows that lose their cycles one by one -/
section TPURE
variable {n D : Nat} {kd st : Nat → Nat} {m : Nat} {fr to ov dl : Nat → Nat} {c lat : Nat → Int}
/-- the first group of x that has no room, of f from g on -/
def sFl (n D : Nat) (kd st : Nat → Nat) (c : Nat → Int) (x : Nat) (t : Int) : Nat → Nat → Int
  | 0, _ => -1
  | f + 1, g => if zGrp (kd x) g = true ∧ sFull n D kd st c g t = true then (g : Int) else sFl n D kd st c x t f (g + 1)
theorem sFl_room {x : Nat} {t : Int} : ∀ f g, sRoomF n D kd st c x t f g = true ↔ sFl n D kd st c x t f g = -1
  | 0, g => ⟨fun _ => rfl, fun _ => rfl⟩
  | f + 1, g => by
    unfold sRoomF sFl
    by_cases q : zGrp (kd x) g = true ∧ sFull n D kd st c g t = true
    · rw [if_pos q, if_pos q]
      exact ⟨fun h => (by cases h), fun h => by omega⟩
    · rw [if_neg q, if_neg q]
      exact sFl_room f (g + 1)
theorem sFl_rng {x : Nat} {t : Int} : ∀ f g, sFl n D kd st c x t f g = -1 ∨ ∃ g' : Nat, sFl n D kd st c x t f g = (g' : Int) ∧ g ≤ g' ∧ g' < g + f ∧ zGrp (kd x) g' = true ∧ sFull n D kd st c g' t = true ∧ ∀ g'', g ≤ g'' → g'' < g' → zGrp (kd x) g'' = true → sFull n D kd st c g'' t = false
  | 0, g => Or.inl rfl
  | f + 1, g => by
    unfold sFl
    by_cases q : zGrp (kd x) g = true ∧ sFull n D kd st c g t = true
    · rw [if_pos q]
      exact Or.inr ⟨g, rfl, Nat.le_refl _, by omega, q.1, q.2, fun g'' h1 h2 => absurd h1 (by omega)⟩
    · rw [if_neg q]
      rcases sFl_rng f (g + 1) with h | ⟨g', h1, h2, h3, h4, h5, h6⟩
      · exact Or.inl h
      · refine Or.inr ⟨g', h1, by omega, by omega, h4, h5, fun g'' q1 q2 q3 => ?_⟩
        by_cases e : g'' = g
        · subst e
          cases hz : sFull n D kd st c g'' t
          · rfl
          · exact absurd ⟨q3, hz⟩ q
        · exact h6 g'' (by omega) q2 q3
theorem sFl_none {x : Nat} {t : Int} : ∀ f g, sFl n D kd st c x t f g = -1 → ∀ g', g ≤ g' → g' < g + f → zGrp (kd x) g' = true → sFull n D kd st c g' t = false
  | 0, g, _, g', h1, h2, _ => absurd h2 (by omega)
  | f + 1, g, h, g', h1, h2, h3 => by
    unfold sFl at h
    by_cases q : zGrp (kd x) g = true ∧ sFull n D kd st c g t = true
    · rw [if_pos q] at h
      omega
    · rw [if_neg q] at h
      by_cases e : g' = g
      · subst e
        cases hz : sFull n D kd st c g' t
        · rfl
        · exact absurd ⟨h3, hz⟩ q
      · exact sFl_none f (g + 1) h g' (by omega) (by omega) h3
theorem sDropG_free {g : Nat} {t : Int} (h : sFull n D kd st c g t = false) : ∀ y, sDropG n D kd st g t y c = c
  | 0 => rfl
  | y + 1 => by
    unfold sDropG
    rw [if_neg (by rw [h]; decide)]
theorem sDropG_skip {g : Nat} {t : Int} {l : Nat} : ∀ k, (∀ y, l ≤ y → y < l + k → sAt D kd c g (sRest D t) y = false) → sDropG n D kd st g t (l + k) c = sDropG n D kd st g t l c
  | 0, _ => rfl
  | k + 1, h => by
    cases hz : sFull n D kd st c g t
    · rw [sDropG_free hz, sDropG_free hz]
    · show (if sFull n D kd st c g t = true then sDropG n D kd st g t (l + k) (if sAt D kd c g (sRest D t) (l + k) = true then iup c (l + k) (-1) else c) else c) = _
      rw [if_pos hz, if_neg (by rw [h (l + k) (by omega) (by omega)]; decide)]
      exact sDropG_skip k (fun y h1 h2 => h y h1 (by omega))
theorem sDropG_last {g : Nat} {t : Int} {l : Nat} (hl : l < n) (hf : sFull n D kd st c g t = true) (ha : sAt D kd c g (sRest D t) l = true) (ho : ∀ y, l < y → y < n → sAt D kd c g (sRest D t) y = false) : sDropG n D kd st g t n c = sDropG n D kd st g t n (iup c l (-1)) := by
  have e1 := sDropG_skip (n := n) (D := D) (kd := kd) (st := st) (c := c) (g := g) (t := t) (l := l + 1) (n - (l + 1)) (fun y h1 h2 => ho y (by omega) (by omega))
  have e2 := sDropG_skip (n := n) (D := D) (kd := kd) (st := st) (c := iup c l (-1)) (g := g) (t := t) (l := l) (n - l) (fun y h1 h2 => by
    by_cases e : y = l
    · subst e
      exact sAt_none D kd (iup_self c y (-1))
    · rw [sAt_ne D kd e]
      exact ho y (by omega) (by omega))
  rw [show l + 1 + (n - (l + 1)) = n by omega] at e1
  rw [show l + (n - l) = n by omega] at e2
  rw [e1, e2]
  show (if sFull n D kd st c g t = true then sDropG n D kd st g t l (if sAt D kd c g (sRest D t) l = true then iup c l (-1) else c) else c) = _
  rw [if_pos hf, if_pos ha]
theorem sMake_skip {x : Nat} {t : Int} : ∀ (k f g : Nat), k ≤ f → (∀ g', g ≤ g' → g' < g + k → zGrp (kd x) g' = true → sFull n D kd st c g' t = false) → sMake n D kd st x t f g c = sMake n D kd st x t (f - k) (g + k) c
  | 0, f, g, _, _ => rfl
  | k + 1, 0, g, hk, _ => absurd hk (by omega)
  | k + 1, f + 1, g, hk, h => by
    have e : (if zGrp (kd x) g = true then sDropG n D kd st g t n c else c) = c := by
      by_cases q : zGrp (kd x) g = true
      · rw [if_pos q, sDropG_free (h g (Nat.le_refl _) (by omega) q)]
      · rw [if_neg q]
    show sMake n D kd st x t f (g + 1) (if zGrp (kd x) g = true then sDropG n D kd st g t n c else c) = _
    rw [e, sMake_skip k f (g + 1) (by omega) (fun g' h1 h2 h3 => h g' (by omega) (by omega) h3), show f + 1 - (k + 1) = f - k by omega, show g + 1 + k = g + (k + 1) by omega]
theorem sMake_none {x : Nat} {t : Int} (h : sFl n D kd st c x t 4 0 = -1) : sMake n D kd st x t 4 0 c = c := by
  have := sMake_skip (n := n) (D := D) (kd := kd) (st := st) (c := c) (x := x) (t := t) 4 4 0 (by omega) (fun g' h1 h2 h3 => sFl_none 4 0 h g' h1 h2 h3)
  rw [this]
  rfl
theorem sFull_less {g : Nat} {t : Int} {l : Nat} (hl : l < n) (h : sFull n D kd st c g t = false) : sFull n D kd st (iup c l (-1)) g t = false := by
  unfold sFull at h ⊢
  have e := sCnt_up D kd (c := c) (x := l) (v := -1) (g := g) (j := sRest D t) n hl
  rw [sAt_none D kd (iup_self c l (-1))] at e
  have h' := of_decide_eq_false h
  refine decide_eq_false (fun z => h' ?_)
  split at e <;> simp at e <;> omega
theorem sMake_step {x : Nat} {t : Int} {g l : Nat} (hg : g < 4) (hl : l < n) (hz : zGrp (kd x) g = true) (hf : sFull n D kd st c g t = true) (hno : ∀ g', g' < g → zGrp (kd x) g' = true → sFull n D kd st c g' t = false) (ha : sAt D kd c g (sRest D t) l = true) (ho : ∀ y, l < y → y < n → sAt D kd c g (sRest D t) y = false) : sMake n D kd st x t 4 0 c = sMake n D kd st x t 4 0 (iup c l (-1)) := by
  have e1 := sMake_skip (n := n) (D := D) (kd := kd) (st := st) (c := c) (x := x) (t := t) g 4 0 (by omega) (fun g' _ h2 h3 => hno g' (by omega) h3)
  have e2 := sMake_skip (n := n) (D := D) (kd := kd) (st := st) (c := iup c l (-1)) (x := x) (t := t) g 4 0 (by omega) (fun g' _ h2 h3 => sFull_less hl (hno g' (by omega) h3))
  rw [e1, e2, Nat.zero_add, show 4 - g = (3 - g) + 1 by omega]
  show sMake n D kd st x t (3 - g) (g + 1) (if zGrp (kd x) g = true then sDropG n D kd st g t n c else c) = sMake n D kd st x t (3 - g) (g + 1) (if zGrp (kd x) g = true then sDropG n D kd st g t n (iup c l (-1)) else iup c l (-1))
  rw [if_pos hz, if_pos hz, sDropG_last hl hf ha ho]
theorem sCnt_ex {g j : Nat} : ∀ k, 0 < sCnt D kd c g j k → ∃ y, y < k ∧ sAt D kd c g j y = true
  | 0, h => absurd h (by unfold sCnt; omega)
  | k + 1, h => by
    unfold sCnt at h
    by_cases q : sAt D kd c g j k = true
    · exact ⟨k, by omega, q⟩
    · rw [if_neg q] at h
      obtain ⟨y, h1, h2⟩ := sCnt_ex k h
      exact ⟨y, by omega, h2⟩
/-- how many have cycles -/
def sPl (c : Nat → Int) : Nat → Nat
  | 0 => 0
  | k + 1 => sPl c k + (if c k = -1 then 0 else 1)
theorem sPl_drop {l : Nat} : ∀ k, (l < k → c l ≠ -1 → sPl (iup c l (-1)) k + 1 = sPl c k) ∧ (k ≤ l → sPl (iup c l (-1)) k = sPl c k)
  | 0 => ⟨fun h => absurd h (by omega), fun _ => rfl⟩
  | k + 1 => by
    obtain ⟨i1, i2⟩ := sPl_drop (l := l) k
    unfold sPl
    refine ⟨fun h hc => ?_, fun h => ?_⟩
    · by_cases e : l = k
      · subst e
        rw [i2 (Nat.le_refl _), iup_self, if_pos rfl, if_neg hc]
      · rw [iup_ne c _ (by omega)]
        have := i1 (by omega) hc
        omega
    · rw [i2 (by omega), iup_ne c _ (by omega)]
theorem pBound (hi : ∀ i, i < m → fr i < n ∧ to i < n ∧ ov i ≤ 64 ∧ dl i ≤ 20) (hD : D ≤ 200) (hc : ∀ x, x < n → -1 ≤ c x ∧ c x ≤ 1000000) {i : Nat} (h : i < m) : -20000 ≤ sBound D fr ov dl c i ∧ sBound D fr ov dl c i ≤ c (fr i) + 20 := by
  obtain ⟨h1, h2, h3, h4⟩ := hi i h
  have h5 := hc (fr i) h1
  have h6 : (ov i : Int) * (D : Int) ≤ 64 * 200 := Int.mul_le_mul (by omega) (by omega) (by omega) (by omega)
  have h7 : 0 ≤ (ov i : Int) * (D : Int) := Int.mul_nonneg (by omega) (by omega)
  unfold sBound
  omega
theorem pEar (hi : ∀ i, i < m → fr i < n ∧ to i < n ∧ ov i ≤ 64 ∧ dl i ≤ 20) (hD : D ≤ 200) (hc : ∀ x, x < n → -1 ≤ c x ∧ c x ≤ 1000000) {B : Int} (hB : ∀ x, x < n → c x ≤ B) (x : Nat) : ∀ k, k ≤ m → 0 ≤ sEar D fr to ov dl c x k ∧ (sEar D fr to ov dl c x k ≤ B + 20 ∨ sEar D fr to ov dl c x k = 0)
  | 0, _ => ⟨Int.le_refl _, Or.inr rfl⟩
  | k + 1, hk => by
    have ih := pEar hi hD hc hB x k (by omega)
    have hb := pBound hi hD hc (i := k) (by omega)
    have hB' := hB (fr k) (hi k (by omega)).1
    unfold sEar
    split
    · split
      · exact ⟨by omega, Or.inl (by omega)⟩
      · exact ih
    · exact ih
theorem pPick (hi : ∀ i, i < m → fr i < n ∧ to i < n ∧ ov i ≤ 64 ∧ dl i ≤ 20) (hD : D ≤ 200) (hc : ∀ x, x < n → -1 ≤ c x ∧ c x ≤ 1000000) {B : Int} (hB : 0 ≤ B ∧ ∀ x, x < n → c x ≤ B ∧ lat x ≤ B) {x : Nat} (hx : x < n) (hl : -1 ≤ lat x) : 0 ≤ sPick n D kd st m fr to ov dl c lat x ∧ sPick n D kd st m fr to ov dl c lat x ≤ B + 221 := by
  have he := pEar hi hD hc (fun y hy => (hB.2 y hy).1) x m (Nat.le_refl _)
  have hf := sFirst_rng (n := n) (D := D) (kd := kd) (st := st) (c := c) (x := x) D (sEar D fr to ov dl c x m) he.1
  have hl2 := (hB.2 x hx).2
  unfold sPick
  by_cases q : sFirst n D kd st c x D (sEar D fr to ov dl c x m) = -1
  · rw [if_pos q]
    split <;> omega
  · rw [if_neg q]
    omega
/-- what was found has room -/
theorem sFirst_room {x : Nat} : ∀ (f : Nat) (t : Int), 0 ≤ t → sFirst n D kd st c x f t ≠ -1 → sRoom n D kd st c x (sFirst n D kd st c x f t) = true
  | 0, t, _, h => absurd rfl h
  | f + 1, t, ht, h => by
    unfold sFirst at h ⊢
    by_cases q : sRoom n D kd st c x t = true
    · rw [if_pos q]
      exact q
    · rw [if_neg q] at h ⊢
      exact sFirst_room f (t + 1) (by omega) h
/-- a TRY in one word -/
theorem sTry_eq {x : Nat} (h0 : 0 ≤ sEar D fr to ov dl c x m) : sTry n D kd st m fr to ov dl c lat x = sBrk D fr to ov dl x m 0 (iup (sMake n D kd st x (sPick n D kd st m fr to ov dl c lat x) 4 0 c) x (sPick n D kd st m fr to ov dl c lat x)) := by
  unfold sTry
  by_cases q : sFirst n D kd st c x D (sEar D fr to ov dl c x m) = -1
  · rw [if_pos q]
  · rw [if_neg q]
    have e : sPick n D kd st m fr to ov dl c lat x = sFirst n D kd st c x D (sEar D fr to ov dl c x m) := by
      unfold sPick
      rw [if_neg q]
    rw [sMake_none]
    rw [e]
    exact (sFl_room 4 0).mp (sFirst_room D _ h0 q)
theorem iup_same {x : Nat} {v : Int} (h : c x = v) : iup c x v = c := by
  funext y
  unfold iup
  by_cases e : y = x
  · rw [if_pos e, e, h]
  · rw [if_neg e]
theorem iup_iup (x : Nat) (v w : Int) : iup (iup c x v) x w = iup c x w := by
  funext y
  unfold iup
  by_cases e : y = x
  · rw [if_pos e, if_pos e]
  · rw [if_neg e, if_neg e, if_neg e]
theorem iup_comm {x y : Nat} (v w : Int) (h : x ≠ y) : iup (iup c x v) y w = iup (iup c y w) x v := by
  funext z
  unfold iup
  by_cases e1 : z = y
  · rw [if_pos e1, if_neg (by omega), if_pos e1]
  · rw [if_neg e1]
    by_cases e2 : z = x
    · rw [if_pos e2, if_pos e2]
    · rw [if_neg e2, if_neg e2, if_neg e1]
end TPURE
