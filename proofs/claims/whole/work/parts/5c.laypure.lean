-- needs: 56 54
/-! A LAYING, as both have it -/
section LAYP
variable {n D : Nat} {kd st : Nat → Nat} {m : Nat} {fr to ov dl : Nat → Nat} {c lat : Nat → Int}
theorem sBest_congr {h h' : Nat → Int} (hh : ∀ x, x < n → h x = h' x) : ∀ k, k ≤ n → sBest c h k = sBest c h' k
  | 0, _ => rfl
  | k + 1, hk => by
    have ih := sBest_congr hh k (by omega)
    have hb := sBest_rng (c := c) (h := h') k
    show (if c k = -1 ∧ (sBest c h k = -1 ∨ h (sBest c h k).toNat < h k) then (k : Int) else sBest c h k) = (if c k = -1 ∧ (sBest c h' k = -1 ∨ h' (sBest c h' k).toNat < h' k) then (k : Int) else sBest c h' k)
    rw [ih]
    by_cases q : sBest c h' k = -1
    · rw [q]
      simp
    · rw [hh k (by omega), hh (sBest c h' k).toNat (by omega)]
theorem sLoop_congr {h h' : Nat → Int} (hh : ∀ x, x < n → h x = h' x) : ∀ (f k : Nat) (c lat : Nat → Int), sLoop n D kd st m fr to ov dl h f k c lat = sLoop n D kd st m fr to ov dl h' f k c lat
  | 0, k, c, lat => by
    show (c, k, decide (sBest c h n = -1)) = (c, k, decide (sBest c h' n = -1))
    rw [sBest_congr hh n (Nat.le_refl _)]
  | f + 1, k, c, lat => by
    show (if sBest c h n = -1 then _ else sLoop n D kd st m fr to ov dl h f (k + 1) _ _) = (if sBest c h' n = -1 then _ else sLoop n D kd st m fr to ov dl h' f (k + 1) _ _)
    rw [sBest_congr hh n (Nat.le_refl _), sLoop_congr hh f]
theorem sFill_congr {h h' : Nat → Int} (hh : ∀ x, x < n → h x = h' x) : sFill n D kd st m fr to ov dl h = sFill n D kd st m fr to ov dl h' := sLoop_congr hh _ _ _ _
/-- the waits hold, as far as both have cycles -/
def sOkW (D m : Nat) (fr to ov dl : Nat → Nat) (c : Nat → Int) : Prop := ∀ i, i < m → fr i ≠ to i → c (fr i) ≠ -1 → c (to i) ≠ -1 → sBound D fr ov dl c i ≤ c (to i)
theorem sBound_eq {c' : Nat → Int} {i : Nat} (h : c' (fr i) = c (fr i)) : sBound D fr ov dl c' i = sBound D fr ov dl c i := by
  unfold sBound
  rw [h]
theorem sOkW.less {c' : Nat → Int} (h : sOkW D m fr to ov dl c) (hor : ∀ y, c' y = c y ∨ c' y = -1) : sOkW D m fr to ov dl c' := by
  intro i hi hne h1 h2
  have e1 : c' (fr i) = c (fr i) := (hor (fr i)).resolve_right h1
  have e2 : c' (to i) = c (to i) := (hor (to i)).resolve_right h2
  rw [sBound_eq e1, e2]
  exact h i hi hne (by rw [← e1]; exact h1) (by rw [← e2]; exact h2)
theorem sBrk_ok {x : Nat} : ∀ (f i : Nat) (c : Nat → Int), c x ≠ -1 → sBrk D fr to ov dl x f i c x = c x ∧ ∀ k, i ≤ k → k < i + f → fr k ≠ to k → (fr k = x ∨ to k = x) → sBrk D fr to ov dl x f i c (fr k) ≠ -1 → sBrk D fr to ov dl x f i c (to k) ≠ -1 → sBound D fr ov dl (sBrk D fr to ov dl x f i c) k ≤ sBrk D fr to ov dl x f i c (to k)
  | 0, i, c, hx => ⟨rfl, fun k h1 h2 => absurd h2 (by omega)⟩
  | f + 1, i, c, hx => by
    show (sBrk D fr to ov dl x f (i + 1) (if sBad D fr to ov dl x c i = true then iup c (if fr i = x then to i else fr i) (-1) else c)) x = c x ∧ ∀ k, i ≤ k → k < i + (f + 1) → fr k ≠ to k → (fr k = x ∨ to k = x) → (sBrk D fr to ov dl x f (i + 1) (if sBad D fr to ov dl x c i = true then iup c (if fr i = x then to i else fr i) (-1) else c)) (fr k) ≠ -1 → (sBrk D fr to ov dl x f (i + 1) (if sBad D fr to ov dl x c i = true then iup c (if fr i = x then to i else fr i) (-1) else c)) (to k) ≠ -1 → sBound D fr ov dl (sBrk D fr to ov dl x f (i + 1) (if sBad D fr to ov dl x c i = true then iup c (if fr i = x then to i else fr i) (-1) else c)) k ≤ (sBrk D fr to ov dl x f (i + 1) (if sBad D fr to ov dl x c i = true then iup c (if fr i = x then to i else fr i) (-1) else c)) (to k)
    generalize hc1 : (if sBad D fr to ov dl x c i = true then iup c (if fr i = x then to i else fr i) (-1) else c) = c1
    have c1x : c1 x = c x := by
      rw [← hc1]
      by_cases q : sBad D fr to ov dl x c i = true
      · rw [if_pos q, iup_ne]
        have := of_decide_eq_true q
        split
        · intro z
          exact this.1 (by omega)
        · intro z
          omega
      · rw [if_neg q]
    obtain ⟨i1, i2⟩ := sBrk_ok (x := x) f (i + 1) c1 (by rw [c1x]; exact hx)
    refine ⟨i1.trans c1x, fun k h1 h2 h3 h4 h5 h6 => ?_⟩
    by_cases e : k = i
    · subst e
      have o1 := sBrk_or (D := D) (fr := fr) (to := to) (ov := ov) (dl := dl) (x := x) f (k + 1) c1
      have e1 := (o1 (fr k)).resolve_right h5
      have e2 := (o1 (to k)).resolve_right h6
      rw [sBound_eq e1, e2]
      rw [e1] at h5
      rw [e2] at h6
      by_cases q : sBad D fr to ov dl x c k = true
      · exfalso
        rw [if_pos q] at hc1
        by_cases q2 : fr k = x
        · rw [if_pos q2] at hc1
          rw [← hc1, iup_self] at h6
          exact h6 rfl
        · rw [if_neg q2] at hc1
          rw [← hc1, iup_self] at h5
          exact h5 rfl
      · rw [if_neg q] at hc1
        subst hc1
        rcases Int.lt_or_le (c (to k)) (sBound D fr ov dl c k) with q3 | q3
        · exact absurd (decide_eq_true ⟨h3, h4, h5, h6, q3⟩) q
        · exact q3
    · exact i2 k (by omega) (by omega) h3 h4 h5 h6
theorem sTry_ok {x : Nat} (h : sOkW D m fr to ov dl c) (h0 : 0 ≤ sEar D fr to ov dl c x m) (hp : 0 ≤ sPick n D kd st m fr to ov dl c lat x) : sOkW D m fr to ov dl (sTry n D kd st m fr to ov dl c lat x) := by
  rw [sTry_eq h0]
  generalize sPick n D kd st m fr to ov dl c lat x = P at hp
  have h1 := h.less (c' := sMake n D kd st x P 4 0 c) (fun y => sMake_or 4 0 c y)
  generalize sMake n D kd st x P 4 0 c = c1 at h1
  have hx : iup c1 x P x ≠ -1 := by
    rw [iup_self]
    omega
  obtain ⟨b1, b2⟩ := sBrk_ok (D := D) (fr := fr) (to := to) (ov := ov) (dl := dl) (x := x) m 0 (iup c1 x P) hx
  intro i hi hne q1 q2
  by_cases q : fr i = x ∨ to i = x
  · exact b2 i (by omega) (by omega) hne q q1 q2
  · have o1 := sBrk_or (D := D) (fr := fr) (to := to) (ov := ov) (dl := dl) (x := x) m 0 (iup c1 x P)
    have e1 := (o1 (fr i)).resolve_right q1
    have e2 := (o1 (to i)).resolve_right q2
    have n1 : fr i ≠ x := fun z => q (Or.inl z)
    have n2 : to i ≠ x := fun z => q (Or.inr z)
    rw [iup_ne _ _ n1] at e1
    rw [iup_ne _ _ n2] at e2
    rw [sBound_eq e1, e2]
    exact h1 i hi hne (by rw [← e1]; exact q1) (by rw [← e2]; exact q2)
theorem sLoop_ok (hi : ∀ i, i < m → fr i < n ∧ to i < n ∧ ov i ≤ 64 ∧ dl i ≤ 20) (hD : D ≤ 200) (hn : n ≤ 48) {h : Nat → Int} : ∀ (f k : Nat) (c lat : Nat → Int), k + f = 8 * n → sOkW D m fr to ov dl c → (∀ x, x < n → -1 ≤ c x ∧ c x ≤ ((221 * k : Nat) : Int) ∧ -1 ≤ lat x ∧ lat x ≤ ((221 * k : Nat) : Int)) → sOkW D m fr to ov dl (sLoop n D kd st m fr to ov dl h f k c lat).1 ∧ (∀ x, x < n → -1 ≤ (sLoop n D kd st m fr to ov dl h f k c lat).1 x ∧ (sLoop n D kd st m fr to ov dl h f k c lat).1 x ≤ 100000) ∧ ((sLoop n D kd st m fr to ov dl h f k c lat).2.2 = true → ∀ x, x < n → (sLoop n D kd st m fr to ov dl h f k c lat).1 x ≠ -1) ∧ (sLoop n D kd st m fr to ov dl h f k c lat).2.1 ≤ 8 * n
  | 0, k, c, lat, hk, ok, hb => by
    refine ⟨ok, fun x hx => ?_, fun e => ?_, ?_⟩
    · have := hb x hx
      show -1 ≤ c x ∧ c x ≤ _
      omega
    · exact sBest_all n (of_decide_eq_true e)
    · show k ≤ _
      omega
  | f + 1, k, c, lat, hk, ok, hb => by
    unfold sLoop
    by_cases q : sBest c h n = -1
    · rw [if_pos q]
      exact ⟨ok, fun x hx => by have := hb x hx; show -1 ≤ c x ∧ c x ≤ _; omega, fun _ => sBest_all n q, by show k ≤ _; omega⟩
    · rw [if_neg q]
      have hbr := sBest_rng (c := c) (h := h) n
      have hx : (sBest c h n).toNat < n := by omega
      have hcr : ∀ x, x < n → -1 ≤ c x ∧ c x ≤ 1000000 := fun x hx => by have := hb x hx; omega
      have he := pEar (fr := fr) (to := to) (ov := ov) (dl := dl) hi hD hcr (B := ((221 * k : Nat) : Int)) (fun y hy => (hb y hy).2.1) (sBest c h n).toNat m (Nat.le_refl _)
      have hp := pPick (kd := kd) (st := st) (lat := lat) hi hD hcr (B := ((221 * k : Nat) : Int)) ⟨by omega, fun y hy => ⟨(hb y hy).2.1, (hb y hy).2.2.2⟩⟩ hx (hb _ hx).2.2.1
      refine sLoop_ok hi hD hn f (k + 1) _ _ (by omega) (sTry_ok ok he.1 hp.1) (fun y hy => ?_)
      have b := hb y hy
      rw [sTry_eq he.1]
      generalize sPick n D kd st m fr to ov dl c lat (sBest c h n).toNat = P at hp
      have o1 := sBrk_or (D := D) (fr := fr) (to := to) (ov := ov) (dl := dl) (x := (sBest c h n).toNat) m 0 (iup (sMake n D kd st (sBest c h n).toNat P 4 0 c) (sBest c h n).toNat P) y
      have o2 := sMake_or (n := n) (D := D) (kd := kd) (st := st) (x := (sBest c h n).toNat) (t := P) 4 0 c y
      have o3 : iup (sMake n D kd st (sBest c h n).toNat P 4 0 c) (sBest c h n).toNat P y = P ∨ iup (sMake n D kd st (sBest c h n).toNat P 4 0 c) (sBest c h n).toNat P y = sMake n D kd st (sBest c h n).toNat P 4 0 c y := by
        unfold iup
        split
        · exact Or.inl rfl
        · exact Or.inr rfl
      have o4 : iup lat (sBest c h n).toNat P y = P ∨ iup lat (sBest c h n).toNat P y = lat y := by
        unfold iup
        split
        · exact Or.inl rfl
        · exact Or.inr rfl
      refine ⟨?_, ?_, ?_, ?_⟩
      · rcases o1 with o1 | o1 <;> rcases o2 with o2 | o2 <;> rcases o3 with o3 | o3 <;> omega
      · rcases o1 with o1 | o1 <;> rcases o2 with o2 | o2 <;> rcases o3 with o3 | o3 <;> omega
      · rcases o4 with o4 | o4 <;> omega
      · rcases o4 with o4 | o4 <;> omega
/-- all that a filled table keeps -/
theorem sFill_ok (hi : ∀ i, i < m → fr i < n ∧ to i < n ∧ ov i ≤ 64 ∧ dl i ≤ 20) (hD : D ≤ 200) (hn : n ≤ 48) {h : Nat → Int} (ht : (sFill n D kd st m fr to ov dl h).2.2 = true) (hF : zFe m fr to ov dl D) : (∀ x, x < n → 0 ≤ (sFill n D kd st m fr to ov dl h).1 x ∧ (sFill n D kd st m fr to ov dl h).1 x ≤ 100000) ∧ (∀ i, i < m → sBound D fr ov dl (sFill n D kd st m fr to ov dl h).1 i ≤ (sFill n D kd st m fr to ov dl h).1 (to i)) ∧ (sFill n D kd st m fr to ov dl h).2.1 ≤ 8 * n := by
  obtain ⟨h1, h2, h3, h4⟩ := sLoop_ok (n := n) (D := D) (kd := kd) (st := st) hi hD hn (h := h) (8 * n) 0 (fun _ => -1) (fun _ => -1) (by omega) (fun i _ _ z => absurd rfl z) (fun x _ => ⟨Int.le_refl _, by show (-1 : Int) ≤ _; omega, Int.le_refl _, by show (-1 : Int) ≤ _; omega⟩)
  have h3' := h3 ht
  refine ⟨fun x hx => ?_, fun i hi' => ?_, h4⟩
  · have a1 := h2 x hx
    have a2 := h3' x hx
    show 0 ≤ (sLoop n D kd st m fr to ov dl h (8 * n) 0 (fun _ => -1) (fun _ => -1)).1 x ∧ (sLoop n D kd st m fr to ov dl h (8 * n) 0 (fun _ => -1) (fun _ => -1)).1 x ≤ 100000
    omega
  · obtain ⟨f1, f2, -⟩ := hi i hi'
    by_cases q : fr i = to i
    · obtain ⟨g, hg⟩ := hF
      have := hg i hi'
      unfold zWg at this
      unfold sBound
      rw [q] at this ⊢
      omega
    · exact h1 i hi' q (h3' _ f1) (h3' _ f2)
end LAYP
/-! uses are waits -/
section USEW
variable {R n : Nat} {rc : Nat → zRec} {st : Nat → Nat}
theorem zPair_use {x y : Nat} (h : zUsX rc x y = true) : ∃ d, (x, y, zUon x y, d) ∈ zPair R rc st x y ∧ zTm rc st x ≤ d := by
  unfold zPair
  by_cases q : zUsX rc x y = true ∧ zPo R rc x y = (zUon x y : Int)
  · rw [if_pos q]
    exact ⟨_, List.mem_singleton.mpr rfl, Nat.le_max_left _ _⟩
  · rw [if_neg q, if_pos h]
    exact ⟨_, List.mem_append.mpr (Or.inl (List.mem_singleton.mpr rfl)), Nat.le_refl _⟩
theorem zWy_use {x : Nat} {e : zWe} : ∀ y y', y' < y → e ∈ zPair R rc st x y' → e ∈ zWy R rc st x y
  | 0, y', h, _ => absurd h (by omega)
  | y + 1, y', h, he => by
    unfold zWy
    by_cases q : y' = y
    · subst q
      exact List.mem_append.mpr (Or.inr he)
    · exact List.mem_append.mpr (Or.inl (zWy_use y y' (by omega) he))
theorem zWx_use {e : zWe} : ∀ x x', x' < x → e ∈ zWy R rc st x' n → e ∈ zWx R rc st n x
  | 0, x', h, _ => absurd h (by omega)
  | x + 1, x', h, he => by
    unfold zWx
    by_cases q : x' = x
    · subst q
      exact List.mem_append.mpr (Or.inr he)
    · exact List.mem_append.mpr (Or.inl (zWx_use x x' (by omega) he))
theorem use_wait {x y : Nat} (hx : x < n) (hy : y < n) (h : zUsX rc x y = true) : ∃ i, i < (zWx R rc st n n).length ∧ wF (zWx R rc st n n) i = x ∧ wT (zWx R rc st n n) i = y ∧ wO (zWx R rc st n n) i = zUon x y ∧ zTm rc st x ≤ wD (zWx R rc st n n) i := by
  obtain ⟨d, h1, h2⟩ := zPair_use (R := R) (st := st) h
  have h3 := zWx_use (n := n) n x hx (zWy_use n y hy h1)
  obtain ⟨i, hi, e⟩ := List.getElem_of_mem h3
  have hg : (zWx R rc st n n)[i]? = some (x, y, zUon x y, d) := by rw [List.getElem?_eq_getElem hi, e]
  obtain ⟨w1, w2, w3, w4⟩ := wG' hg
  exact ⟨i, hi, w1, w2, w3, by rw [w4]; exact h2⟩
theorem zE_ge {D : Nat} {c : Nat → Int} {us : Nat → Nat → Bool} {x : Nat} : ∀ y y', y' < y → us x y' = true → zUe D c x y' ≤ zE D c us x y
  | 0, y', h, _ => absurd h (by omega)
  | y + 1, y', h, hu => by
    show _ ≤ (if us x y = true then zmx (zE D c us x y) (zUe D c x y) else zE D c us x y)
    by_cases q : y' = y
    · subst q
      rw [if_pos hu]
      unfold zmx
      split <;> omega
    · have := zE_ge (D := D) (c := c) (us := us) (x := x) y y' (by omega) hu
      unfold zmx
      split
      · split <;> omega
      · exact this
theorem zE_some {D : Nat} {c : Nat → Int} {us : Nat → Nat → Bool} {x : Nat} : ∀ y, zE D c us x y ≠ -1 → ∃ y', y' < y ∧ us x y' = true
  | 0, h => absurd rfl h
  | y + 1, h => by
    by_cases q : us x y = true
    · exact ⟨y, by omega, q⟩
    · have e : zE D c us x (y + 1) = zE D c us x y := by
        show (if us x y = true then _ else _) = _
        rw [if_neg q]
      rw [e] at h
      obtain ⟨y', h1, h2⟩ := zE_some y h
      exact ⟨y', by omega, h2⟩
/-- values live at least until they are used -/
theorem span_ok {D : Nat} {c : Nat → Int} {us : Nat → Nat → Bool} (hus : ∀ x y, x < n → y < n → us x y = zUsX rc x y) (hw : ∀ i, i < (zWx R rc st n n).length → sBound D (wF (zWx R rc st n n)) (wO (zWx R rc st n n)) (wD (zWx R rc st n n)) c i ≤ c (wT (zWx R rc st n n) i)) {x : Nat} (hx : x < n) (h0 : 0 ≤ zE D c us x n) : zBg D c (zTm rc st) us x n ≤ zE D c us x n := by
  obtain ⟨y, hy, hu⟩ := zE_some n (show zE D c us x n ≠ -1 by omega)
  have h1 := zE_ge (D := D) (c := c) n y hy hu
  rw [hus x y hx hy] at hu
  obtain ⟨i, i1, i2, i3, i4, i5⟩ := use_wait (R := R) (st := st) hx hy hu
  have h2 := hw i i1
  unfold sBound at h2
  rw [i2, i3, i4] at h2
  unfold zBg
  rw [if_neg (by omega)]
  have eu : zUe D c x y = c y + (zUon x y : Int) * (D : Int) := by
    unfold zUe zUo zUon
    congr 2
    split <;> rfl
  rw [eu] at h1
  omega
end USEW
