-- needs: 5b 5c
/-! LAYING, as both do it: the distances one after the other -/
section LAYS
variable (n : Nat) (rc : Nat → zRec) (st : Nat → Nat) (us : Nat → Nat → Bool)
noncomputable def zWL : List zWe := zWx (st 8) rc st n n
noncomputable def zHt (D : Nat) : Nat → Int := Classical.epsilon (fun h => bfMin n (zWL n rc st).length (wF (zWL n rc st)) (wT (zWL n rc st)) (zWg (wO (zWL n rc st)) (wD (zWL n rc st)) D) h)
noncomputable def zCi : Nat := Classical.epsilon (fun c => zLcIs (zWL n rc st).length (wF (zWL n rc st)) (wT (zWL n rc st)) (wO (zWL n rc st)) (wD (zWL n rc st)) c)
noncomputable def zFl (D : Nat) : (Nat → Int) × Nat × Bool := sFill n D (fun x => rKd (rc x)) st (zWL n rc st).length (wF (zWL n rc st)) (wT (zWL n rc st)) (wO (zWL n rc st)) (wD (zWL n rc st)) (zHt n rc st D)
noncomputable def zCy (D x : Nat) : Int := (zFl n rc st D).1 x - sMin (zFl n rc st D).1 n
noncomputable def zGt (D : Nat) : Int := sMax (zFl n rc st D).1 n - sMin (zFl n rc st D).1 n
noncomputable def lB (D x : Nat) : Int := zBg D (zCy n rc st D) (zTm rc st) us x n
noncomputable def lE (D x : Nat) : Int := zE D (zCy n rc st D) us x n
noncomputable def lO (D : Nat) : (Nat → Nat) × Nat := zOr (lB n rc st us D) n
noncomputable def lF (D : Nat) : Option (Nat × (Nat → Int)) := zFitS D (lB n rc st us D) (lE n rc st us D) (lO n rc st us D).1 (lO n rc st us D).2
noncomputable def lNd (D : Nat) : Int := zNd D (lB n rc st us D) (lE n rc st us D) (lO n rc st us D).1 (lO n rc st us D).2 D
def zOkD (D : Nat) : Prop := (zFl n rc st D).2.2 = true ∧ lF n rc st us D ≠ none
noncomputable def zLyF : Nat → Nat → Nat
  | 0, _ => 0
  | f + 1, D => @ite _ (zOkD n rc st us D) (Classical.propDecidable _) D (zLyF f (D + 1))
noncomputable def zD0 : Nat := if zLu (fun x => rKd (rc x)) st n 4 < zCi n rc st then zCi n rc st else zLu (fun x => rKd (rc x)) st n 4
/-- the distance that is found, or 0 -/
noncomputable def zLy : Nat := zLyF n rc st us (201 - zD0 n rc st) (zD0 n rc st)
theorem zLyF_y {f D : Nat} (h : zOkD n rc st us D) : zLyF n rc st us (f + 1) D = D := if_pos h
theorem zLyF_n {f D : Nat} (h : ¬ zOkD n rc st us D) : zLyF n rc st us (f + 1) D = zLyF n rc st us f (D + 1) := if_neg h
theorem zLyF_rng : ∀ (f D : Nat), zLyF n rc st us f D = 0 ∨ (D ≤ zLyF n rc st us f D ∧ zLyF n rc st us f D < D + f ∧ zOkD n rc st us (zLyF n rc st us f D))
  | 0, D => Or.inl rfl
  | f + 1, D => by
    by_cases q : zOkD n rc st us D
    · rw [zLyF_y n rc st us q]
      exact Or.inr ⟨by omega, by omega, q⟩
    · rw [zLyF_n n rc st us q]
      rcases zLyF_rng f (D + 1) with h | h
      · exact Or.inl h
      · exact Or.inr ⟨by omega, by omega, h.2.2⟩
end LAYS
section LAYP
variable {n : Nat} {rc : Nat → zRec} {st : Nat → Nat} {us : Nat → Nat → Bool}
/-- the rows and the settings are good -/
def zGd (n : Nat) (rc : Nat → zRec) (st : Nat → Nat) : Prop := 0 < n ∧ n ≤ 48 ∧ (∀ x, x < n → zRecOk (rc x)) ∧ (∀ j, j < 4 → 1 ≤ st j ∧ st j ≤ 20) ∧ ∀ j, j < 9 → 1 ≤ st j ∧ st j ≤ 64
theorem zWL_ok (h : zGd n rc st) : (zWL n rc st).length ≤ 4608 ∧ ∀ i, i < (zWL n rc st).length → wF (zWL n rc st) i < n ∧ wT (zWL n rc st) i < n ∧ wO (zWL n rc st) i ≤ 64 ∧ wD (zWL n rc st) i ≤ 20 ∧ (wO (zWL n rc st) i = 0 → wF (zWL n rc st) i < wT (zWL n rc st) i) := by
  obtain ⟨h0, h1, h2, h3, h4⟩ := h
  have := zWx_ok (R := st 8) (n := n) (rc := rc) (st := st) (by have := h4 8 (by omega); omega) h3 h2 n (Nat.le_refl _)
  refine ⟨?_, fun i hi => ?_⟩
  · have h5 : 2 * n * n ≤ 2 * 48 * 48 := Nat.mul_le_mul (by omega) h1
    exact Nat.le_trans this.2 (by omega)
  · have hm : (wF (zWL n rc st) i, wT (zWL n rc st) i, wO (zWL n rc st) i, wD (zWL n rc st) i) ∈ zWL n rc st := List.mem_of_getElem? (wG hi)
    obtain ⟨a, b, c, d, e⟩ := (this.1 _ hm).1
    exact ⟨a, b, c, d, e⟩
theorem zHt_eq {D : Nat} {h : Nat → Int} (mn : bfMin n (zWL n rc st).length (wF (zWL n rc st)) (wT (zWL n rc st)) (zWg (wO (zWL n rc st)) (wD (zWL n rc st)) D) h) : ∀ x, x < n → h x = zHt n rc st D x :=
  bfMin_eq _ _ _ _ _ mn (Classical.epsilon_spec (p := fun h => bfMin n (zWL n rc st).length (wF (zWL n rc st)) (wT (zWL n rc st)) (zWg (wO (zWL n rc st)) (wD (zWL n rc st)) D) h) ⟨h, mn⟩)
theorem zCi_eq {c : Nat} (h : zLcIs (zWL n rc st).length (wF (zWL n rc st)) (wT (zWL n rc st)) (wO (zWL n rc st)) (wD (zWL n rc st)) c) : c = zCi n rc st :=
  zLcIs_uni h (Classical.epsilon_spec (p := fun c => zLcIs (zWL n rc st).length (wF (zWL n rc st)) (wT (zWL n rc st)) (wO (zWL n rc st)) (wD (zWL n rc st)) c) ⟨c, h⟩)
theorem zFe_WL (h : zGd n rc st) : zFe (zWL n rc st).length (wF (zWL n rc st)) (wT (zWL n rc st)) (wO (zWL n rc st)) (wD (zWL n rc st)) 960 :=
  zFe_960 (fun i hi => by have h1 := h.2.1; obtain ⟨a, b, c, d, e⟩ := (zWL_ok h).2 i hi; exact ⟨by omega, d, e⟩)
theorem zFl_eq {D : Nat} {h : Nat → Int} (mn : bfMin n (zWL n rc st).length (wF (zWL n rc st)) (wT (zWL n rc st)) (zWg (wO (zWL n rc st)) (wD (zWL n rc st)) D) h) : sFill n D (fun x => rKd (rc x)) st (zWL n rc st).length (wF (zWL n rc st)) (wT (zWL n rc st)) (wO (zWL n rc st)) (wD (zWL n rc st)) h = zFl n rc st D := sFill_congr (zHt_eq mn)
theorem sMin_mem {c : Nat → Int} : ∀ k, (sMin c k ≤ c 0 ∧ c 0 ≤ sMax c k) ∧ ∀ x, x < k → sMin c k ≤ c x ∧ c x ≤ sMax c k
  | 0 => ⟨⟨Int.le_refl _, Int.le_refl _⟩, fun x hx => absurd hx (by omega)⟩
  | k + 1 => by
    obtain ⟨⟨i1, i2⟩, i3⟩ := sMin_mem (c := c) k
    unfold sMin sMax
    refine ⟨⟨by split <;> omega, by split <;> omega⟩, fun x hx => ?_⟩
    by_cases q : x = k
    · subst q
      constructor <;> split <;> omega
    · have := i3 x (by omega)
      constructor <;> split <;> omega
theorem sMin_lo {c : Nat → Int} {lo hi : Int} {n : Nat} (h0 : 0 < n) (h : ∀ x, x < n → lo ≤ c x ∧ c x ≤ hi) : ∀ k, k ≤ n → (lo ≤ sMin c k ∧ sMin c k ≤ hi) ∧ lo ≤ sMax c k ∧ sMax c k ≤ hi
  | 0, _ => ⟨h 0 h0, h 0 h0⟩
  | k + 1, hk => by
    have ih := sMin_lo h0 h k (by omega)
    have := h k (by omega)
    unfold sMin sMax
    refine ⟨⟨?_, ?_⟩, ?_, ?_⟩ <;> split <;> omega
/-- the table that is found -/
theorem zCy_ok (h : zGd n rc st) {D : Nat} (hD : 1 ≤ D ∧ D ≤ 200) (hF : zFe (zWL n rc st).length (wF (zWL n rc st)) (wT (zWL n rc st)) (wO (zWL n rc st)) (wD (zWL n rc st)) D) (ht : (zFl n rc st D).2.2 = true) :
    (∀ x, x < n → 0 ≤ (zFl n rc st D).1 x ∧ (zFl n rc st D).1 x ≤ 100000) ∧ (∀ x, x < n → 0 ≤ zCy n rc st D x ∧ zCy n rc st D x ≤ 100000) ∧ (0 ≤ zGt n rc st D ∧ zGt n rc st D ≤ 100000) ∧ (∀ i, i < (zWL n rc st).length → sBound D (wF (zWL n rc st)) (wO (zWL n rc st)) (wD (zWL n rc st)) (zCy n rc st D) i ≤ zCy n rc st D (wT (zWL n rc st) i)) ∧ (zFl n rc st D).2.1 ≤ 384 := by
  obtain ⟨s1, s2, s3⟩ := sFill_ok (fun i hi => by obtain ⟨a, b, c, d, e⟩ := (zWL_ok h).2 i hi; exact ⟨a, b, c, d⟩) hD.2 h.2.1 (h := zHt n rc st D) ht hF
  have hh1 := h.2.1
  have b1 := sMin_lo h.1 s1 n (Nat.le_refl _)
  have b2 := fun x hx => (sMin_mem (c := (zFl n rc st D).1) n).2 x hx
  refine ⟨s1, fun x hx => ?_, ?_, fun i hi => ?_, ?_⟩
  · have h5 := s1 x hx
    have h6 := b2 x hx
    unfold zCy zFl at *
    omega
  · have h6 := b2 0 h.1
    unfold zGt
    unfold zFl at *
    omega
  · have := s2 i hi
    unfold sBound at this ⊢
    unfold zCy zFl
    omega
  · show (sFill _ _ _ _ _ _ _ _ _ _).2.1 ≤ 384
    omega
theorem zLu_le (h : ∀ j, j < 9 → 1 ≤ st j ∧ st j ≤ 64) (kd : Nat → Nat) : ∀ g, g ≤ 4 → zLu kd st n g ≤ n
  | 0, _ => by unfold zLu; omega
  | g + 1, hg => by
    have ih := zLu_le h kd g (by omega)
    have h1 := zGn_le kd g n
    have h2 : 1 ≤ sUnits st g := by
      unfold sUnits
      have : g = 0 ∨ g = 1 ∨ g = 2 ∨ g = 3 := by omega
      rcases this with rfl | rfl | rfl | rfl
      · exact (h 7 (by omega)).1
      · exact (h 4 (by omega)).1
      · exact (h 5 (by omega)).1
      · exact (h 6 (by omega)).1
    show max (zLu kd st n g) ((zGn kd g n + sUnits st g - 1) / sUnits st g) ≤ n
    have : (zGn kd g n + sUnits st g - 1) / sUnits st g ≤ n := by
      have h3 : (zGn kd g n + sUnits st g - 1) / sUnits st g ≤ zGn kd g n := by
        rcases Nat.eq_zero_or_pos (zGn kd g n) with e | e
        · rw [e, Nat.div_eq_of_lt (by omega)]
          omega
        · refine (Nat.div_le_iff_le_mul_add_pred (by omega)).mpr ?_
          have h4 : zGn kd g n ≤ sUnits st g * zGn kd g n := Nat.le_mul_of_pos_left _ (by omega)
          omega
      omega
    omega
/-- the reference's running greatest -/
theorem zLs_mx {c : Nat → Int} {n : Nat} (h : ∀ x, x < n → 0 ≤ c x) : ∀ k, k ≤ n → 0 < k → ∀ d, zLs (fun x => c x - d) (fun _ => 0) k = zmx 0 (sMax c k - d)
  | 0, _, h0 => absurd h0 (by omega)
  | k + 1, hk, _ => by
    intro d
    show zmx (zLs (fun x => c x - d) (fun _ => 0) k) (c k - d + ((0 : Nat) : Int)) = zmx 0 ((if sMax c k < c k then c k else sMax c k) - d)
    by_cases q : k = 0
    · subst q
      show zmx 0 (c 0 - d + ((0 : Nat) : Int)) = zmx 0 ((if c 0 < c 0 then c 0 else c 0) - d)
      rw [if_neg (by omega), show ((0 : Nat) : Int) = 0 from rfl, Int.add_zero]
    · rw [zLs_mx h k (by omega) (by omega) d]
      unfold zmx
      simp only [show ((0 : Nat) : Int) = 0 from rfl, Int.add_zero]
      split <;> split <;> split <;> (try split) <;> omega
end LAYP
