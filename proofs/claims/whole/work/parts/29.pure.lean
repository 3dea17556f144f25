-- needs: 28
/-! A WHOLE TEXT: its rows, each with its first sign, or the sign that can't stand there -/
def zPrs (sg vl : Nat → Int32) : Nat → Nat → Nat → List (Nat × zRec) ⊕ Nat
  | 0, _, k => if sg k = -1 then .inl [] else .inr k
  | f + 1, x, k => if x ≠ 0 ∧ sg k = -1 then .inl [] else
      match zRwS sg vl k with
      | .inl (y, k') => (match zPrs sg vl f (x + 1) k' with
        | .inl l => .inl ((k, y) :: l)
        | .inr e => .inr e)
      | .inr k' => .inr k'
section AGREE
variable {sg sg' vl vl' : Nat → Int32} {m : Nat}
/-- the first m signs are the same, and the last of them is one that nothing stands behind, or they are all that there are -/
def zAg (sg sg' vl vl' : Nat → Int32) (m : Nat) : Prop := (∀ j, j < m → sg' j = sg j ∧ vl' j = vl j) ∧ (m = 577 ∨ (0 < m ∧ zTerm (sg (m - 1))))
theorem zAg.st (h : zAg sg sg' vl vl' m) {k : Nat} (hk : k < m) {c : Int32} (e : sg k = c) (hc : ¬ zTerm c) (h5 : k + 1 ≤ 576) : k + 1 < m := by
  rcases h.2 with q | ⟨q1, q2⟩
  · omega
  · rcases Nat.lt_or_ge (k + 1) m with q | q
    · exact q
    · have : k = m - 1 := by omega
      rw [← this, e] at q2
      exact absurd q2 hc
theorem ag_opd (h : zAg sg sg' vl vl' m) {k : Nat} (hk : k < m) (h5 : k + 2 ≤ 576) : zOpd sg' vl' k = zOpd sg vl k ∧ (match zOpd sg vl k with
    | .inl (_, _, k') => k' ≤ k + 2 ∧ k' < m
    | .inr k' => k' < m) := by
  unfold zOpd
  rw [(h.1 k hk).1, (h.1 k hk).2]
  by_cases q : sg k = 45
  · have k1 := h.st hk q (by decide) (by omega)
    simp only [if_pos q]
    rw [(h.1 _ k1).1, (h.1 _ k1).2]
    refine ⟨by first | rfl | trivial, ?_⟩
    by_cases q2 : sg (k + 1) = 48
    · have k2 := h.st k1 q2 (by decide) (by omega)
      simp only [if_pos q2]
      exact ⟨Nat.le_refl _, k2⟩
    · simp only [if_neg q2]
      exact k1
  · simp only [if_neg q]
    refine ⟨by first | rfl | trivial, ?_⟩
    by_cases q2 : sg k = 48 ∨ sg k = 114 ∨ sg k = 105
    · have k2 : k + 1 < m := by
        rcases q2 with q2 | q2 | q2 <;> exact h.st hk q2 (by decide) (by omega)
      simp only [if_pos q2]
      exact ⟨by omega, k2⟩
    · simp only [if_neg q2]
      exact hk
theorem ag_shf (h : zAg sg sg' vl vl' m) {k : Nat} (hk : k < m) (h5 : k + 2 ≤ 576) : zShf sg' vl' k = zShf sg vl k ∧ (match zShf sg vl k with
    | .inl (_, k') => k' ≤ k + 2 ∧ k' < m
    | .inr k' => k' < m) := by
  unfold zShf
  rw [(h.1 k hk).1]
  by_cases q : sg k = 45 ∨ sg k = 43
  · have k1 : k + 1 < m := by rcases q with q | q <;> exact h.st hk q (by decide) (by omega)
    simp only [if_pos q]
    rw [(h.1 _ k1).1, (h.1 _ k1).2]
    refine ⟨by first | rfl | trivial, ?_⟩
    by_cases q2 : sg (k + 1) = 48 ∧ vl (k + 1) ≤ 250
    · have k2 := h.st k1 q2.1 (by decide) (by omega)
      simp only [if_pos q2]
      exact ⟨Nat.le_refl _, k2⟩
    · simp only [if_neg q2]
      exact k1
  · simp only [if_neg q]
    exact ⟨by first | rfl | trivial, by omega, hk⟩
theorem ag_spt2 (h : zAg sg sg' vl vl' m) {k : Nat} {mi : Bool} (hk : k < m) (h5 : k + 6 ≤ 576) : zSpt2 sg' vl' mi k = zSpt2 sg vl mi k ∧ (match zSpt2 sg vl mi k with
    | .inl (_, _, k') => k' ≤ k + 6 ∧ k' < m
    | .inr k' => k' < m) := by
  unfold zSpt2
  rw [(h.1 k hk).1, (h.1 k hk).2]
  by_cases q : sg k = 48 ∧ vl k ≤ (if mi then 4 else 250)
  · have k1 : k + 1 < m := h.st hk q.1 (by decide) (by omega)
    simp only [if_pos q]
    rw [(h.1 _ k1).1]
    by_cases q2 : mi = false ∧ ¬ sg (k + 1) = 42
    · simp only [if_pos q2]
      refine ⟨by first | rfl | trivial, ?_⟩
      by_cases q3 : sg (k + 1) = 93
      · simp only [if_pos q3]
        exact ⟨by omega, h.st k1 q3 (by decide) (by omega)⟩
      · simp only [if_neg q3]
        exact k1
    · simp only [if_neg q2]
      by_cases q3 : vl k ≤ 4
      · simp only [if_pos q3]
        by_cases q4 : sg (k + 1) = 42
        · simp only [if_pos q4]
          have k2 := h.st k1 q4 (by decide) (by omega)
          rw [(h.1 _ k2).1]
          by_cases q5 : sg (k + 2) = 105
          · simp only [if_pos q5]
            have k3 := h.st k2 q5 (by decide) (by omega)
            obtain ⟨e1, e2⟩ := ag_shf h (k := k + 3) k3 (by omega)
            rw [e1]
            cases hz : zShf sg vl (k + 3) with
            | inr k' =>
              rw [hz] at e2
              exact ⟨by first | rfl | trivial, e2⟩
            | inl y =>
              obtain ⟨s, k'⟩ := y
              rw [hz] at e2
              simp only at e2 ⊢
              rw [(h.1 _ e2.2).1]
              refine ⟨by first | rfl | trivial, ?_⟩
              by_cases q6 : sg k' = 93
              · simp only [if_pos q6]
                exact ⟨by omega, h.st e2.2 q6 (by decide) (by omega)⟩
              · simp only [if_neg q6]
                exact e2.2
          · simp only [if_neg q5]
            exact ⟨by first | rfl | trivial, k2⟩
        · simp only [if_neg q4]
          exact ⟨by first | rfl | trivial, k1⟩
      · simp only [if_neg q3]
        exact ⟨by first | rfl | trivial, hk⟩
  · simp only [if_neg q]
    exact ⟨by first | rfl | trivial, hk⟩
theorem ag_spt (h : zAg sg sg' vl vl' m) {k : Nat} (hk : k < m) (h5 : k + 9 ≤ 576) : zSpt sg' vl' k = zSpt sg vl k ∧ (match zSpt sg vl k with
    | .inl (_, _, _, k') => k' ≤ k + 9 ∧ k' < m
    | .inr k' => k' < m) := by
  unfold zSpt
  rw [(h.1 k hk).1, (h.1 k hk).2]
  by_cases q : sg k = 97
  · have k1 : k + 1 < m := h.st hk q (by decide) (by omega)
    simp only [if_pos q]
    rw [(h.1 _ k1).1]
    by_cases q2 : sg (k + 1) = 91
    · simp only [if_pos q2]
      have k2 := h.st k1 q2 (by decide) (by omega)
      rw [(h.1 _ k2).1]
      by_cases q3 : sg (k + 2) = 45
      · simp only [if_pos q3]
        have k3 := h.st k2 q3 (by decide) (by omega)
        obtain ⟨e1, e2⟩ := ag_spt2 h (k := k + 3) (mi := true) k3 (by omega)
        rw [e1]
        cases hz : zSpt2 sg vl true (k + 3) with
        | inr k' =>
          rw [hz] at e2
          exact ⟨by first | rfl | trivial, e2⟩
        | inl y =>
          obtain ⟨s, t, k'⟩ := y
          rw [hz] at e2
          exact ⟨by first | rfl | trivial, by have := e2.1; omega, e2.2⟩
      · simp only [if_neg q3]
        obtain ⟨e1, e2⟩ := ag_spt2 h (k := k + 2) (mi := false) k2 (by omega)
        rw [e1]
        cases hz : zSpt2 sg vl false (k + 2) with
        | inr k' =>
          rw [hz] at e2
          exact ⟨by first | rfl | trivial, e2⟩
        | inl y =>
          obtain ⟨s, t, k'⟩ := y
          rw [hz] at e2
          exact ⟨by first | rfl | trivial, by have := e2.1; omega, e2.2⟩
    · simp only [if_neg q2]
      exact ⟨by first | rfl | trivial, k1⟩
  · simp only [if_neg q]
    exact ⟨by first | rfl | trivial, hk⟩
theorem ag_rck (h : zAg sg sg' vl vl' m) {k : Nat} (hk : k < m) (h5 : k + 7 ≤ 576) : zRck sg' vl' k = zRck sg vl k ∧ (match zRck sg vl k with
    | .inl (_, _, _, _, _, _, k') => k' ≤ k + 7 ∧ k' < m
    | .inr k' => k' < m) := by
  unfold zRck
  rw [(h.1 k hk).1]
  by_cases q : sg k = 258 ∨ sg k = 259
  · have k1 : k + 1 < m := by rcases q with q | q <;> exact h.st hk q (by decide) (by omega)
    simp only [if_pos q]
    rw [(h.1 _ k1).1]
    by_cases q2 : sg (k + 1) = 40
    · simp only [if_pos q2]
      have k2 := h.st k1 q2 (by decide) (by omega)
      obtain ⟨e1, e2⟩ := ag_opd h (k := k + 2) k2 (by omega)
      rw [e1]
      cases hz : zOpd sg vl (k + 2) with
      | inr k' =>
        rw [hz] at e2
        exact ⟨by first | rfl | trivial, e2⟩
      | inl y =>
        obtain ⟨s, v, k'⟩ := y
        rw [hz] at e2
        simp only at e2 ⊢
        obtain ⟨e3, e4⟩ := ag_opd h (k := k') e2.2 (by omega)
        rw [e3]
        cases hz2 : zOpd sg vl k' with
        | inr k' =>
          rw [hz2] at e4
          exact ⟨by first | rfl | trivial, e4⟩
        | inl y =>
          obtain ⟨s2, v2, k3⟩ := y
          rw [hz2] at e4
          simp only at e4 ⊢
          rw [(h.1 _ e4.2).1]
          refine ⟨by first | rfl | trivial, ?_⟩
          by_cases q6 : sg k3 = 41
          · simp only [if_pos q6]
            exact ⟨by omega, h.st e4.2 q6 (by decide) (by omega)⟩
          · simp only [if_neg q6]
            exact e4.2
    · simp only [if_neg q2]
      exact ⟨by first | rfl | trivial, k1⟩
  · simp only [if_neg q]
    obtain ⟨e1, e2⟩ := ag_opd h (k := k) hk (by omega)
    rw [e1]
    cases hz : zOpd sg vl k with
    | inr k' =>
      rw [hz] at e2
      exact ⟨by first | rfl | trivial, e2⟩
    | inl y =>
      obtain ⟨s, v, k'⟩ := y
      rw [hz] at e2
      simp only at e2 ⊢
      rw [(h.1 _ e2.2).1]
      by_cases q6 : zIsOp (sg k')
      · simp only [if_pos q6]
        have k2 : k' + 1 < m := by
          rcases q6 with q6 | q6 | q6 | q6 | q6 | q6 | q6 | q6 | q6 <;> exact h.st e2.2 q6 (by decide) (by omega)
        obtain ⟨e3, e4⟩ := ag_opd h (k := k' + 1) k2 (by omega)
        rw [e3]
        cases hz2 : zOpd sg vl (k' + 1) with
        | inr k3 =>
          rw [hz2] at e4
          exact ⟨by first | rfl | trivial, e4⟩
        | inl y =>
          obtain ⟨s2, v2, k3⟩ := y
          rw [hz2] at e4
          simp only at e4 ⊢
          exact ⟨by first | rfl | trivial, by omega, e4.2⟩
      · simp only [if_neg q6]
        exact ⟨by first | rfl | trivial, e2.2⟩
theorem ag_row (h : zAg sg sg' vl vl' m) {k : Nat} (hk : k < m) (h5 : k + 12 ≤ 576) : zRwS sg' vl' k = zRwS sg vl k ∧ (match zRwS sg vl k with
    | .inl (_, k') => k' ≤ k + 12 ∧ k' < m
    | .inr k' => k' < m) := by
  unfold zRwS
  rw [(h.1 k hk).1, (h.1 k hk).2]
  by_cases q : sg k = 114
  · have k1 : k + 1 < m := h.st hk q (by decide) (by omega)
    simp only [if_pos q]
    rw [(h.1 _ k1).1]
    by_cases q2 : sg (k + 1) = 61
    · simp only [if_pos q2]
      have k2 := h.st k1 q2 (by decide) (by omega)
      rw [(h.1 _ k2).1]
      by_cases q3 : sg (k + 2) = 97
      · simp only [if_pos q3]
        obtain ⟨e1, e2⟩ := ag_spt h (k := k + 2) k2 (by omega)
        rw [e1]
        cases hz : zSpt sg vl (k + 2) with
        | inr k' =>
          rw [hz] at e2
          exact ⟨by first | rfl | trivial, e2⟩
        | inl y =>
          obtain ⟨a1, a2, a3, k'⟩ := y
          rw [hz] at e2
          simp only at e2 ⊢
          exact ⟨by first | rfl | trivial, by omega, e2.2⟩
      · simp only [if_neg q3]
        obtain ⟨e1, e2⟩ := ag_rck h (k := k + 2) k2 (by omega)
        rw [e1]
        cases hz : zRck sg vl (k + 2) with
        | inr k' =>
          rw [hz] at e2
          exact ⟨by first | rfl | trivial, e2⟩
        | inl y =>
          obtain ⟨a1, a2, a3, a4, a5, a6, k'⟩ := y
          rw [hz] at e2
          simp only at e2 ⊢
          exact ⟨by first | rfl | trivial, by omega, e2.2⟩
    · simp only [if_neg q2]
      exact ⟨by first | rfl | trivial, k1⟩
  · simp only [if_neg q]
    obtain ⟨e1, e2⟩ := ag_spt h (k := k) hk (by omega)
    rw [e1]
    cases hz : zSpt sg vl k with
    | inr k' =>
      rw [hz] at e2
      exact ⟨by first | rfl | trivial, e2⟩
    | inl y =>
      obtain ⟨a1, a2, a3, k'⟩ := y
      rw [hz] at e2
      simp only at e2 ⊢
      rw [(h.1 _ e2.2).1]
      by_cases q6 : sg k' = 61
      · simp only [if_pos q6]
        have k3 := h.st e2.2 q6 (by decide) (by omega)
        obtain ⟨e3, e4⟩ := ag_opd h (k := k' + 1) k3 (by omega)
        rw [e3]
        cases hz2 : zOpd sg vl (k' + 1) with
        | inr k3 =>
          rw [hz2] at e4
          exact ⟨by first | rfl | trivial, e4⟩
        | inl y =>
          obtain ⟨s2, v2, k3⟩ := y
          rw [hz2] at e4
          simp only at e4 ⊢
          exact ⟨by first | rfl | trivial, by omega, e4.2⟩
      · simp only [if_neg q6]
        exact ⟨by first | rfl | trivial, e2.2⟩
theorem ag_prs (h : zAg sg sg' vl vl' m) : ∀ (f x k : Nat), x + f = 48 → k ≤ 12 * x → k < m → zPrs sg' vl' f x k = zPrs sg vl f x k ∧ (match zPrs sg vl f x k with
    | .inl l => ∀ y ∈ l, y.1 < m
    | .inr k' => k' < m)
  | 0, x, k, hx, h5, hk => by
    unfold zPrs
    rw [(h.1 k hk).1]
    refine ⟨by first | rfl | trivial, ?_⟩
    by_cases q : sg k = -1
    · simp only [if_pos q]
      exact fun y hy => absurd hy (by simp)
    · simp only [if_neg q]
      exact hk
  | f + 1, x, k, hx, h5, hk => by
    unfold zPrs
    rw [(h.1 k hk).1]
    by_cases q : x ≠ 0 ∧ sg k = -1
    · simp only [if_pos q]
      exact ⟨by first | rfl | trivial, fun y hy => absurd hy (by simp)⟩
    · simp only [if_neg q]
      obtain ⟨e1, e2⟩ := ag_row h (k := k) hk (by omega)
      rw [e1]
      cases hz : zRwS sg vl k with
      | inr k' =>
        rw [hz] at e2
        exact ⟨by first | rfl | trivial, e2⟩
      | inl y =>
        obtain ⟨rc, k'⟩ := y
        rw [hz] at e2
        simp only at e2 ⊢
        obtain ⟨e3, e4⟩ := ag_prs h f (x + 1) k' (by omega) (by omega) e2.2
        rw [e3]
        cases hz2 : zPrs sg vl f (x + 1) k' with
        | inr k3 =>
          rw [hz2] at e4
          exact ⟨by first | rfl | trivial, e4⟩
        | inl l =>
          rw [hz2] at e4
          refine ⟨by first | rfl | trivial, fun y hy => ?_⟩
          rcases List.mem_cons.mp hy with rfl | hy
          · exact hk
          · exact e4 y hy
end AGREE
/-! what signs are like -/
theorem zD_le {ty : Nat → Int32} {a : Nat} (h : zDig (ty a) = true) : zD ty a ≤ 9 := by
  unfold zDig at h
  simp only [Bool.and_eq_true, decide_eq_true_eq] at h
  unfold zD
  have h1 := h.2
  rw [Int32.le_iff_toInt_le] at h1
  have h2 : (57 : Int32).toInt = 57 := by decide
  have h3 : (ty a).toNatClampNeg = (ty a).toInt.toNat := rfl
  omega
theorem zTok_ok (ty : Nat → Int32) (f a : Nat) : ((zTok ty f a).1 = 114 → (zTok ty f a).2.1 < 32) ∧ ((zTok ty f a).1 = 97 → (zTok ty f a).2.1 < 4) ∧ ((zTok ty f a).1 = 48 → (zTok ty f a).2.1 ≤ 1000) := by
  unfold zTok
  by_cases h0 : ty a < 0
  · rw [if_pos h0]
    exact ⟨fun h => absurd h (by first | decide | (simp only; decide)), fun h => absurd h (by first | decide | (simp only; decide)), fun h => absurd h (by first | decide | (simp only; decide))⟩
  rw [if_neg h0]
  by_cases h1 : zDig (ty a) = true
  · rw [if_pos h1]
    by_cases q : (zNum ty f a 0).1 ≤ 1000
    · simp only [if_pos q]
      exact ⟨fun h => absurd h (by first | decide | (simp only; decide)), fun h => absurd h (by first | decide | (simp only; decide)), fun _ => q⟩
    · simp only [if_neg q]
      exact ⟨fun h => absurd h (by first | decide | (simp only; decide)), fun h => absurd h (by first | decide | (simp only; decide)), fun h => absurd h (by first | decide | (simp only; decide))⟩
  rw [if_neg h1]
  by_cases h2 : ty a = 114
  · rw [if_pos h2]
    unfold zReg
    by_cases q : zDig (ty (a + 1)) = true
    · rw [if_pos q]
      by_cases q2 : zDig (ty (a + 2)) = true
      · rw [if_pos q2]
        by_cases q3 : zD ty (a + 1) * 10 + zD ty (a + 2) < 32
        · simp only [if_pos q3]
          exact ⟨fun _ => q3, fun h => absurd h (by first | decide | (simp only; decide)), fun h => absurd h (by first | decide | (simp only; decide))⟩
        · simp only [if_neg q3]
          exact ⟨fun h => absurd h (by first | decide | (simp only; decide)), fun h => absurd h (by first | decide | (simp only; decide)), fun h => absurd h (by first | decide | (simp only; decide))⟩
      · rw [if_neg q2]
        exact ⟨fun _ => by have := zD_le q; simp only; omega, fun h => absurd h (by first | decide | (simp only; decide)), fun h => absurd h (by first | decide | (simp only; decide))⟩
    · rw [if_neg q]
      exact ⟨fun h => absurd h (by first | decide | (simp only; decide)), fun h => absurd h (by first | decide | (simp only; decide)), fun h => absurd h (by first | decide | (simp only; decide))⟩
  rw [if_neg h2]
  by_cases h3 : 97 ≤ ty a ∧ ty a ≤ 100
  · rw [if_pos h3]
    refine ⟨fun h => absurd h (by first | decide | (simp only; decide)), fun _ => ?_, fun h => absurd h (by first | decide | (simp only; decide))⟩
    have h4 := h3.2
    rw [Int32.le_iff_toInt_le] at h4
    have h5 : (100 : Int32).toInt = 100 := by decide
    have h6 : (ty a).toNatClampNeg = (ty a).toInt.toNat := rfl
    simp only
    omega
  rw [if_neg h3]
  exact ⟨fun _ => by simp only; omega, fun _ => by simp only; omega, fun _ => by simp only; omega⟩
/-! what rows are like -/
def zTkOk (sg vl : Nat → Int32) : Prop := ∀ k, (sg k = 114 → ∃ v : Nat, v < 32 ∧ vl k = nI v) ∧ (sg k = 97 → ∃ v : Nat, v < 4 ∧ vl k = nI v) ∧ (sg k = 48 → ∃ v : Nat, v ≤ 1000 ∧ vl k = nI v)
def zOpOk (s v : Int32) : Prop := (s = 48 ∨ s = 105 ∨ s = 114) ∧ (s = 114 → ∃ t : Nat, t < 32 ∧ v = nI t)
def zPcOk (ar st sh : Int32) : Prop := (∃ t : Nat, t < 4 ∧ ar = nI t) ∧ (∃ t : Int, (-4 ≤ t ∧ t ≤ 4) ∧ st = zI t) ∧ (∃ t : Int, (-250 ≤ t ∧ t ≤ 250) ∧ sh = zI t)
def zRecOk (y : zRec) : Prop :=
  (y.1 = 0 ∨ y.1 = 1 ∨ y.1 = 2 ∨ y.1 = 3) ∧ (y.1 = 3 → y.2.2.1 = -1) ∧ (y.1 ≠ 3 → ∃ t : Nat, t < 32 ∧ y.2.2.1 = nI t) ∧
  (y.1 = 2 ∨ y.1 = 3 → ∃ t : Nat, t < 4 ∧ y.2.2.2.1 = nI t) ∧ (y.1 = 0 ∨ y.1 = 1 → y.2.2.2.1 = -1) ∧
  (∃ t : Int, (-4 ≤ t ∧ t ≤ 4) ∧ y.2.2.2.2.1 = zI t) ∧ (∃ t : Int, (-250 ≤ t ∧ t ≤ 250) ∧ y.2.2.2.2.2.1 = zI t) ∧
  zOpOk y.2.2.2.2.2.2.1 y.2.2.2.2.2.2.2.1 ∧ zOpOk y.2.2.2.2.2.2.2.2.1 y.2.2.2.2.2.2.2.2.2 ∧
  (y.1 = 2 → y.2.2.2.2.2.2.1 = 48) ∧ (y.1 = 2 ∨ y.1 = 3 → y.2.2.2.2.2.2.2.2.1 = 48) ∧
  (y.1 = 0 ∨ y.1 = 1 → (zIsOp y.2.1 ∨ y.2.1 = 258 ∨ y.2.1 = 259) ∧ (y.1 = 1 ↔ y.2.1 = 42))
section RECOK
variable {sg vl : Nat → Int32}
theorem zOpd_ok (h : zTkOk sg vl) {k : Nat} {s v : Int32} {k' : Nat} (e : zOpd sg vl k = .inl (s, v, k')) : zOpOk s v := by
  unfold zOpd at e
  by_cases q : sg k = 45
  · rw [if_pos q] at e
    by_cases q2 : sg (k + 1) = 48
    · rw [if_pos q2] at e
      injection e with e
      injection e with e1 e2
      rw [← e1]
      exact ⟨Or.inl rfl, fun z => absurd z (by decide)⟩
    · rw [if_neg q2] at e
      exact absurd e (by simp)
  · rw [if_neg q] at e
    by_cases q2 : sg k = 48 ∨ sg k = 114 ∨ sg k = 105
    · rw [if_pos q2] at e
      injection e with e
      injection e with e1 e2
      injection e2 with e2 e3
      rw [← e1, ← e2]
      refine ⟨by rcases q2 with q2 | q2 | q2 <;> simp [q2], fun z => ?_⟩
      obtain ⟨t, ht, e⟩ := (h k).1 z
      exact ⟨t, ht, e⟩
    · rw [if_neg q2] at e
      exact absurd e (by simp)
theorem zNm (h : zTkOk sg vl) {k : Nat} {b : Nat} (hb : b ≤ 1000) (h1 : sg k = 48) (h2 : vl k ≤ nI b) : ∃ t : Int, (0 ≤ t ∧ t ≤ b) ∧ vl k = zI t := by
  obtain ⟨t, ht, e⟩ := (h k).2.2 h1
  rw [e, nI_leI (by omega) (by omega)] at h2
  exact ⟨(t : Int), ⟨by omega, by omega⟩, by rw [e, zI_n]⟩
theorem zShf_ok (h : zTkOk sg vl) {k : Nat} {s : Int32} {k' : Nat} (e : zShf sg vl k = .inl (s, k')) : ∃ t : Int, (-250 ≤ t ∧ t ≤ 250) ∧ s = zI t := by
  unfold zShf at e
  by_cases q : sg k = 45 ∨ sg k = 43
  · rw [if_pos q] at e
    by_cases q2 : sg (k + 1) = 48 ∧ vl (k + 1) ≤ 250
    · rw [if_pos q2] at e
      injection e with e
      injection e with e1 e2
      obtain ⟨t, ht, et⟩ := zNm h (b := 250) (by omega) q2.1 q2.2
      by_cases q3 : sg k = 45
      · rw [if_pos q3, et, zI_neg] at e1
        exact ⟨-t, by omega, e1.symm⟩
      · rw [if_neg q3, et] at e1
        exact ⟨t, by omega, e1.symm⟩
    · rw [if_neg q2] at e
      exact absurd e (by simp)
  · rw [if_neg q] at e
    injection e with e
    injection e with e1 e2
    exact ⟨0, by omega, e1.symm⟩
theorem zSpt2_ok (h : zTkOk sg vl) {k : Nat} {mi : Bool} {st sh : Int32} {k' : Nat} (e : zSpt2 sg vl mi k = .inl (st, sh, k')) : (∃ t : Int, (-4 ≤ t ∧ t ≤ 4) ∧ st = zI t) ∧ (∃ t : Int, (-250 ≤ t ∧ t ≤ 250) ∧ sh = zI t) := by
  unfold zSpt2 at e
  by_cases q : sg k = 48 ∧ vl k ≤ (if mi then 4 else 250)
  · rw [if_pos q] at e
    have q250 : vl k ≤ 250 := by
      have := q.2
      cases mi
      · exact this
      · exact Int32.le_trans this (by decide)
    by_cases q2 : mi = false ∧ ¬ sg (k + 1) = 42
    · rw [if_pos q2] at e
      by_cases q3 : sg (k + 1) = 93
      · rw [if_pos q3] at e
        injection e with e
        injection e with e1 e2
        injection e2 with e2 e3
        obtain ⟨t, ht, et⟩ := zNm h (b := 250) (by omega) q.1 q250
        exact ⟨⟨0, by omega, e1.symm⟩, ⟨t, by omega, by rw [← e2]; exact et⟩⟩
      · rw [if_neg q3] at e
        exact absurd e (by simp)
    · rw [if_neg q2] at e
      by_cases q3 : vl k ≤ 4
      · rw [if_pos q3] at e
        by_cases q4 : sg (k + 1) = 42
        · rw [if_pos q4] at e
          by_cases q5 : sg (k + 2) = 105
          · rw [if_pos q5] at e
            cases hz : zShf sg vl (k + 3) with
            | inr k' =>
              rw [hz] at e
              exact absurd e (by simp)
            | inl y =>
              obtain ⟨s, k1⟩ := y
              rw [hz] at e
              simp only at e
              by_cases q6 : sg k1 = 93
              · rw [if_pos q6] at e
                injection e with e
                injection e with e1 e2
                injection e2 with e2 e3
                obtain ⟨t, ht, et⟩ := zNm h (b := 4) (by omega) q.1 q3
                refine ⟨?_, by rw [← e2]; exact zShf_ok h hz⟩
                cases mi
                · exact ⟨t, by omega, by rw [← e1]; exact et⟩
                · exact ⟨-t, by omega, by rw [← e1, ← zI_neg, ← et]; rfl⟩
              · rw [if_neg q6] at e
                exact absurd e (by simp)
          · rw [if_neg q5] at e
            exact absurd e (by simp)
        · rw [if_neg q4] at e
          exact absurd e (by simp)
      · rw [if_neg q3] at e
        exact absurd e (by simp)
  · rw [if_neg q] at e
    exact absurd e (by simp)
theorem zSpt_ok (h : zTkOk sg vl) {k : Nat} {ar st sh : Int32} {k' : Nat} (e : zSpt sg vl k = .inl (ar, st, sh, k')) : zPcOk ar st sh := by
  unfold zSpt at e
  by_cases q : sg k = 97
  · rw [if_pos q] at e
    by_cases q2 : sg (k + 1) = 91
    · rw [if_pos q2] at e
      have fin : ∀ (mi : Bool) (j : Nat), (match zSpt2 sg vl mi j with
          | .inl (c, p, k') => (Sum.inl (vl k, c, p, k') : (Int32 × Int32 × Int32 × Nat) ⊕ Nat)
          | .inr k' => .inr k') = .inl (ar, st, sh, k') → zPcOk ar st sh := by
        intro mi j e
        cases hz : zSpt2 sg vl mi j with
        | inr k' =>
          rw [hz] at e
          exact absurd e (by simp)
        | inl y =>
          obtain ⟨c, p, k1⟩ := y
          rw [hz] at e
          injection e with e
          injection e with e1 e2
          injection e2 with e2 e3
          injection e3 with e3 e4
          obtain ⟨g1, g2⟩ := zSpt2_ok h hz
          rw [← e1, ← e2, ← e3]
          exact ⟨(h k).2.1 q, g1, g2⟩
      by_cases q3 : sg (k + 2) = 45
      · rw [if_pos q3] at e
        exact fin _ _ e
      · rw [if_neg q3] at e
        exact fin _ _ e
    · rw [if_neg q2] at e
      exact absurd e (by simp)
  · rw [if_neg q] at e
    exact absurd e (by simp)
theorem zRck_ok (h : zTkOk sg vl) {k : Nat} {kd op s v s2 v2 : Int32} {k' : Nat} (e : zRck sg vl k = .inl (kd, op, s, v, s2, v2, k')) : (kd = 0 ∨ kd = 1) ∧ zOpOk s v ∧ zOpOk s2 v2 ∧ (zIsOp op ∨ op = 258 ∨ op = 259) ∧ (kd = 1 ↔ op = 42) := by
  unfold zRck at e
  by_cases q : sg k = 258 ∨ sg k = 259
  · rw [if_pos q] at e
    by_cases q2 : sg (k + 1) = 40
    · rw [if_pos q2] at e
      cases hz : zOpd sg vl (k + 2) with
      | inr k' =>
        rw [hz] at e
        exact absurd e (by simp)
      | inl y =>
        obtain ⟨t, u, k1⟩ := y
        rw [hz] at e
        simp only at e
        cases hz2 : zOpd sg vl k1 with
        | inr k' =>
          rw [hz2] at e
          exact absurd e (by simp)
        | inl y =>
          obtain ⟨t2, u2, k2⟩ := y
          rw [hz2] at e
          simp only at e
          by_cases q3 : sg k2 = 41
          · rw [if_pos q3] at e
            simp only [Sum.inl.injEq, Prod.mk.injEq] at e
            obtain ⟨rfl, rfl, rfl, rfl, rfl, rfl, -⟩ := e
            refine ⟨Or.inl rfl, zOpd_ok h hz, zOpd_ok h hz2, Or.inr q, ?_⟩
            rcases q with q | q <;> rw [q] <;> decide
          · rw [if_neg q3] at e
            exact absurd e (by simp)
    · rw [if_neg q2] at e
      exact absurd e (by simp)
  · rw [if_neg q] at e
    cases hz : zOpd sg vl k with
    | inr k' =>
      rw [hz] at e
      exact absurd e (by simp)
    | inl y =>
      obtain ⟨t, u, k1⟩ := y
      rw [hz] at e
      simp only at e
      by_cases q3 : zIsOp (sg k1)
      · rw [if_pos q3] at e
        cases hz2 : zOpd sg vl (k1 + 1) with
        | inr k' =>
          rw [hz2] at e
          exact absurd e (by simp)
        | inl y =>
          obtain ⟨t2, u2, k2⟩ := y
          rw [hz2] at e
          simp only [Sum.inl.injEq, Prod.mk.injEq] at e
          obtain ⟨rfl, rfl, rfl, rfl, rfl, rfl, -⟩ := e
          refine ⟨?_, zOpd_ok h hz, zOpd_ok h hz2, Or.inl q3, ?_⟩
          · by_cases q4 : sg k1 = 42
            · exact Or.inr (if_pos q4)
            · exact Or.inl (if_neg q4)
          · by_cases q4 : sg k1 = 42
            · rw [if_pos q4]
              exact ⟨fun _ => q4, fun _ => rfl⟩
            · rw [if_neg q4]
              exact ⟨fun z => absurd z (by decide), fun z => absurd z q4⟩
      · rw [if_neg q3] at e
        exact absurd e (by simp)
theorem zRwS_ok (h : zTkOk sg vl) {k : Nat} {y : zRec} {k' : Nat} (e : zRwS sg vl k = .inl (y, k')) : zRecOk y := by
  have z48 : zOpOk 48 0 := ⟨Or.inl rfl, fun z => absurd z (by decide)⟩
  have n0 : ∃ t : Int, (-4 ≤ t ∧ t ≤ 4) ∧ (0 : Int32) = zI t := ⟨0, by omega, rfl⟩
  have n1 : ∃ t : Int, (-250 ≤ t ∧ t ≤ 250) ∧ (0 : Int32) = zI t := ⟨0, by omega, rfl⟩
  unfold zRwS at e
  by_cases q : sg k = 114
  · rw [if_pos q] at e
    by_cases q2 : sg (k + 1) = 61
    · rw [if_pos q2] at e
      by_cases q3 : sg (k + 2) = 97
      · rw [if_pos q3] at e
        cases hz : zSpt sg vl (k + 2) with
        | inr k' =>
          rw [hz] at e
          exact absurd e (by simp)
        | inl x =>
          obtain ⟨ar, st, sh, k1⟩ := x
          rw [hz] at e
          simp only [Sum.inl.injEq, Prod.mk.injEq] at e
          obtain ⟨rfl, -⟩ := e
          obtain ⟨g1, g2, g3⟩ := zSpt_ok h hz
          exact ⟨Or.inr (Or.inr (Or.inl rfl)), fun z => absurd z (by simp only; decide), fun _ => (h k).1 q, fun _ => g1, fun z => absurd z (by simp only; decide), g2, g3, z48, z48, fun _ => rfl, fun _ => rfl, fun z => absurd z (by simp only; decide)⟩
      · rw [if_neg q3] at e
        cases hz : zRck sg vl (k + 2) with
        | inr k' =>
          rw [hz] at e
          exact absurd e (by simp)
        | inl x =>
          obtain ⟨kd, op, s, v, s2, v2, k1⟩ := x
          rw [hz] at e
          simp only [Sum.inl.injEq, Prod.mk.injEq] at e
          obtain ⟨rfl, -⟩ := e
          obtain ⟨g1, g2, g3, g4, g5⟩ := zRck_ok h hz
          have nk : ¬ (kd = 2 ∨ kd = 3) := by rcases g1 with rfl | rfl <;> decide
          exact ⟨g1.elim Or.inl (fun z => Or.inr (Or.inl z)), fun z => absurd (Or.inr z) nk, fun _ => (h k).1 q, fun z => absurd z nk, fun _ => rfl, n0, n1, g2, g3, fun z => absurd (Or.inl z) nk, fun z => absurd z nk, fun _ => ⟨g4, g5⟩⟩
    · rw [if_neg q2] at e
      exact absurd e (by simp)
  · rw [if_neg q] at e
    cases hz : zSpt sg vl k with
    | inr k' =>
      rw [hz] at e
      exact absurd e (by simp)
    | inl x =>
      obtain ⟨ar, st, sh, k1⟩ := x
      rw [hz] at e
      simp only at e
      by_cases q2 : sg k1 = 61
      · rw [if_pos q2] at e
        cases hz2 : zOpd sg vl (k1 + 1) with
        | inr k' =>
          rw [hz2] at e
          exact absurd e (by simp)
        | inl x =>
          obtain ⟨s, v, k2⟩ := x
          rw [hz2] at e
          simp only [Sum.inl.injEq, Prod.mk.injEq] at e
          obtain ⟨rfl, -⟩ := e
          obtain ⟨g1, g2, g3⟩ := zSpt_ok h hz
          exact ⟨Or.inr (Or.inr (Or.inr rfl)), fun _ => rfl, fun z => absurd rfl z, fun _ => g1, fun z => absurd z (by simp only; decide), g2, g3, zOpd_ok h hz2, z48, fun z => absurd z (by simp only; decide), fun _ => rfl, fun z => absurd z (by simp only; decide)⟩
      · rw [if_neg q2] at e
        exact absurd e (by simp)
theorem zPrs_ok (h : zTkOk sg vl) : ∀ (f x k : Nat) (l : List (Nat × zRec)), zPrs sg vl f x k = .inl l → (∀ y ∈ l, zRecOk y.2) ∧ l.length ≤ f ∧ (x = 0 → 0 < f → 0 < l.length)
  | 0, x, k, l, e => by
    unfold zPrs at e
    by_cases q : sg k = -1
    · rw [if_pos q] at e
      injection e with e
      subst e
      exact ⟨fun y hy => absurd hy (by simp), Nat.le_refl _, fun _ z => absurd z (by omega)⟩
    · rw [if_neg q] at e
      exact absurd e (by simp)
  | f + 1, x, k, l, e => by
    unfold zPrs at e
    by_cases q : x ≠ 0 ∧ sg k = -1
    · rw [if_pos q] at e
      injection e with e
      subst e
      exact ⟨fun y hy => absurd hy (by simp), by simp, fun z => absurd z q.1⟩
    · rw [if_neg q] at e
      cases hz : zRwS sg vl k with
      | inr k' =>
        rw [hz] at e
        exact absurd e (by simp)
      | inl y =>
        obtain ⟨rc, k'⟩ := y
        rw [hz] at e
        simp only at e
        cases hz2 : zPrs sg vl f (x + 1) k' with
        | inr k3 =>
          rw [hz2] at e
          exact absurd e (by simp)
        | inl l' =>
          rw [hz2] at e
          injection e with e
          subst e
          obtain ⟨i1, i2, -⟩ := zPrs_ok h f (x + 1) k' l' hz2
          refine ⟨fun y hy => ?_, by simp; omega, fun _ _ => by simp⟩
          rcases List.mem_cons.mp hy with rfl | hy
          · exact zRwS_ok h hz
          · exact i1 y hy
end RECOK
