-- needs: 27
/-! a row of a text -/
section ROWSPEC
variable (sg vl : Nat → Int32)
abbrev zIsOp (s : Int32) : Prop := s = 38 ∨ s = 42 ∨ s = 43 ∨ s = 45 ∨ s = 60 ∨ s = 94 ∨ s = 124 ∨ s = 256 ∨ s = 257
/-- kind, operator, left sort and value, right sort and value, where it ends -/
abbrev zRk := Int32 × Int32 × Int32 × Int32 × Int32 × Int32 × Nat
def zRck (k : Nat) : zRk ⊕ Nat :=
  if sg k = 258 ∨ sg k = 259 then
    (if sg (k + 1) = 40 then
      (match zOpd sg vl (k + 2) with
      | .inl (s, v, k1) =>
        (match zOpd sg vl k1 with
        | .inl (s2, v2, k2) => if sg k2 = 41 then .inl (0, sg k, s, v, s2, v2, k2 + 1) else .inr k2
        | .inr k2 => .inr k2)
      | .inr k1 => .inr k1)
    else .inr (k + 1))
  else
    (match zOpd sg vl k with
    | .inl (s, v, k1) =>
      if zIsOp (sg k1) then
        (match zOpd sg vl (k1 + 1) with
        | .inl (s2, v2, k2) => .inl (if sg k1 = 42 then 1 else 0, sg k1, s, v, s2, v2, k2)
        | .inr k2 => .inr k2)
      else .inr k1
    | .inr k1 => .inr k1)
/-- kind, operator, target, array, step, shift, left sort and value, right sort and value -/
abbrev zRec := Int32 × Int32 × Int32 × Int32 × Int32 × Int32 × Int32 × Int32 × Int32 × Int32
def zRwS (k : Nat) : (zRec × Nat) ⊕ Nat :=
  if sg k = 114 then
    (if sg (k + 1) = 61 then
      (if sg (k + 2) = 97 then
        (match zSpt sg vl (k + 2) with
        | .inl (ar, st, sh, k') => .inl ((2, 43, vl k, ar, st, sh, 48, 0, 48, 0), k')
        | .inr k' => .inr k')
      else
        (match zRck sg vl (k + 2) with
        | .inl (kd, op, s, v, s2, v2, k') => .inl ((kd, op, vl k, -1, 0, 0, s, v, s2, v2), k')
        | .inr k' => .inr k'))
    else .inr (k + 1))
  else
    (match zSpt sg vl k with
    | .inl (ar, st, sh, k') =>
      if sg k' = 61 then
        (match zOpd sg vl (k' + 1) with
        | .inl (s, v, k2) => .inl ((3, 43, -1, ar, st, sh, s, v, 48, 0), k2)
        | .inr k2 => .inr k2)
      else .inr k'
    | .inr k' => .inr k')
end ROWSPEC
/-- a row's cells -/
def zRowAt (a : Nat → Nat → Int32) (w : Nat) (p : Int32) (x : zRec) : Prop :=
  a (29 + 3 * w) 0 = x.1 ∧ a (29 + 3 * w) 1 = x.2.1 ∧ a (29 + 3 * w) 2 = x.2.2.1 ∧ a (29 + 3 * w) 3 = p ∧ a (29 + 3 * w) 4 = x.2.2.2.1 ∧ a (29 + 3 * w) 5 = x.2.2.2.2.1 ∧ a (29 + 3 * w) 6 = x.2.2.2.2.2.1 ∧ a (30 + 3 * w) 0 = x.2.2.2.2.2.2.1 ∧ a (30 + 3 * w) 1 = x.2.2.2.2.2.2.2.1 ∧ a (31 + 3 * w) 0 = x.2.2.2.2.2.2.2.2.1 ∧ a (31 + 3 * w) 1 = x.2.2.2.2.2.2.2.2.2
section ROW
variable (G : zG) (r : Bool) (ad ln : Nat → Nat) (al a : Nat → Nat → Int32) {k w : Nat}
theorem q_readOperand (hfr : zFr (zL w) al a) (hk : a 7 2 = nI k) (hk2 : k ≤ 577) (o : Nat) (ho : zOp r o) (ho7 : o ≠ 7 ∧ o ≠ 9 ∧ o ≠ 11) : zMi G yX2_readOperand wsX2_readOperand rmX2_readOperand (zTC r) ad ln [.ref (ad 7), .ref (ad o)] a (fun q a' => match zOpd (zSgA al) (zVlA al) k with
    | .inl (s, v, k') => q = 1 ∧ a' = up2 (up2 (up2 a o 0 s) o 1 v) 7 2 (nI k') ∧ k' ≤ 577
    | .inr k' => q = 0 ∧ a' = up2 a 7 2 (nI k') ∧ k' ≤ 577) := by
  refine (c_readOperand G r ad ln a hk hk2 o ho ho7).mono (fun q a' hq => ?_)
  have e : zOpd (zSgA a) (zVlA a) k = zOpd (zSgA al) (zVlA al) k := by
    unfold zOpd
    rw [zSgA_fr hfr (zL9 w).1, zSgA_fr hfr (zL9 w).1, zVlA_fr hfr (zL9 w).2.2, zVlA_fr hfr (zL9 w).2.2]
  rw [e] at hq
  exact hq
theorem c_readOperator (hw : w < 48) (hfr : zFr (zL w) al a) (hk : a 7 2 = nI k) (hk2 : k ≤ 577) : zMi G yX2_readOperator wsX2_readOperator rmX2_readOperator (zTC r) ad ln [.ref (ad 7), .ref (ad (29 + 3 * w))] a (fun q a' => (zIsOp (zSgA al k) ∧ q = 1 ∧ a' = up2 (up2 (up2 a (29 + 3 * w) 1 (zSgA al k)) (29 + 3 * w) 0 (if zSgA al k = 42 then 1 else 0)) 7 2 (nI (k + 1)) ∧ k < 577) ∨ (¬ zIsOp (zSgA al k) ∧ q = 0 ∧ a' = a)) := by
  refine zMi.of (cc := cX2_readOperator) (nL := 2) (rt := .boolean) (by decide) rfl (Nat.le_of_ble_eq_true rfl) (fun Z X hR => ?_)
  refine tX2_readOperator_0 X w hw hR a ?_
  generalize hP : (fun (q : Int32) (a' : Nat → Nat → Int32) => (zIsOp (zSgA al k) ∧ q = 1 ∧ a' = up2 (up2 (up2 a (29 + 3 * w) 1 (zSgA al k)) (29 + 3 * w) 0 (if zSgA al k = 42 then 1 else 0)) 7 2 (nI (k + 1)) ∧ k < 577) ∨ (¬ zIsOp (zSgA al k) ∧ q = 0 ∧ a' = a)) = P
  unfold vcX2_readOperator_0
  refine (q_sign G r ad ln al a hfr hk hk2).mono (fun q a1 hq => ?_)
  obtain ⟨rfl, e1⟩ := hq
  obtain rfl := e1.symm
  have n7 : ∀ j : Nat, ¬ (7 = 29 + 3 * w ∧ 2 = j) := fun j z => absurd z.1 (by omega)
  have go : zIsOp (zSgA al k) → zMi G yX2_sign wsX2_sign rmX2_sign (zTC r) ad ln [.ref (ad 7)] a (fun q3 a3 => (¬ q3 = (42 : Int32) → vcX2_readOperator_111 G r ad ln w hw P (0 : Int32) (up2 a3 (29 + 3 * w) 1 q3)) ∧ (q3 = (42 : Int32) → vcX2_readOperator_111 G r ad ln w hw P (1 : Int32) (up2 a3 (29 + 3 * w) 1 q3))) := by
    intro ho
    have h577 : k < 577 := zSgA_lt (al := al) (fun z => by rw [z] at ho; revert ho; decide)
    refine (q_sign G r ad ln al a hfr hk hk2).mono (fun q a1 hq => ?_)
    obtain ⟨rfl, e1⟩ := hq
    obtain rfl := e1.symm
    unfold vcX2_readOperator_111
    rw [← hP]
    refine ⟨fun h => Or.inl ⟨ho, rfl, ?_, h577⟩, fun h => Or.inl ⟨ho, rfl, ?_, h577⟩⟩
    · rw [if_neg h, up2_ne _ _ (n7 _), up2_ne _ _ (n7 _), hk, nI_1]
    · rw [if_pos h, up2_ne _ _ (n7 _), up2_ne _ _ (n7 _), hk, nI_1]
  refine ⟨fun h => go (Or.inl h), fun h1 => ⟨fun h => go (Or.inr (Or.inl h)), fun h2 => ⟨fun h => go (Or.inr (Or.inr (Or.inl h))), fun h3 => ⟨fun h => go (Or.inr (Or.inr (Or.inr (Or.inl h)))), fun h4 => ⟨fun h => go (Or.inr (Or.inr (Or.inr (Or.inr (Or.inl h))))), fun h5 => ⟨fun h => go (Or.inr (Or.inr (Or.inr (Or.inr (Or.inr (Or.inl h)))))), fun h6 => ⟨fun h => go (Or.inr (Or.inr (Or.inr (Or.inr (Or.inr (Or.inr (Or.inl h))))))), fun h7 => ⟨fun h => go (Or.inr (Or.inr (Or.inr (Or.inr (Or.inr (Or.inr (Or.inr (Or.inl h)))))))), fun h8 => ⟨fun h => go (Or.inr (Or.inr (Or.inr (Or.inr (Or.inr (Or.inr (Or.inr (Or.inr h)))))))), fun h9 => ?_⟩⟩⟩⟩⟩⟩⟩⟩⟩
  rw [← hP]
  refine Or.inr ⟨?_, rfl, rfl⟩
  rintro (z | z | z | z | z | z | z | z | z) <;> contradiction
/-- what a reckoning leaves -/
def zRkPost (a : Nat → Nat → Int32) (w : Nat) (x : zRk ⊕ Nat) (q : Int32) (a' : Nat → Nat → Int32) : Prop := zFr (zL w) a a' ∧ (∀ j, j ≠ 0 → j ≠ 1 → a' (29 + 3 * w) j = a (29 + 3 * w) j) ∧ match x with
    | .inl (kd, op, s, v, s2, v2, k') => q = 1 ∧ a' 7 2 = nI k' ∧ k' ≤ 577 ∧ a' (29 + 3 * w) 0 = kd ∧ a' (29 + 3 * w) 1 = op ∧ a' (30 + 3 * w) 0 = s ∧ a' (30 + 3 * w) 1 = v ∧ a' (31 + 3 * w) 0 = s2 ∧ a' (31 + 3 * w) 1 = v2
    | .inr k' => q = 0 ∧ a' 7 2 = nI k' ∧ k' ≤ 577
theorem c_readReckoning (hw : w < 48) (hfr : zFr (zL w) al a) (hk : a 7 2 = nI k) (hk2 : k ≤ 577) (h0 : a (29 + 3 * w) 0 = 0) : zMi G yX2_readReckoning wsX2_readReckoning rmX2_readReckoning (zTC r) ad ln [.ref (ad 7), .ref (ad (29 + 3 * w))] a (zRkPost a w (zRck (zSgA al) (zVlA al) k)) := by
  refine zMi.of (cc := cX2_readReckoning) (nL := 2) (rt := .boolean) (by decide) rfl (Nat.le_of_ble_eq_true rfl) (fun Z X hR => ?_)
  refine tX2_readReckoning_0 X w hw hR a ?_
  generalize hP : zRkPost a w (zRck (zSgA al) (zVlA al) k) = P
  have x1 : (30 + 3 * w = 29 + 3 * w) = False := by simp
  have x2 : (31 + 3 * w = 29 + 3 * w) = False := by simp
  have x3 : (29 + 3 * w = 30 + 3 * w) = False := by simp
  have x4 : (29 + 3 * w = 31 + 3 * w) = False := by simp
  have x5 : (30 + 3 * w = 31 + 3 * w) = False := by simp
  have x6 : (31 + 3 * w = 30 + 3 * w) = False := by simp
  have x7 : (29 + 3 * w = 7) = False := by simp; omega
  have x8 : (30 + 3 * w = 7) = False := by simp; omega
  have x9 : (31 + 3 * w = 7) = False := by simp; omega
  have y7 : (7 = 29 + 3 * w) = False := by simp; omega
  have y8 : (7 = 30 + 3 * w) = False := by simp; omega
  have y9 : (7 = 31 + 3 * w) = False := by simp; omega
  obtain ⟨l1, l2, l3, l4⟩ := zLr w
  have o1 : 30 + 3 * w ≠ 7 ∧ 30 + 3 * w ≠ 9 ∧ 30 + 3 * w ≠ 11 := by omega
  have o2 : 31 + 3 * w ≠ 7 ∧ 31 + 3 * w ≠ 9 ∧ 31 + 3 * w ≠ 11 := by omega
  have bad : ∀ (k' : Nat) (a' : Nat → Nat → Int32), zRck (zSgA al) (zVlA al) k = .inr k' → zFr (zL w) a a' → (∀ j, j ≠ 0 → j ≠ 1 → a' (29 + 3 * w) j = a (29 + 3 * w) j) → a' 7 2 = nI k' → k' ≤ 577 → zOk .boolean 0 ∧ P 0 a' := by
    intro k' a' e f fj h7 hk'
    refine ⟨rfl, ?_⟩
    rw [← hP]
    refine ⟨f, fj, ?_⟩
    rw [e]
    exact ⟨rfl, h7, hk'⟩
  have s56 : (zSgA al k = 258 ∨ zSgA al k = 259) → vcX2_readReckoning_56 G r ad ln w hw P a := by
    intro hm
    have h577 : k < 577 := zSgA_lt (al := al) (fun z => by rw [z] at hm; revert hm; decide)
    unfold vcX2_readReckoning_56 vcX2_readReckoning_118 vcX2_readReckoning_119
    refine (q_sign G r ad ln al a hfr hk hk2).mono (fun q a1 hq => ?_)
    obtain ⟨rfl, e1⟩ := hq
    obtain rfl := e1.symm
    have e7 : up2 a (29 + 3 * w) 1 (zSgA al k) 7 2 + 1 = nI (k + 1) := by rw [up2_ne _ _ (fun z => absurd z.1 (by omega)), hk, nI_1]
    rw [e7]
    have f1 : zFr (zL w) al (up2 (up2 a (29 + 3 * w) 1 (zSgA al k)) 7 2 (nI (k + 1))) := (hfr.up l1 _ _).up l4 _ _
    have g1 : zFr (zL w) a (up2 (up2 a (29 + 3 * w) 1 (zSgA al k)) 7 2 (nI (k + 1))) := (zFr.rf.up l1 _ _).up l4 _ _
    refine (q_skip G r ad ln al _ f1 (up2_self _ _ _ _) (by omega) (t := 40) (by decide)).mono (fun q2 a2 hq => ?_)
    rcases hq with ⟨g2, rfl, rfl, g4⟩ | ⟨g2, rfl, rfl⟩
    · refine ⟨fun z => absurd z (by decide), fun _ => ?_⟩
      rw [up2_up2]
      refine (q_readOperand G r ad ln al _ ((hfr.up l1 _ _).up l4 _ _) (up2_self _ _ _ _) (by omega) (30 + 3 * w) (zOp_l r hw) o1).mono (fun q4 a4 hq => ?_)
      cases hz : zOpd (zSgA al) (zVlA al) (k + 1 + 1) with
      | inr k1 =>
        rw [hz] at hq
        obtain ⟨rfl, rfl, hk1⟩ := hq
        refine ⟨fun _ => bad k1 _ ?_ ((g1.up l4 _ _).mono (fun _ h => h) |> fun h => by rw [up2_up2] at h; rw [up2_up2]; exact h) (fun j j0 j1 => ?_) (up2_self _ _ _ _) hk1, fun z => absurd rfl z⟩
        · unfold zRck
          rw [if_pos hm, if_pos g2]
          simp only [hz]
        · simp [up2, x7, j1]
      | inl y =>
        obtain ⟨s, v, k1⟩ := y
        rw [hz] at hq
        obtain ⟨rfl, rfl, hk1⟩ := hq
        refine ⟨fun z => absurd z (by decide), fun _ => ?_⟩
        refine (q_readOperand G r ad ln al _ (((((hfr.up l1 _ _).up l4 _ _).up l2 _ _).up l2 _ _).up l4 _ _) (up2_self _ _ _ _) hk1 (31 + 3 * w) (zOp_r r hw) o2).mono (fun q6 a6 hq => ?_)
        cases hz2 : zOpd (zSgA al) (zVlA al) k1 with
        | inr k2 =>
          rw [hz2] at hq
          obtain ⟨rfl, rfl, hk3⟩ := hq
          refine ⟨fun _ => bad k2 _ ?_ ((((((zFr.rf.up l1 _ _).up l4 _ _).up l2 _ _).up l2 _ _).up l4 _ _).up l4 _ _) (fun j j0 j1 => ?_) (up2_self _ _ _ _) hk3, fun z => absurd rfl z⟩
          · unfold zRck
            rw [if_pos hm, if_pos g2]
            simp only [hz, hz2]
          · simp [up2, x7, x3, j1]
        | inl y =>
          obtain ⟨s2, v2, k2⟩ := y
          rw [hz2] at hq
          obtain ⟨rfl, rfl, hk3⟩ := hq
          refine ⟨fun z => absurd z (by decide), fun _ => ?_⟩
          refine (q_skip G r ad ln al _ ((((((((hfr.up l1 _ _).up l4 _ _).up l2 _ _).up l2 _ _).up l4 _ _).up l3 _ _).up l3 _ _).up l4 _ _) (up2_self _ _ _ _) hk3 (t := 41) (by decide)).mono (fun q8 a8 hq => ?_)
          have ff : zFr (zL w) a (up2 (up2 (up2 (up2 (up2 (up2 (up2 (up2 a (29 + 3 * w) 1 (zSgA al k)) 7 2 (nI (k + 1 + 1))) (30 + 3 * w) 0 s) (30 + 3 * w) 1 v) 7 2 (nI k1)) (31 + 3 * w) 0 s2) (31 + 3 * w) 1 v2) 7 2 (nI k2)) := ((((((((zFr.rf.up l1 _ _).up l4 _ _).up l2 _ _).up l2 _ _).up l4 _ _).up l3 _ _).up l3 _ _).up l4 _ _)
          rcases hq with ⟨g5, rfl, rfl, g6⟩ | ⟨g5, rfl, rfl⟩
          · refine ⟨fun z => absurd z (by decide), fun _ => ⟨rfl, ?_⟩⟩
            rw [← hP]
            refine ⟨ff.up l4 _ _, fun j j0 j1 => by simp [up2, x7, x3, x4, j1], ?_⟩
            have e : zRck (zSgA al) (zVlA al) k = .inl (0, zSgA al k, s, v, s2, v2, k2 + 1) := by
              unfold zRck
              rw [if_pos hm, if_pos g2]
              simp only [hz, hz2, if_pos g5]
            rw [e]
            refine ⟨rfl, up2_self _ _ _ _, by omega, ?_, ?_, ?_, ?_, ?_, ?_⟩ <;> simp [up2, x1, x2, x3, x4, x5, x6, x7, x8, x9, h0]
          · refine ⟨fun _ => bad k2 _ ?_ ff (fun j j0 j1 => by simp [up2, x7, x3, x4, j1]) (up2_self _ _ _ _) hk3, fun z => absurd rfl z⟩
            unfold zRck
            rw [if_pos hm, if_pos g2]
            simp only [hz, hz2, if_neg g5]
    · refine ⟨fun _ => bad (k + 1) _ ?_ g1 (fun j j0 j1 => by simp [up2, x7, j1]) (up2_self _ _ _ _) (by omega), fun z => absurd rfl z⟩
      unfold zRck
      rw [if_pos hm, if_neg g2]
  unfold vcX2_readReckoning_0 vcX2_readReckoning_54 vcX2_readReckoning_55
  refine (q_sign G r ad ln al a hfr hk hk2).mono (fun q a1 hq => ?_)
  obtain ⟨rfl, e1⟩ := hq
  obtain rfl := e1.symm
  refine ⟨fun h => s56 (Or.inl h), fun h258 => ?_⟩
  refine (q_sign G r ad ln al a hfr hk hk2).mono (fun q a1 hq => ?_)
  obtain ⟨rfl, e1⟩ := hq
  obtain rfl := e1.symm
  refine ⟨fun h => s56 (Or.inr h), fun h259 => ?_⟩
  have hm : ¬ (zSgA al k = 258 ∨ zSgA al k = 259) := fun z => z.elim h258 h259
  refine (q_readOperand G r ad ln al _ hfr hk hk2 (30 + 3 * w) (zOp_l r hw) o1).mono (fun q4 a4 hq => ?_)
  cases hz : zOpd (zSgA al) (zVlA al) k with
  | inr k1 =>
    rw [hz] at hq
    obtain ⟨rfl, rfl, hk1⟩ := hq
    refine ⟨fun _ => bad k1 _ ?_ (zFr.rf.up l4 _ _) (fun j j0 j1 => by simp [up2, x7]) (up2_self _ _ _ _) hk1, fun z => absurd rfl z⟩
    unfold zRck
    rw [if_neg hm]
    simp only [hz]
  | inl y =>
    obtain ⟨s, v, k1⟩ := y
    rw [hz] at hq
    obtain ⟨rfl, rfl, hk1⟩ := hq
    refine ⟨fun z => absurd z (by decide), fun _ => ?_⟩
    refine (c_readOperator G r ad ln al _ hw (((hfr.up l2 _ _).up l2 _ _).up l4 _ _) (up2_self _ _ _ _) hk1).mono (fun q6 a6 hq => ?_)
    rcases hq with ⟨g5, rfl, rfl, g6⟩ | ⟨g5, rfl, rfl⟩
    · refine ⟨fun z => absurd z (by decide), fun _ => ?_⟩
      refine (q_readOperand G r ad ln al _ ((((((hfr.up l2 _ _).up l2 _ _).up l4 _ _).up l1 _ _).up l1 _ _).up l4 _ _) (up2_self _ _ _ _) (by omega) (31 + 3 * w) (zOp_r r hw) o2).mono (fun q8 a8 hq => ?_)
      cases hz2 : zOpd (zSgA al) (zVlA al) (k1 + 1) with
      | inr k2 =>
        rw [hz2] at hq
        obtain ⟨rfl, rfl, hk3⟩ := hq
        refine ⟨fun _ => bad k2 _ ?_ (((((((zFr.rf.up l2 _ _).up l2 _ _).up l4 _ _).up l1 _ _).up l1 _ _).up l4 _ _).up l4 _ _) (fun j j0 j1 => by simp [up2, x7, x3, j0, j1]) (up2_self _ _ _ _) hk3, fun z => absurd rfl z⟩
        unfold zRck
        rw [if_neg hm]
        simp only [hz, hz2, if_pos g5]
      | inl y =>
        obtain ⟨s2, v2, k2⟩ := y
        rw [hz2] at hq
        obtain ⟨rfl, rfl, hk3⟩ := hq
        refine ⟨fun z => absurd z (by decide), fun _ => ⟨rfl, ?_⟩⟩
        rw [← hP]
        refine ⟨(((((((((zFr.rf.up l2 _ _).up l2 _ _).up l4 _ _).up l1 _ _).up l1 _ _).up l4 _ _).up l3 _ _).up l3 _ _).up l4 _ _), fun j j0 j1 => by simp [up2, x7, x3, x4, j0, j1], ?_⟩
        have e : zRck (zSgA al) (zVlA al) k = .inl (if zSgA al k1 = 42 then 1 else 0, zSgA al k1, s, v, s2, v2, k2) := by
          unfold zRck
          rw [if_neg hm]
          simp only [hz, hz2, if_pos g5]
        rw [e]
        refine ⟨rfl, up2_self _ _ _ _, by omega, ?_, ?_, ?_, ?_, ?_, ?_⟩ <;> simp [up2, x1, x2, x3, x4, x5, x6, x7, x8, x9]
    · refine ⟨fun _ => bad k1 _ ?_ (((zFr.rf.up l2 _ _).up l2 _ _).up l4 _ _) (fun j j0 j1 => by simp [up2, x7, x3]) (up2_self _ _ _ _) hk1, fun z => absurd rfl z⟩
      unfold zRck
      rw [if_neg hm]
      simp only [hz, if_neg g5]
theorem zClear_fr (al : Nat → Nat → Int32) (w : Nat) (p : Int32) : zFr (zL w) al (zClear al w p) := by
  intro x hx
  have h1 : ¬ x = 29 + 3 * w := fun z => hx (by simp [z])
  have h2 : ¬ (x = 30 + 3 * w ∨ x = 31 + 3 * w) := fun z => hx (by rcases z with z | z <;> simp [z])
  funext b
  simp only [zClear, if_neg h1, if_neg h2]
/-- what a row leaves -/
def zRwPost (a : Nat → Nat → Int32) (w : Nat) (p : Int32) (x : (zRec × Nat) ⊕ Nat) (q : Int32) (a' : Nat → Nat → Int32) : Prop := zFr (zL w) a a' ∧ match x with
    | .inl (y, k') => q = 1 ∧ a' 7 2 = nI k' ∧ k' ≤ 577 ∧ zRowAt a' w p y
    | .inr k' => q = 0 ∧ a' 7 2 = nI k' ∧ k' ≤ 577
theorem c_readRow (hw : w < 48) (hk : a 7 2 = nI k) (hk2 : k ≤ 577) : zMi G yX2_readRow wsX2_readRow rmX2_readRow (zTC r) ad ln [.ref (ad 7), .ref (ad (29 + 3 * w))] a (zRwPost a w (zPlA a k) (zRwS (zSgA a) (zVlA a) k)) := by
  refine zMi.of (cc := cX2_readRow) (nL := 2) (rt := .boolean) (by decide) rfl (Nat.le_of_ble_eq_true rfl) (fun Z X hR => ?_)
  refine tX2_readRow_0 X w hw hR a ?_
  generalize hP : zRwPost a w (zPlA a k) (zRwS (zSgA a) (zVlA a) k) = P
  obtain ⟨l1, l2, l3, l4⟩ := zLr w
  have o1 : 30 + 3 * w ≠ 7 ∧ 30 + 3 * w ≠ 9 ∧ 30 + 3 * w ≠ 11 := by omega
  have x1 : (30 + 3 * w = 29 + 3 * w) = False := by simp
  have x2 : (31 + 3 * w = 29 + 3 * w) = False := by simp
  have x3 : (29 + 3 * w = 30 + 3 * w) = False := by simp
  have x5 : (31 + 3 * w = 30 + 3 * w) = False := by simp
  have x7 : (29 + 3 * w = 7) = False := by simp; omega
  have x8 : (30 + 3 * w = 7) = False := by simp; omega
  have x9 : (31 + 3 * w = 7) = False := by simp; omega
  have y7 : (7 = 29 + 3 * w) = False := by simp; omega
  have y8 : (7 = 30 + 3 * w) = False := by simp; omega
  have y9 : (7 = 31 + 3 * w) = False := by simp; omega
  have bad : ∀ (k' : Nat) (a' : Nat → Nat → Int32), zRwS (zSgA a) (zVlA a) k = .inr k' → zFr (zL w) a a' → a' 7 2 = nI k' → k' ≤ 577 → P 0 a' := by
    intro k' a' e f h7 hk'
    rw [← hP]
    refine ⟨f, ?_⟩
    rw [e]
    exact ⟨rfl, h7, hk'⟩
  have good : ∀ (y : zRec) (k' : Nat) (a' : Nat → Nat → Int32), zRwS (zSgA a) (zVlA a) k = .inl (y, k') → zFr (zL w) a a' → a' 7 2 = nI k' → k' ≤ 577 → zRowAt a' w (zPlA a k) y → P 1 a' := by
    intro y k' a' e f h7 hk' hr
    rw [← hP]
    refine ⟨f, ?_⟩
    rw [e]
    exact ⟨rfl, h7, hk', hr⟩
  unfold vcX2_readRow_0 vcX2_readRow_54 vcX2_readRow_55
  refine (c_place G r ad ln a hk hk2).mono (fun q a1 hq => ?_)
  obtain ⟨rfl, e1⟩ := hq
  obtain rfl := e1.symm
  refine (c_clear G r ad ln a w hw _).mono (fun a2 hq => ?_)
  have fc : zFr (zL w) a a2 := by rw [hq]; exact zClear_fr a w _
  have h7 : a2 7 2 = nI k := by rw [hq]; simp [zClear, y7, y8, y9, hk]
  have c0 : a2 (29 + 3 * w) 0 = 0 := by rw [hq]; simp [zClear]
  have c1 : a2 (29 + 3 * w) 1 = 43 := by rw [hq]; simp [zClear]
  have c2 : a2 (29 + 3 * w) 2 = -1 := by rw [hq]; simp [zClear]
  have c3 : a2 (29 + 3 * w) 3 = zPlA a k := by rw [hq]; simp [zClear]
  have c4 : a2 (29 + 3 * w) 4 = -1 := by rw [hq]; simp [zClear]
  have c5 : a2 (29 + 3 * w) 5 = 0 := by rw [hq]; simp [zClear]
  have c6 : a2 (29 + 3 * w) 6 = 0 := by rw [hq]; simp [zClear]
  have d0 : a2 (30 + 3 * w) 0 = 48 := by rw [hq]; simp [zClear]
  have d1 : a2 (30 + 3 * w) 1 = 0 := by rw [hq]; simp [zClear]
  have e0 : a2 (31 + 3 * w) 0 = 48 := by rw [hq]; simp [zClear]
  have e1 : a2 (31 + 3 * w) 1 = 0 := by rw [hq]; simp [zClear]
  clear hq
  refine (q_sign G r ad ln a a2 fc h7 hk2).mono (fun q a1 hq => ?_)
  obtain ⟨rfl, e2⟩ := hq
  obtain rfl := e2.symm
  refine ⟨fun hr => ?_, fun hr => ?_⟩
  · have h577 : k < 577 := zSgA_lt (al := a) (fun z => by rw [z] at hr; revert hr; decide)
    refine (q_value G r ad ln a a2 fc h7 hk2).mono (fun q a1 hq => ?_)
    obtain ⟨rfl, e2⟩ := hq
    obtain rfl := e2.symm
    have e7 : up2 a2 (29 + 3 * w) 2 (zVlA a k) 7 2 + 1 = nI (k + 1) := by rw [up2_ne _ _ (fun z => absurd z.1 (by omega)), h7, nI_1]
    rw [e7]
    have f1 : zFr (zL w) a (up2 (up2 a2 (29 + 3 * w) 2 (zVlA a k)) 7 2 (nI (k + 1))) := (fc.up l1 _ _).up l4 _ _
    refine (q_skip G r ad ln a _ f1 (up2_self _ _ _ _) (by omega) (t := 61) (by decide)).mono (fun q2 a3 hq => ?_)
    rcases hq with ⟨g2, rfl, rfl, g4⟩ | ⟨g2, rfl, rfl⟩
    · refine ⟨fun _ => ?_, fun z => absurd z (by decide)⟩
      rw [up2_up2]
      have f2 : zFr (zL w) a (up2 (up2 a2 (29 + 3 * w) 2 (zVlA a k)) 7 2 (nI (k + 2))) := (fc.up l1 _ _).up l4 _ _
      refine (q_sign G r ad ln a _ f2 (up2_self _ _ _ _) (by omega)).mono (fun q a1 hq => ?_)
      obtain ⟨rfl, rfl⟩ := hq
      refine ⟨fun ha => ?_, fun ha => ?_⟩
      · refine (c_readSpot G r ad ln a _ hw (f2.up l1 _ _) (by simp [up2, y7]) (by omega : k + 2 ≤ 577) (by simp [up2, x7, c5]) (by simp [up2, x7, c6])).mono (fun q a1 hq => ?_)
        obtain ⟨p1, p2, p3⟩ := hq
        have p4 := ((f2.up l1 0 2).tr (p1.mono (l' := zL w) (fun z hz => by simp at hz ⊢; omega)))
        have pl : ∀ j, a1 (30 + 3 * w) j = a2 (30 + 3 * w) j := fun j => by rw [p1 (30 + 3 * w) (by simp; omega)]; simp [up2, x1, x8]
        have pr : ∀ j, a1 (31 + 3 * w) j = a2 (31 + 3 * w) j := fun j => by rw [p1 (31 + 3 * w) (by simp; omega)]; simp [up2, x2, x9]
        cases hz : zSpt (zSgA a) (zVlA a) (k + 2) with
        | inl y =>
          obtain ⟨ar, st, sh, k'⟩ := y
          rw [hz] at p3
          obtain ⟨rfl, g5, g6, g7, g8, g9⟩ := p3
          refine ⟨rfl, good (2, 43, zVlA a k, ar, st, sh, 48, 0, 48, 0) k' _ ?_ p4 g5 g6 ⟨?_, ?_, ?_, ?_, g7, g8, g9, ?_, ?_, ?_, ?_⟩⟩
          · unfold zRwS
            rw [if_pos hr, if_pos g2, if_pos ha, hz]
          · rw [p2 0 (by decide) (by decide) (by decide)]; simp [up2]
          · rw [p2 1 (by decide) (by decide) (by decide)]; simp [up2, x7, c1]
          · rw [p2 2 (by decide) (by decide) (by decide)]; simp [up2, x7]
          · rw [p2 3 (by decide) (by decide) (by decide)]; simp [up2, x7, c3]
          · rw [pl, d0]
          · rw [pl, d1]
          · rw [pr, e0]
          · rw [pr, e1]
        | inr k' =>
          rw [hz] at p3
          obtain ⟨rfl, g5, g6⟩ := p3
          refine ⟨rfl, bad k' _ ?_ p4 g5 g6⟩
          unfold zRwS
          rw [if_pos hr, if_pos g2, if_pos ha, hz]
      · refine (c_readReckoning G r ad ln a _ hw f2 (up2_self _ _ _ _) (by omega : k + 2 ≤ 577) (by simp [up2, x7, c0])).mono (fun q a1 hq => ?_)
        obtain ⟨p1, p2, p3⟩ := hq
        have p4 := f2.tr p1
        cases hz : zRck (zSgA a) (zVlA a) (k + 2) with
        | inl y =>
          obtain ⟨kd, op, s, v, s2, v2, k'⟩ := y
          rw [hz] at p3
          obtain ⟨rfl, g5, g6, g7, g8, g9, g10, g11, g12⟩ := p3
          refine ⟨rfl, good (kd, op, zVlA a k, -1, 0, 0, s, v, s2, v2) k' _ ?_ p4 g5 g6 ⟨g7, g8, ?_, ?_, ?_, ?_, ?_, g9, g10, g11, g12⟩⟩
          · unfold zRwS
            rw [if_pos hr, if_pos g2, if_neg ha, hz]
          · rw [p2 2 (by decide) (by decide)]; simp [up2, x7]
          · rw [p2 3 (by decide) (by decide)]; simp [up2, x7, c3]
          · rw [p2 4 (by decide) (by decide)]; simp [up2, x7, c4]
          · rw [p2 5 (by decide) (by decide)]; simp [up2, x7, c5]
          · rw [p2 6 (by decide) (by decide)]; simp [up2, x7, c6]
        | inr k' =>
          rw [hz] at p3
          obtain ⟨rfl, g5, g6⟩ := p3
          refine ⟨rfl, bad k' _ ?_ p4 g5 g6⟩
          unfold zRwS
          rw [if_pos hr, if_pos g2, if_neg ha, hz]
    · refine ⟨fun z => absurd rfl z, fun _ => bad (k + 1) _ ?_ f1 (up2_self _ _ _ _) (by omega)⟩
      unfold zRwS
      rw [if_pos hr, if_neg g2]
  · refine (c_readSpot G r ad ln a _ hw (fc.up l1 0 3) (by simp [up2, y7, h7]) hk2 (by simp [up2, c5]) (by simp [up2, c6])).mono (fun q a1 hq => ?_)
    obtain ⟨p1, p2, p3⟩ := hq
    have p4 := ((fc.up l1 0 3).tr (p1.mono (l' := zL w) (fun z hz => by simp at hz ⊢; omega)))
    have pl : ∀ j, a1 (30 + 3 * w) j = a2 (30 + 3 * w) j := fun j => by rw [p1 (30 + 3 * w) (by simp; omega)]; simp [up2, x1]
    have pr : ∀ j, a1 (31 + 3 * w) j = a2 (31 + 3 * w) j := fun j => by rw [p1 (31 + 3 * w) (by simp; omega)]; simp [up2, x2]
    cases hz : zSpt (zSgA a) (zVlA a) k with
    | inr k' =>
      rw [hz] at p3
      obtain ⟨rfl, g5, g6⟩ := p3
      refine ⟨fun _ => ⟨rfl, bad k' _ ?_ p4 g5 g6⟩, fun z => absurd rfl z⟩
      unfold zRwS
      rw [if_neg hr, hz]
    | inl y =>
      obtain ⟨ar, st, sh, k'⟩ := y
      rw [hz] at p3
      obtain ⟨rfl, g5, g6, g7, g8, g9⟩ := p3
      refine ⟨fun z => absurd z (by decide), fun _ => ?_⟩
      refine (q_skip G r ad ln a _ p4 g5 g6 (t := 61) (by decide)).mono (fun q2 a3 hq => ?_)
      rcases hq with ⟨g2, rfl, rfl, g4⟩ | ⟨g2, rfl, rfl⟩
      · refine ⟨fun z => absurd z (by decide), fun _ => ?_⟩
        refine (q_readOperand G r ad ln a _ (p4.up l4 _ _) (up2_self _ _ _ _) (by omega) (30 + 3 * w) (zOp_l r hw) o1).mono (fun q4 a4 hq => ?_)
        cases hz2 : zOpd (zSgA a) (zVlA a) (k' + 1) with
        | inr k1 =>
          rw [hz2] at hq
          obtain ⟨rfl, rfl, hk1⟩ := hq
          refine ⟨fun _ => ⟨rfl, bad k1 _ ?_ ((p4.up l4 _ _).up l4 _ _) (up2_self _ _ _ _) hk1⟩, fun z => absurd rfl z⟩
          unfold zRwS
          rw [if_neg hr, hz]
          simp only [if_pos g2, hz2]
        | inl y =>
          obtain ⟨s, v, k1⟩ := y
          rw [hz2] at hq
          obtain ⟨rfl, rfl, hk1⟩ := hq
          refine ⟨fun z => absurd z (by decide), fun _ => ⟨rfl, good (3, 43, -1, ar, st, sh, s, v, 48, 0) k1 _ ?_ ((((p4.up l4 _ _).up l2 _ _).up l2 _ _).up l4 _ _) (up2_self _ _ _ _) hk1 ⟨?_, ?_, ?_, ?_, ?_, ?_, ?_, ?_, ?_, ?_, ?_⟩⟩⟩
          · unfold zRwS
            rw [if_neg hr, hz]
            simp only [if_pos g2, hz2]
          · simp only [up2, x7, x3, false_and, if_false]; rw [p2 0 (by decide) (by decide) (by decide)]; simp [up2]
          · simp only [up2, x7, x3, false_and, if_false]; rw [p2 1 (by decide) (by decide) (by decide)]; simp [up2, c1]
          · simp only [up2, x7, x3, false_and, if_false]; rw [p2 2 (by decide) (by decide) (by decide)]; simp [up2, c2]
          · simp only [up2, x7, x3, false_and, if_false]; rw [p2 3 (by decide) (by decide) (by decide)]; simp [up2, c3]
          · simp only [up2, x7, x3, false_and, if_false]; exact g7
          · simp only [up2, x7, x3, false_and, if_false]; exact g8
          · simp only [up2, x7, x3, false_and, if_false]; exact g9
          · simp [up2, x8]
          · simp [up2, x8]
          · simp only [up2, x9, x5, false_and, if_false]; rw [pr, e0]
          · simp only [up2, x9, x5, false_and, if_false]; rw [pr, e1]
      · refine ⟨fun _ => ⟨rfl, bad k' _ ?_ p4 g5 g6⟩, fun z => absurd rfl z⟩
        unfold zRwS
        rw [if_neg hr, hz]
        simp only [if_neg g2]
end ROW
