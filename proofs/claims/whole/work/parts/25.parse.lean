-- needs: 24
/-! the parser's eyes: sign, place and value of the sign it stands at; behind the last one the end -/
def zSgA (al : Nat → Nat → Int32) (k : Nat) : Int32 := if k < 577 then al 9 k else -1
def zPlA (al : Nat → Nat → Int32) (k : Nat) : Int32 := if k < 577 then al 10 k else 0
def zVlA (al : Nat → Nat → Int32) (k : Nat) : Int32 := if k < 577 then al 11 k else 0
theorem zSgA_fr {l : List Nat} {al al' : Nat → Nat → Int32} (h : zFr l al al') (h1 : 9 ∉ l) (k : Nat) : zSgA al' k = zSgA al k := by unfold zSgA; rw [h 9 h1]
theorem zPlA_fr {l : List Nat} {al al' : Nat → Nat → Int32} (h : zFr l al al') (h1 : 10 ∉ l) (k : Nat) : zPlA al' k = zPlA al k := by unfold zPlA; rw [h 10 h1]
theorem zVlA_fr {l : List Nat} {al al' : Nat → Nat → Int32} (h : zFr l al al') (h1 : 11 ∉ l) (k : Nat) : zVlA al' k = zVlA al k := by unfold zVlA; rw [h 11 h1]
theorem zSgA_lt {al : Nat → Nat → Int32} {k : Nat} (h : ¬ zSgA al k = -1) : k < 577 := by
  unfold zSgA at h
  by_cases q : k < 577
  · exact q
  · rw [if_neg q] at h
    exact absurd rfl h
section PARSE
variable (G : zG) (r : Bool) (ad ln : Nat → Nat) (al : Nat → Nat → Int32) {k : Nat} (hk : al 7 2 = nI k) (hk2 : k ≤ 577)
theorem c_sign (hk : al 7 2 = nI k) (hk2 : k ≤ 577) : zMi G yX2_sign wsX2_sign rmX2_sign (zTC r) ad ln [.ref (ad 7)] al (fun q a => q = zSgA al k ∧ a = al) := by
  refine zMi.of (cc := cX2_sign) (nL := 1) (rt := .int) (by decide) rfl (Nat.le_of_ble_eq_true rfl) (fun Z X hR => ?_)
  refine tX2_sign_0 X hR al ?_
  unfold vcX2_sign_0 vcX2_sign_26 zSgA
  rw [hk, show (577 : Int32) = nI 577 from rfl, nI_leI (by omega) (by omega), nI_clamp (by omega)]
  refine ⟨fun h => ⟨by rw [if_neg (by omega)], rfl⟩, fun h => ⟨vp_in_nI (by omega) (by omega), by rw [if_pos (by omega)], rfl⟩⟩
theorem c_place (hk : al 7 2 = nI k) (hk2 : k ≤ 577) : zMi G yX2_place wsX2_place rmX2_place (zTC r) ad ln [.ref (ad 7)] al (fun q a => q = zPlA al k ∧ a = al) := by
  refine zMi.of (cc := cX2_place) (nL := 1) (rt := .int) (by decide) rfl (Nat.le_of_ble_eq_true rfl) (fun Z X hR => ?_)
  refine tX2_place_0 X hR al ?_
  unfold vcX2_place_0 vcX2_place_26 zPlA
  rw [hk, show (577 : Int32) = nI 577 from rfl, nI_leI (by omega) (by omega), nI_clamp (by omega)]
  refine ⟨fun h => ⟨by rw [if_neg (by omega)], rfl⟩, fun h => ⟨vp_in_nI (by omega) (by omega), by rw [if_pos (by omega)], rfl⟩⟩
theorem c_value (hk : al 7 2 = nI k) (hk2 : k ≤ 577) : zMi G yX2_value wsX2_value rmX2_value (zTC r) ad ln [.ref (ad 7)] al (fun q a => q = zVlA al k ∧ a = al) := by
  refine zMi.of (cc := cX2_value) (nL := 1) (rt := .int) (by decide) rfl (Nat.le_of_ble_eq_true rfl) (fun Z X hR => ?_)
  refine tX2_value_0 X hR al ?_
  unfold vcX2_value_0 vcX2_value_26 zVlA
  rw [hk, show (577 : Int32) = nI 577 from rfl, nI_leI (by omega) (by omega), nI_clamp (by omega)]
  refine ⟨fun h => ⟨by rw [if_neg (by omega)], rfl⟩, fun h => ⟨vp_in_nI (by omega) (by omega), by rw [if_pos (by omega)], rfl⟩⟩
theorem c_skip (hk : al 7 2 = nI k) (hk2 : k ≤ 577) (t : Int32) : zMi G yX2_skip wsX2_skip rmX2_skip (zTC r) ad ln [.ref (ad 7), .int t] al (fun q a => (zSgA al k = t ∧ q = 1 ∧ a = up2 al 7 2 (nI (k + 1))) ∨ (¬ zSgA al k = t ∧ q = 0 ∧ a = al)) := by
  refine zMi.of (cc := cX2_skip) (nL := 2) (rt := .boolean) (by decide) rfl (Nat.le_of_ble_eq_true rfl) (fun Z X hR => ?_)
  refine tX2_skip_0 X _ hR al ?_
  unfold vcX2_skip_0
  refine (c_sign G r ad ln al hk hk2).mono (fun q a hq => ?_)
  obtain ⟨rfl, hq⟩ := hq
  obtain rfl := hq.symm
  rw [hk, nI_1]
  exact ⟨fun h => Or.inl ⟨h, rfl, rfl⟩, fun h => Or.inr ⟨h, rfl, rfl⟩⟩
theorem c_skipNumber (hk : al 7 2 = nI k) (hk2 : k ≤ 577) (t : Int32) : zMi G yX2_skipNumber wsX2_skipNumber rmX2_skipNumber (zTC r) ad ln [.ref (ad 7), .int t] al (fun q a => ((zSgA al k = 48 ∧ zVlA al k ≤ t) ∧ q = 1 ∧ a = up2 al 7 2 (nI (k + 1))) ∨ (¬ (zSgA al k = 48 ∧ zVlA al k ≤ t) ∧ q = 0 ∧ a = al)) := by
  refine zMi.of (cc := cX2_skipNumber) (nL := 2) (rt := .boolean) (by decide) rfl (Nat.le_of_ble_eq_true rfl) (fun Z X hR => ?_)
  refine tX2_skipNumber_0 X _ hR al ?_
  unfold vcX2_skipNumber_0 vcX2_skipNumber_17
  refine (c_sign G r ad ln al hk hk2).mono (fun q a hq => ?_)
  obtain ⟨rfl, hq⟩ := hq
  obtain rfl := hq.symm
  refine ⟨fun h => Or.inr ⟨fun q => h q.1, rfl, rfl⟩, fun h => ?_⟩
  refine (c_value G r ad ln al hk hk2).mono (fun q a hq => ?_)
  obtain ⟨rfl, hq⟩ := hq
  obtain rfl := hq.symm
  rw [hk, nI_1]
  exact ⟨fun h' => Or.inl ⟨⟨h, h'⟩, rfl, rfl⟩, fun h' => Or.inr ⟨fun q => h' q.2, rfl, rfl⟩⟩
/-- an operand: what it is, and where the parser stands behind it; or where it can't stand -/
def zOpd (sg vl : Nat → Int32) (k : Nat) : (Int32 × Int32 × Nat) ⊕ Nat :=
  if sg k = 45 then (if sg (k + 1) = 48 then .inl (48, -vl (k + 1), k + 2) else .inr (k + 1))
  else if sg k = 48 ∨ sg k = 114 ∨ sg k = 105 then .inl (sg k, vl k, k + 1) else .inr k
theorem c_readOperand (hk : al 7 2 = nI k) (hk2 : k ≤ 577) (o : Nat) (ho : zOp r o) (ho7 : o ≠ 7 ∧ o ≠ 9 ∧ o ≠ 11) : zMi G yX2_readOperand wsX2_readOperand rmX2_readOperand (zTC r) ad ln [.ref (ad 7), .ref (ad o)] al (fun q a => match zOpd (zSgA al) (zVlA al) k with
    | .inl (s, v, k') => q = 1 ∧ a = up2 (up2 (up2 al o 0 s) o 1 v) 7 2 (nI k') ∧ k' ≤ 577
    | .inr k' => q = 0 ∧ a = up2 al 7 2 (nI k') ∧ k' ≤ 577) := by
  refine zMi.of (cc := cX2_readOperand) (nL := 4) (rt := .boolean) (by decide) rfl (Nat.le_of_ble_eq_true rfl) (fun Z X hR => ?_)
  refine tX2_readOperand_0 X o ho hR al ?_
  unfold vcX2_readOperand_0 vcX2_readOperand_34 vcX2_readOperand_36 vcX2_readOperand_54
  refine (c_skip G r ad ln al hk hk2 45).mono (fun q1 a1 hq => ?_)
  rcases hq with ⟨h45, rfl, rfl⟩ | ⟨h45, rfl, e1⟩
  · have hk577 : k < 577 := zSgA_lt (by rw [h45]; decide)
    have hfr : zFr [7] al (up2 al 7 2 (nI (k + 1))) := zFr.rf.up (by decide) _ _
    refine (c_sign G r ad ln _ (up2_self _ _ _ _) (by omega)).mono (fun q2 a2 hq => ?_)
    obtain ⟨rfl, hq⟩ := hq
    obtain rfl := hq.symm
    rw [zSgA_fr hfr (by decide)]
    refine ⟨fun h48 => ⟨fun h => absurd h (by decide), fun _ => ?_⟩, fun h48 => ⟨fun _ => ?_, fun h => absurd h (by decide)⟩⟩
    · refine (c_value G r ad ln _ (up2_self _ _ _ _) (by omega)).mono (fun q2 a2 hq => ?_)
      obtain ⟨rfl, hq⟩ := hq
      obtain rfl := hq.symm
      rw [zVlA_fr hfr (by decide)]
      refine (c_become G r ad ln _ o ho _ _).mono (fun a2 hq => ?_)
      subst hq
      have e : zOpd (zSgA al) (zVlA al) k = .inl (48, -zVlA al (k + 1), k + 2) := by
        unfold zOpd
        rw [if_pos h45, if_pos h48]
      rw [e, h48]
      have hk3 : k + 1 < 577 := zSgA_lt (by rw [h48]; decide)
      refine ⟨rfl, ?_, by omega⟩
      rw [up2_ne _ _ (fun q => ho7.1 q.1.symm), up2_ne _ _ (fun q => ho7.1 q.1.symm), up2_self, nI_1, up2_comm al _ _ (fun q => ho7.1 q.1.symm), up2_comm _ _ _ (fun q => ho7.1 q.1.symm), up2_up2]
    · have e : zOpd (zSgA al) (zVlA al) k = .inr (k + 1) := by
        unfold zOpd
        rw [if_pos h45, if_neg h48]
      rw [e]
      exact ⟨rfl, rfl, by omega⟩
  · obtain rfl := e1.symm
    refine (c_sign G r ad ln al hk hk2).mono (fun q2 a2 hq => ?_)
    obtain ⟨rfl, hq⟩ := hq
    obtain rfl := hq.symm
    have ok : (zSgA al k = 48 ∨ zSgA al k = 114 ∨ zSgA al k = 105) → (((0 : Int32) = 0 → zMi G yX2_value wsX2_value rmX2_value (zTC r) ad ln [.ref (ad 7)] al (fun q2 a2 => zMv G yX1_become wsX1_become rmX1_become (zTC r) ad ln [.ref (ad o), .int (zSgA al k), .int q2] a2 (fun a1 => match zOpd (zSgA al) (zVlA al) k with
        | .inl (s, v, k') => (1 : Int32) = 1 ∧ up2 a1 7 2 (a1 7 2 + 1) = up2 (up2 (up2 al o 0 s) o 1 v) 7 2 (nI k') ∧ k' ≤ 577
        | .inr k' => (1 : Int32) = 0 ∧ up2 a1 7 2 (a1 7 2 + 1) = up2 al 7 2 (nI k') ∧ k' ≤ 577))) ∧ (¬ (0 : Int32) = 0 → zMi G yX2_value wsX2_value rmX2_value (zTC r) ad ln [.ref (ad 7)] al (fun q2 a2 => zMv G yX1_become wsX1_become rmX1_become (zTC r) ad ln [.ref (ad o), .int (zSgA al k), .int (-q2)] a2 (fun a1 => match zOpd (zSgA al) (zVlA al) k with
        | .inl (s, v, k') => (1 : Int32) = 1 ∧ up2 a1 7 2 (a1 7 2 + 1) = up2 (up2 (up2 al o 0 s) o 1 v) 7 2 (nI k') ∧ k' ≤ 577
        | .inr k' => (1 : Int32) = 0 ∧ up2 a1 7 2 (a1 7 2 + 1) = up2 al 7 2 (nI k') ∧ k' ≤ 577)))) := by
      intro hs
      refine ⟨fun _ => ?_, fun h => absurd rfl h⟩
      refine (c_value G r ad ln al hk hk2).mono (fun q2 a2 hq => ?_)
      obtain ⟨rfl, hq⟩ := hq
      obtain rfl := hq.symm
      refine (c_become G r ad ln _ o ho _ _).mono (fun a2 hq => ?_)
      subst hq
      have e : zOpd (zSgA al) (zVlA al) k = .inl (zSgA al k, zVlA al k, k + 1) := by
        unfold zOpd
        rw [if_neg h45, if_pos hs]
      have hk3 : k < 577 := zSgA_lt (by rcases hs with h | h | h <;> rw [h] <;> decide)
      rw [e]
      refine ⟨rfl, ?_, by omega⟩
      rw [up2_ne _ _ (fun q => ho7.1 q.1.symm), up2_ne _ _ (fun q => ho7.1 q.1.symm), hk, nI_1]
    refine ⟨fun h => ok (Or.inl h), fun h => ⟨fun h' => absurd rfl h', fun _ => ⟨fun h' => ok (Or.inr (Or.inl h')), fun h' => ⟨fun h'' => ok (Or.inr (Or.inr h'')), fun h'' => ?_⟩⟩⟩⟩
    have e : zOpd (zSgA al) (zVlA al) k = .inr k := by
      unfold zOpd
      rw [if_neg h45, if_neg (by simp [h, h', h''])]
    rw [e]
    exact ⟨rfl, (up2_same hk).symm, hk2⟩
end PARSE
