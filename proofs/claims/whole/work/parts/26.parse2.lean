-- needs: 25
/-! a row of a text: what it is, or the sign that can't stand there -/
section PSPEC
variable (sg vl : Nat → Int32)
/-- what may stand behind the i of a place -/
def zShf (k : Nat) : (Int32 × Nat) ⊕ Nat :=
  if sg k = 45 ∨ sg k = 43 then (if sg (k + 1) = 48 ∧ vl (k + 1) ≤ 250 then .inl (if sg k = 45 then -vl (k + 1) else vl (k + 1), k + 2) else .inr (k + 1)) else .inl (0, k)
/-- behind the first number of a place, which stands at k: mi, whether a - stands before it -/
def zSpt2 (mi : Bool) (k : Nat) : (Int32 × Int32 × Nat) ⊕ Nat :=
  if sg k = 48 ∧ vl k ≤ (if mi then 4 else 250) then
    (if mi = false ∧ ¬ sg (k + 1) = 42 then (if sg (k + 1) = 93 then .inl (0, vl k, k + 2) else .inr (k + 1))
    else if vl k ≤ 4 then
      (if sg (k + 1) = 42 then (if sg (k + 2) = 105 then
        (match zShf sg vl (k + 3) with
        | .inl (s, k') => if sg k' = 93 then .inl ((if mi then -vl k else vl k), s, k' + 1) else .inr k'
        | .inr k' => .inr k') else .inr (k + 2)) else .inr (k + 1))
    else .inr k)
  else .inr k
/-- an array and a place: which array, factor, what is added, where it ends -/
def zSpt (k : Nat) : (Int32 × Int32 × Int32 × Nat) ⊕ Nat :=
  if sg k = 97 then (if sg (k + 1) = 91 then
    (match (if sg (k + 2) = 45 then zSpt2 sg vl true (k + 3) else zSpt2 sg vl false (k + 2)) with
    | .inl (c, p, k') => .inl (vl k, c, p, k')
    | .inr k' => .inr k') else .inr (k + 1)) else .inr k
end PSPEC
section PARSE2
variable (G : zG) (r : Bool) (ad ln : Nat → Nat) (al a : Nat → Nat → Int32) {k w : Nat}
abbrev zL (w : Nat) : List Nat := [7, 29 + 3 * w, 30 + 3 * w, 31 + 3 * w]
theorem zL9 (w : Nat) : 9 ∉ zL w ∧ 10 ∉ zL w ∧ 11 ∉ zL w := by
  refine ⟨?_, ?_, ?_⟩ <;> simp <;> omega
theorem zLr (w : Nat) : 29 + 3 * w ∈ zL w ∧ 30 + 3 * w ∈ zL w ∧ 31 + 3 * w ∈ zL w ∧ 7 ∈ zL w := by
  refine ⟨?_, ?_, ?_, ?_⟩ <;> simp
theorem q_skip (hfr : zFr (zL w) al a) (hk : a 7 2 = nI k) (hk2 : k ≤ 577) {t : Int32} (ht : ¬ t = -1) : zMi G yX2_skip wsX2_skip rmX2_skip (zTC r) ad ln [.ref (ad 7), .int t] a (fun q a' => (zSgA al k = t ∧ q = 1 ∧ a' = up2 a 7 2 (nI (k + 1)) ∧ k < 577) ∨ (¬ zSgA al k = t ∧ q = 0 ∧ a' = a)) := by
  refine (c_skip G r ad ln a hk hk2 t).mono (fun q a' hq => ?_)
  rw [zSgA_fr hfr (zL9 w).1] at hq
  rcases hq with ⟨h1, h2, h3⟩ | h
  · exact Or.inl ⟨h1, h2, h3, zSgA_lt (by rw [h1]; exact ht)⟩
  · exact Or.inr h
theorem q_sign (hfr : zFr (zL w) al a) (hk : a 7 2 = nI k) (hk2 : k ≤ 577) : zMi G yX2_sign wsX2_sign rmX2_sign (zTC r) ad ln [.ref (ad 7)] a (fun q a' => q = zSgA al k ∧ a' = a) := by
  refine (c_sign G r ad ln a hk hk2).mono (fun q a' hq => ?_)
  rw [zSgA_fr hfr (zL9 w).1] at hq
  exact hq
theorem q_value (hfr : zFr (zL w) al a) (hk : a 7 2 = nI k) (hk2 : k ≤ 577) : zMi G yX2_value wsX2_value rmX2_value (zTC r) ad ln [.ref (ad 7)] a (fun q a' => q = zVlA al k ∧ a' = a) := by
  refine (c_value G r ad ln a hk hk2).mono (fun q a' hq => ?_)
  rw [zVlA_fr hfr (zL9 w).2.2] at hq
  exact hq
theorem q_skipNumber (hfr : zFr (zL w) al a) (hk : a 7 2 = nI k) (hk2 : k ≤ 577) (t : Int32) : zMi G yX2_skipNumber wsX2_skipNumber rmX2_skipNumber (zTC r) ad ln [.ref (ad 7), .int t] a (fun q a' => ((zSgA al k = 48 ∧ zVlA al k ≤ t) ∧ q = 1 ∧ a' = up2 a 7 2 (nI (k + 1)) ∧ k < 577) ∨ (¬ (zSgA al k = 48 ∧ zVlA al k ≤ t) ∧ q = 0 ∧ a' = a)) := by
  refine (c_skipNumber G r ad ln a hk hk2 t).mono (fun q a' hq => ?_)
  rw [zSgA_fr hfr (zL9 w).1, zVlA_fr hfr (zL9 w).2.2] at hq
  rcases hq with ⟨h1, h2, h3⟩ | h
  · exact Or.inl ⟨h1, h2, h3, zSgA_lt (by rw [h1.1]; decide)⟩
  · exact Or.inr h
/-- what readShift leaves -/
theorem c_readShift (hw : w < 48) (hfr : zFr (zL w) al a) (hk : a 7 2 = nI k) (hk2 : k ≤ 577) (h0 : a (29 + 3 * w) 6 = 0) : zMi G yX2_readShift wsX2_readShift rmX2_readShift (zTC r) ad ln [.ref (ad 7), .ref (ad (29 + 3 * w))] a (fun q a' => zFr [7, 29 + 3 * w] a a' ∧ (∀ j, j ≠ 6 → a' (29 + 3 * w) j = a (29 + 3 * w) j) ∧ match zShf (zSgA al) (zVlA al) k with
    | .inl (s, k') => q = 1 ∧ a' 7 2 = nI k' ∧ k' ≤ 577 ∧ a' (29 + 3 * w) 6 = s
    | .inr k' => q = 0 ∧ a' 7 2 = nI k' ∧ k' ≤ 577) := by
  refine zMi.of (cc := cX2_readShift) (nL := 3) (rt := .boolean) (by decide) rfl (Nat.le_of_ble_eq_true rfl) (fun Z X hR => ?_)
  refine tX2_readShift_0 X w hw hR a ?_
  unfold vcX2_readShift_0 vcX2_readShift_14
  have ne7 : ∀ j : Nat, ¬ (29 + 3 * w = 7 ∧ j = 2) := fun j z => absurd z.1 (by omega)
  have ne7' : ∀ j : Nat, ¬ (7 = 29 + 3 * w ∧ 2 = j) := fun j z => absurd z.1 (by omega)
  have go : ∀ s0 : Int32, (zSgA al k = 45 ∧ s0 = 1) ∨ (zSgA al k = 43 ∧ ¬ zSgA al k = 45 ∧ s0 = 0) → vcX2_readShift_30 G r ad ln w hw (fun q a' => zFr [7, 29 + 3 * w] a a' ∧ (∀ j, j ≠ 6 → a' (29 + 3 * w) j = a (29 + 3 * w) j) ∧ match zShf (zSgA al) (zVlA al) k with
      | .inl (s, k') => q = 1 ∧ a' 7 2 = nI k' ∧ k' ≤ 577 ∧ a' (29 + 3 * w) 6 = s
      | .inr k' => q = 0 ∧ a' 7 2 = nI k' ∧ k' ≤ 577) s0 a := by
    intro s0 hs
    have hk3 : k < 577 := zSgA_lt (by rcases hs with h | h <;> rw [h.1] <;> decide)
    unfold vcX2_readShift_30
    rw [hk, nI_1]
    have hfr1 : zFr (zL w) al (up2 a 7 2 (nI (k + 1))) := hfr.up (zLr w).2.2.2 _ _
    have last : ∀ v : Int32, v = (if zSgA al k = 45 then -zVlA al (k + 1) else zVlA al (k + 1)) → vcX2_readShift_57 G r ad ln w hw (fun q a' => zFr [7, 29 + 3 * w] a a' ∧ (∀ j, j ≠ 6 → a' (29 + 3 * w) j = a (29 + 3 * w) j) ∧ match zShf (zSgA al) (zVlA al) k with
        | .inl (s, k') => q = 1 ∧ a' 7 2 = nI k' ∧ k' ≤ 577 ∧ a' (29 + 3 * w) 6 = s
        | .inr k' => q = 0 ∧ a' 7 2 = nI k' ∧ k' ≤ 577) v (up2 a 7 2 (nI (k + 1))) := by
      intro v hv
      unfold vcX2_readShift_57
      refine (q_skipNumber G r ad ln al _ (k := k + 1) (hfr1.up (zLr w).1 6 v) (by rw [up2_ne _ _ (fun z => absurd z.1 (by omega)), up2_self]) (by omega) 250).mono (fun q a' hq => ?_)
      have e : zShf (zSgA al) (zVlA al) k = if zSgA al (k + 1) = 48 ∧ zVlA al (k + 1) ≤ 250 then .inl (v, k + 2) else .inr (k + 1) := by
        unfold zShf
        rw [if_pos (by rcases hs with h | h <;> simp [h.1]), hv]
      have hf0 : zFr [7, 29 + 3 * w] a (up2 (up2 a 7 2 (nI (k + 1))) (29 + 3 * w) 6 v) := (zFr.rf.up (by simp) _ _).up (by simp) _ _
      rcases hq with ⟨h1, rfl, rfl, h4⟩ | ⟨h1, rfl, rfl⟩
      · rw [e, if_pos h1]
        refine ⟨rfl, hf0.up (by simp) _ _, fun j hj => ?_, rfl, up2_self _ _ _ _, by omega, ?_⟩
        · rw [up2_ne _ _ (fun z => absurd z.1 (by omega)), up2_ne _ _ (fun z => hj z.2), up2_ne _ _ (fun z => absurd z.1 (by omega))]
        · rw [up2_ne _ _ (fun z => absurd z.1 (by omega)), up2_self]
      · rw [e, if_neg h1]
        refine ⟨rfl, hf0, fun j hj => ?_, rfl, ?_, by omega⟩
        · rw [up2_ne _ _ (fun z => hj z.2), up2_ne _ _ (fun z => absurd z.1 (by omega))]
        · rw [up2_ne _ _ (fun z => absurd z.1 (by omega)), up2_self]
    refine ⟨fun q => ?_, fun q => ?_⟩
    · refine (q_value G r ad ln al _ (k := k + 1) hfr1 (up2_self _ _ _ _) (by omega)).mono (fun q2 a2 hq => ?_)
      obtain ⟨rfl, rfl⟩ := hq
      refine last _ ?_
      rcases hs with h | h
      · rw [h.2] at q
        exact absurd q (by decide)
      · rw [if_neg h.2.1]
    · refine (q_value G r ad ln al _ (k := k + 1) hfr1 (up2_self _ _ _ _) (by omega)).mono (fun q2 a2 hq => ?_)
      obtain ⟨rfl, rfl⟩ := hq
      refine last _ ?_
      rcases hs with h | h
      · rw [if_pos h.1]
      · rw [h.2.2] at q
        exact absurd rfl q
  refine (q_sign G r ad ln al a hfr hk hk2).mono (fun q a1 hq => ?_)
  obtain ⟨rfl, e1⟩ := hq
  obtain rfl := e1.symm
  refine ⟨fun h45 => ⟨fun q => absurd rfl q, fun _ => ?_⟩, fun h45 => ⟨fun _ => go 1 (Or.inl ⟨h45, rfl⟩), fun q => absurd q (by decide)⟩⟩
  refine (q_sign G r ad ln al a hfr hk hk2).mono (fun q a1 hq => ?_)
  obtain ⟨rfl, e1⟩ := hq
  obtain rfl := e1.symm
  refine ⟨fun h43 => go 0 (Or.inr ⟨h43, h45, rfl⟩), fun h43 => ?_⟩
  have e : zShf (zSgA al) (zVlA al) k = .inl (0, k) := by
    unfold zShf
    rw [if_neg (by simp [h43, h45])]
  rw [e]
  exact ⟨zFr.rf, fun _ _ => rfl, rfl, hk, hk2, h0⟩
end PARSE2
