-- needs: 26
/-! an array and a place -/
section SPOT
variable (G : zG) (r : Bool) (ad ln : Nat → Nat) (al a : Nat → Nat → Int32) {k w : Nat}
/-- what a place leaves -/
def zSpPost (a : Nat → Nat → Int32) (w : Nat) (ar : Int32) (x : (Int32 × Int32 × Nat) ⊕ Nat) (q : Int32) (a' : Nat → Nat → Int32) : Prop := zFr [7, 29 + 3 * w] a a' ∧ (∀ j, j ≠ 4 → j ≠ 5 → j ≠ 6 → a' (29 + 3 * w) j = a (29 + 3 * w) j) ∧ match x with
    | .inl (st, sh, k') => q = 1 ∧ a' 7 2 = nI k' ∧ k' ≤ 577 ∧ a' (29 + 3 * w) 4 = ar ∧ a' (29 + 3 * w) 5 = st ∧ a' (29 + 3 * w) 6 = sh
    | .inr k' => q = 0 ∧ a' 7 2 = nI k' ∧ k' ≤ 577
theorem c_readSpot (hw : w < 48) (hfr : zFr (zL w) al a) (hk : a 7 2 = nI k) (hk2 : k ≤ 577) (h5 : a (29 + 3 * w) 5 = 0) (h6 : a (29 + 3 * w) 6 = 0) : zMi G yX2_readSpot wsX2_readSpot rmX2_readSpot (zTC r) ad ln [.ref (ad 7), .ref (ad (29 + 3 * w))] a (fun q a' => zFr [7, 29 + 3 * w] a a' ∧ (∀ j, j ≠ 4 → j ≠ 5 → j ≠ 6 → a' (29 + 3 * w) j = a (29 + 3 * w) j) ∧ match zSpt (zSgA al) (zVlA al) k with
    | .inl (ar, st, sh, k') => q = 1 ∧ a' 7 2 = nI k' ∧ k' ≤ 577 ∧ a' (29 + 3 * w) 4 = ar ∧ a' (29 + 3 * w) 5 = st ∧ a' (29 + 3 * w) 6 = sh
    | .inr k' => q = 0 ∧ a' 7 2 = nI k' ∧ k' ≤ 577) := by
  refine zMi.of (cc := cX2_readSpot) (nL := 5) (rt := .boolean) (by decide) rfl (Nat.le_of_ble_eq_true rfl) (fun Z X hR => ?_)
  refine tX2_readSpot_0 X w hw hR a ?_
  generalize hP : (fun (q : Int32) (a' : Nat → Nat → Int32) => zFr [7, 29 + 3 * w] a a' ∧ (∀ j, j ≠ 4 → j ≠ 5 → j ≠ 6 → a' (29 + 3 * w) j = a (29 + 3 * w) j) ∧ match zSpt (zSgA al) (zVlA al) k with
    | .inl (ar, st, sh, k') => q = 1 ∧ a' 7 2 = nI k' ∧ k' ≤ 577 ∧ a' (29 + 3 * w) 4 = ar ∧ a' (29 + 3 * w) 5 = st ∧ a' (29 + 3 * w) 6 = sh
    | .inr k' => q = 0 ∧ a' 7 2 = nI k' ∧ k' ≤ 577) = P
  have n7 : ∀ j j' : Nat, ¬ (7 = 29 + 3 * w ∧ j = j') := fun j j' z => absurd z.1 (by omega)
  have n7' : ∀ j j' : Nat, ¬ (29 + 3 * w = 7 ∧ j = j') := fun j j' z => absurd z.1 (by omega)
  -- behind the number: factor, i, shift, ]
  have s118 : ∀ (mi : Bool) (kN : Nat) (v : Int32) (a1 : Nat → Nat → Int32), zFr (zL w) al a1 → zFr [7, 29 + 3 * w] a a1 → (∀ j, j ≠ 4 → j ≠ 5 → j ≠ 6 → a1 (29 + 3 * w) j = a (29 + 3 * w) j) → a1 7 2 = nI (kN + 1) → kN < 577 → a1 (29 + 3 * w) 6 = 0 → (∀ (q : Int32) (a' : Nat → Nat → Int32), zSpPost a w (a1 (29 + 3 * w) 4) (if zSgA al (kN + 1) = 42 then (if zSgA al (kN + 2) = 105 then
        (match zShf (zSgA al) (zVlA al) (kN + 3) with
        | .inl (s, k') => if zSgA al k' = 93 then .inl (v, s, k' + 1) else .inr k'
        | .inr k' => .inr k') else .inr (kN + 2)) else .inr (kN + 1)) q a' → P q a') → vcX2_readSpot_118 G r ad ln w hw P v a1 := by
    intro mi kN v a1 f1 f2 hj h7 hkN h6' fin
    unfold vcX2_readSpot_118 vcX2_readSpot_160 vcX2_readSpot_161
    have hfa : zFr (zL w) al (up2 a1 (29 + 3 * w) 5 v) := f1.up (zLr w).1 _ _
    have hfb : zFr [7, 29 + 3 * w] a (up2 a1 (29 + 3 * w) 5 v) := f2.up (by simp) _ _
    have hja : ∀ j, j ≠ 4 → j ≠ 5 → j ≠ 6 → up2 a1 (29 + 3 * w) 5 v (29 + 3 * w) j = a (29 + 3 * w) j := fun j q1 q2 q3 => by rw [up2_ne _ _ (fun z => q2 z.2)]; exact hj j q1 q2 q3
    have h7a : up2 a1 (29 + 3 * w) 5 v 7 2 = nI (kN + 1) := by rw [up2_ne _ _ (n7 _ _)]; exact h7
    refine (q_skip G r ad ln al _ hfa h7a (by omega) (t := 42) (by decide)).mono (fun q1 a2 hq => ?_)
    rcases hq with ⟨g1, rfl, rfl, g4⟩ | ⟨g1, rfl, rfl⟩
    · refine ⟨fun z => absurd z (by decide), fun _ => ?_⟩
      refine (q_skip G r ad ln al _ (hfa.up (zLr w).2.2.2 _ _) (up2_self _ _ _ _) (by omega) (t := 105) (by decide)).mono (fun q3 a3 hq => ?_)
      rcases hq with ⟨g5, rfl, rfl, g6⟩ | ⟨g5, rfl, rfl⟩
      · refine ⟨fun z => absurd z (by decide), fun _ => ?_⟩
        rw [up2_up2]
        refine (c_readShift G r ad ln al _ hw (hfa.up (zLr w).2.2.2 _ _) (up2_self _ _ _ _) (by omega) (by rw [up2_ne _ _ (n7' _ _), up2_ne _ _ (fun z => absurd z.2 (by decide))]; exact h6')).mono (fun q5 a5 hq => ?_)
        obtain ⟨k1, k2, k3⟩ := hq
        have hf5 : zFr (zL w) al a5 := (hfa.up (zLr w).2.2.2 _ _).tr (k1.mono (by simp))
        have hf6 : zFr [7, 29 + 3 * w] a a5 := (hfb.up (by simp) _ _).tr k1
        have h4 : a5 (29 + 3 * w) 4 = a1 (29 + 3 * w) 4 := by rw [k2 4 (by decide), up2_ne _ _ (n7' _ _), up2_ne _ _ (fun z => absurd z.2 (by decide))]
        have h5' : a5 (29 + 3 * w) 5 = v := by rw [k2 5 (by decide), up2_ne _ _ (n7' _ _), up2_self]
        have hj5 : ∀ j, j ≠ 4 → j ≠ 5 → j ≠ 6 → a5 (29 + 3 * w) j = a (29 + 3 * w) j := fun j q1 q2 q3 => by rw [k2 j q3, up2_ne _ _ (n7' _ _)]; exact hja j q1 q2 q3
        cases hs : zShf (zSgA al) (zVlA al) (kN + 3) with
        | inl sk =>
          obtain ⟨s, k'⟩ := sk
          rw [show kN + 1 + 1 + 1 = kN + 3 from rfl, hs] at k3
          obtain ⟨rfl, k4, k5, k6⟩ := k3
          refine ⟨fun z => absurd z (by decide), fun _ => ?_⟩
          refine (q_skip G r ad ln al a5 hf5 k4 k5 (t := 93) (by decide)).mono (fun q7 a7 hq => ?_)
          rcases hq with ⟨g7, rfl, rfl, g8⟩ | ⟨g7, rfl, rfl⟩
          · refine ⟨fun z => absurd z (by decide), fun _ => ⟨rfl, fin _ _ ?_⟩⟩
            rw [if_pos g1, if_pos (show zSgA al (kN + 2) = 105 from g5), hs]
            refine ⟨hf6.up (by simp) _ _, fun j q1 q2 q3 => by rw [up2_ne _ _ (n7' _ _)]; exact hj5 j q1 q2 q3, ?_⟩
            show match (if zSgA al k' = 93 then (Sum.inl (v, s, k' + 1) : (Int32 × Int32 × Nat) ⊕ Nat) else .inr k') with | .inl (st, sh, k') => _ | .inr k' => _
            rw [if_pos g7]
            exact ⟨rfl, up2_self _ _ _ _, by omega, by rw [up2_ne _ _ (n7' _ _)]; exact h4, by rw [up2_ne _ _ (n7' _ _)]; exact h5', by rw [up2_ne _ _ (n7' _ _)]; exact k6⟩
          · refine ⟨fun _ => ⟨rfl, fin _ _ ?_⟩, fun z => absurd rfl z⟩
            rw [if_pos g1, if_pos (show zSgA al (kN + 2) = 105 from g5), hs]
            refine ⟨hf6, hj5, ?_⟩
            show match (if zSgA al k' = 93 then (Sum.inl (v, s, k' + 1) : (Int32 × Int32 × Nat) ⊕ Nat) else .inr k') with | .inl (st, sh, k') => _ | .inr k' => _
            rw [if_neg g7]
            exact ⟨rfl, k4, k5⟩
        | inr k' =>
          rw [show kN + 1 + 1 + 1 = kN + 3 from rfl, hs] at k3
          obtain ⟨rfl, k4, k5⟩ := k3
          refine ⟨fun _ => ⟨rfl, fin _ _ ?_⟩, fun z => absurd rfl z⟩
          rw [if_pos g1, if_pos (show zSgA al (kN + 2) = 105 from g5), hs]
          exact ⟨hf6, hj5, rfl, k4, k5⟩
      · refine ⟨fun _ => ⟨rfl, fin _ _ ?_⟩, fun z => absurd rfl z⟩
        rw [if_pos g1, if_neg (show ¬ zSgA al (kN + 2) = 105 from g5)]
        exact ⟨hfb.up (by simp) _ _, fun j q1 q2 q3 => by rw [up2_ne _ _ (n7' _ _)]; exact hja j q1 q2 q3, rfl, up2_self _ _ _ _, by omega⟩
    · refine ⟨fun _ => ⟨rfl, fin _ _ ?_⟩, fun z => absurd rfl z⟩
      rw [if_neg g1]
      exact ⟨hfb, hja, rfl, h7a, by omega⟩
  -- the number and what follows
  have s58 : ∀ (mi : Bool) (kN : Nat) (a1 : Nat → Nat → Int32), zFr (zL w) al a1 → zFr [7, 29 + 3 * w] a a1 → (∀ j, j ≠ 4 → j ≠ 5 → j ≠ 6 → a1 (29 + 3 * w) j = a (29 + 3 * w) j) → a1 7 2 = nI kN → kN ≤ 577 → a1 (29 + 3 * w) 5 = 0 → a1 (29 + 3 * w) 6 = 0 → (∀ (q : Int32) (a' : Nat → Nat → Int32), zSpPost a w (a1 (29 + 3 * w) 4) (zSpt2 (zSgA al) (zVlA al) mi kN) q a' → P q a') → vcX2_readSpot_58 G r ad ln w hw P (zb mi) (nI kN) (zVlA al kN) (if mi then 4 else 250) a1 := by
    intro mi kN a1 f1 f2 hj h7 hkN h5' h6' fin
    unfold vcX2_readSpot_58 vcX2_readSpot_92
    refine (q_skipNumber G r ad ln al a1 f1 h7 hkN _).mono (fun q1 a2 hq => ?_)
    rcases hq with ⟨g1, rfl, rfl, g4⟩ | ⟨g1, rfl, rfl⟩
    · refine ⟨fun _ => ?_, fun z => absurd z (by decide)⟩
      have fa : zFr (zL w) al (up2 a1 7 2 (nI (kN + 1))) := f1.up (zLr w).2.2.2 _ _
      have fb : zFr [7, 29 + 3 * w] a (up2 a1 7 2 (nI (kN + 1))) := f2.up (by simp) _ _
      have hja : ∀ j, j ≠ 4 → j ≠ 5 → j ≠ 6 → up2 a1 7 2 (nI (kN + 1)) (29 + 3 * w) j = a (29 + 3 * w) j := fun j q1 q2 q3 => by rw [up2_ne _ _ (n7' _ _)]; exact hj j q1 q2 q3
      have h4a : up2 a1 7 2 (nI (kN + 1)) (29 + 3 * w) 4 = a1 (29 + 3 * w) 4 := up2_ne _ _ (n7' _ _)
      have star : ¬ (mi = false ∧ ¬ zSgA al (kN + 1) = 42) → (zVlA al kN ≤ 4 → (zb mi = 0 → vcX2_readSpot_118 G r ad ln w hw P (zVlA al kN) (up2 a1 7 2 (nI (kN + 1)))) ∧ (¬ zb mi = 0 → vcX2_readSpot_118 G r ad ln w hw P (-zVlA al kN) (up2 a1 7 2 (nI (kN + 1))))) ∧ (¬ zVlA al kN ≤ 4 → P 0 (up2 (up2 a1 7 2 (nI (kN + 1))) 7 2 (nI kN))) := by
        intro hst
        refine ⟨fun g2 => ⟨fun g3 => s118 mi kN _ _ fa fb hja (up2_self _ _ _ _) g4 (by rw [up2_ne _ _ (n7' _ _)]; exact h6') (fun q a' hq => fin q a' ?_), fun g3 => s118 mi kN _ _ fa fb hja (up2_self _ _ _ _) g4 (by rw [up2_ne _ _ (n7' _ _)]; exact h6') (fun q a' hq => fin q a' ?_)⟩, fun g2 => fin _ _ ?_⟩
        · rw [zb_0] at g3
          subst g3
          rw [h4a] at hq
          unfold zSpt2
          rw [if_pos g1, if_neg hst, if_pos g2]
          exact hq
        · have g3' : mi = true := by cases mi <;> first | exact absurd rfl g3 | rfl
          subst g3'
          rw [h4a] at hq
          unfold zSpt2
          rw [if_pos g1, if_neg hst, if_pos g2]
          exact hq
        · unfold zSpt2
          rw [if_pos g1, if_neg hst, if_neg g2, up2_up2]
          exact ⟨f2.up (by simp) _ _, fun j q1 q2 q3 => by rw [up2_ne _ _ (n7' _ _)]; exact hj j q1 q2 q3, rfl, up2_self _ _ _ _, hkN⟩
      refine ⟨fun g2 => star (fun z => by rw [z.1] at g2; exact g2 rfl), fun g2 => ?_⟩
      rw [zb_0] at g2
      refine (q_sign G r ad ln al _ fa (up2_self _ _ _ _) (by omega)).mono (fun q4 a4 hq => ?_)
      obtain ⟨rfl, rfl⟩ := hq
      refine ⟨fun g3 => star (fun z => z.2 g3), fun g3 => ?_⟩
      refine (q_skip G r ad ln al _ (fa.up (zLr w).1 6 _) (by rw [up2_ne _ _ (n7 _ _), up2_self]) (by omega) (t := 93) (by decide)).mono (fun q6 a6 hq => ?_)
      have fc : zFr [7, 29 + 3 * w] a (up2 (up2 a1 7 2 (nI (kN + 1))) (29 + 3 * w) 6 (zVlA al kN)) := fb.up (by simp) _ _
      have hjc : ∀ j, j ≠ 4 → j ≠ 5 → j ≠ 6 → up2 (up2 a1 7 2 (nI (kN + 1))) (29 + 3 * w) 6 (zVlA al kN) (29 + 3 * w) j = a (29 + 3 * w) j := fun j q1 q2 q3 => by rw [up2_ne _ _ (fun z => q3 z.2)]; exact hja j q1 q2 q3
      have e : zSpt2 (zSgA al) (zVlA al) mi kN = if zSgA al (kN + 1) = 93 then .inl (0, zVlA al kN, kN + 2) else .inr (kN + 1) := by
        unfold zSpt2
        rw [if_pos g1, if_pos ⟨g2, g3⟩]
      rcases hq with ⟨g7, rfl, rfl, g8⟩ | ⟨g7, rfl, rfl⟩
      · refine ⟨rfl, fin _ _ ?_⟩
        rw [e, if_pos g7]
        refine ⟨fc.up (by simp) _ _, fun j q1 q2 q3 => by rw [up2_ne _ _ (n7' _ _)]; exact hjc j q1 q2 q3, rfl, up2_self _ _ _ _, by omega, ?_, ?_, ?_⟩
        · rw [up2_ne _ _ (n7' _ _), up2_ne _ _ (fun z => absurd z.2 (by decide))]
          exact h4a
        · rw [up2_ne _ _ (n7' _ _), up2_ne _ _ (fun z => absurd z.2 (by decide)), up2_ne _ _ (n7' _ _)]
          exact h5'
        · rw [up2_ne _ _ (n7' _ _), up2_self]
      · refine ⟨rfl, fin _ _ ?_⟩
        rw [e, if_neg g7]
        exact ⟨fc, hjc, rfl, by rw [up2_ne _ _ (n7 _ _), up2_self], by omega⟩
    · refine ⟨fun z => absurd rfl z, fun _ => fin _ _ ?_⟩
      unfold zSpt2
      rw [if_neg g1]
      exact ⟨f2, hj, rfl, h7, hkN⟩
  unfold vcX2_readSpot_0 vcX2_readSpot_26
  refine (q_value G r ad ln al a hfr hk hk2).mono (fun q a1 hq => ?_)
  obtain ⟨rfl, e1⟩ := hq
  obtain rfl := e1.symm
  have fa : zFr (zL w) al (up2 a (29 + 3 * w) 4 (zVlA al k)) := hfr.up (zLr w).1 _ _
  have fb : zFr [7, 29 + 3 * w] a (up2 a (29 + 3 * w) 4 (zVlA al k)) := zFr.rf.up (by simp) _ _
  have hja : ∀ j, j ≠ 4 → j ≠ 5 → j ≠ 6 → up2 a (29 + 3 * w) 4 (zVlA al k) (29 + 3 * w) j = a (29 + 3 * w) j := fun j q1 _ _ => up2_ne _ _ (fun z => q1 z.2)
  have h7a : up2 a (29 + 3 * w) 4 (zVlA al k) 7 2 = nI k := by rw [up2_ne _ _ (n7 _ _)]; exact hk
  refine (q_skip G r ad ln al _ fa h7a hk2 (t := 97) (by decide)).mono (fun q2 a2 hq => ?_)
  rcases hq with ⟨g1, rfl, rfl, g4⟩ | ⟨g1, rfl, rfl⟩
  · refine ⟨fun z => absurd z (by decide), fun _ => ?_⟩
    refine (q_skip G r ad ln al _ (fa.up (zLr w).2.2.2 _ _) (up2_self _ _ _ _) (by omega) (t := 91) (by decide)).mono (fun q4 a4 hq => ?_)
    rcases hq with ⟨g5, rfl, rfl, g6⟩ | ⟨g5, rfl, rfl⟩
    · refine ⟨fun _ => ?_, fun z => absurd z (by decide)⟩
      rw [up2_up2]
      have fin : ∀ (mi : Bool) (kN : Nat), (if zSgA al (k + 2) = 45 then zSpt2 (zSgA al) (zVlA al) true (k + 3) else zSpt2 (zSgA al) (zVlA al) false (k + 2)) = zSpt2 (zSgA al) (zVlA al) mi kN → ∀ (q : Int32) (a' : Nat → Nat → Int32), zSpPost a w (zVlA al k) (zSpt2 (zSgA al) (zVlA al) mi kN) q a' → P q a' := by
        intro mi kN e q a' hq
        rw [← hP]
        have e2 : zSpt (zSgA al) (zVlA al) k = match zSpt2 (zSgA al) (zVlA al) mi kN with
            | .inl (c, p, k') => .inl (zVlA al k, c, p, k')
            | .inr k' => .inr k' := by
          unfold zSpt
          rw [if_pos g1, if_pos g5, e]
          cases zSpt2 (zSgA al) (zVlA al) mi kN <;> rfl
        obtain ⟨q1, q2, q3⟩ := hq
        refine ⟨q1, q2, ?_⟩
        rw [e2]
        cases hz : zSpt2 (zSgA al) (zVlA al) mi kN with
        | inl x =>
          obtain ⟨st, sh, k'⟩ := x
          rw [hz] at q3
          exact q3
        | inr k' =>
          rw [hz] at q3
          exact q3
      have fc : zFr (zL w) al (up2 (up2 a (29 + 3 * w) 4 (zVlA al k)) 7 2 (nI (k + 1 + 1))) := fa.up (zLr w).2.2.2 _ _
      have fd : zFr [7, 29 + 3 * w] a (up2 (up2 a (29 + 3 * w) 4 (zVlA al k)) 7 2 (nI (k + 1 + 1))) := fb.up (by simp) _ _
      refine (q_skip G r ad ln al _ fc (up2_self _ _ _ _) (by omega) (t := 45) (by decide)).mono (fun q6 a6 hq => ?_)
      rcases hq with ⟨g7, rfl, rfl, g8⟩ | ⟨g7, rfl, rfl⟩
      · rw [up2_up2]
        refine (q_value G r ad ln al _ (fa.up (zLr w).2.2.2 _ _) (up2_self _ _ _ _) (by omega)).mono (fun q7 a7 hq => ?_)
        obtain ⟨rfl, rfl⟩ := hq
        rw [up2_self]
        refine ⟨fun z => absurd z (by decide), fun _ => ?_⟩
        refine s58 true (k + 3) _ (fa.up (zLr w).2.2.2 _ _) (fb.up (by simp) _ _) (fun j q1 q2 q3 => by rw [up2_ne _ _ (n7' _ _)]; exact hja j q1 q2 q3) (up2_self _ _ _ _) (by omega) ?_ ?_ (fun q a' hq => fin true (k + 3) (if_pos g7) q a' ?_)
        · rw [up2_ne _ _ (n7' _ _), up2_ne _ _ (fun z => absurd z.2 (by decide))]
          exact h5
        · rw [up2_ne _ _ (n7' _ _), up2_ne _ _ (fun z => absurd z.2 (by decide))]
          exact h6
        · rw [up2_ne _ _ (n7' _ _), up2_self] at hq
          exact hq
      · refine (q_value G r ad ln al _ fc (up2_self _ _ _ _) (by omega)).mono (fun q7 a7 hq => ?_)
        obtain ⟨rfl, rfl⟩ := hq
        rw [up2_self]
        refine ⟨fun _ => ?_, fun z => absurd rfl z⟩
        refine s58 false (k + 2) _ fc fd (fun j q1 q2 q3 => by rw [up2_ne _ _ (n7' _ _)]; exact hja j q1 q2 q3) (up2_self _ _ _ _) (by omega) ?_ ?_ (fun q a' hq => fin false (k + 2) (if_neg g7) q a' ?_)
        · rw [up2_ne _ _ (n7' _ _), up2_ne _ _ (fun z => absurd z.2 (by decide))]
          exact h5
        · rw [up2_ne _ _ (n7' _ _), up2_ne _ _ (fun z => absurd z.2 (by decide))]
          exact h6
        · rw [up2_ne _ _ (n7' _ _), up2_self] at hq
          exact hq
    · refine ⟨fun z => absurd rfl z, fun _ => ?_⟩
      rw [← hP]
      have e : zSpt (zSgA al) (zVlA al) k = .inr (k + 1) := by
        unfold zSpt
        rw [if_pos g1, if_neg g5]
      refine ⟨fb.up (by simp) _ _, fun j q1 q2 q3 => by rw [up2_ne _ _ (n7' _ _)]; exact hja j q1 q2 q3, ?_⟩
      rw [e]
      exact ⟨rfl, up2_self _ _ _ _, by omega⟩
  · refine ⟨fun _ => ?_, fun z => absurd rfl z⟩
    rw [← hP]
    have e : zSpt (zSgA al) (zVlA al) k = .inr k := by
      unfold zSpt
      rw [if_neg g1]
    refine ⟨fb, hja, ?_⟩
    rw [e]
    exact ⟨rfl, h7a, hk2⟩
end SPOT
