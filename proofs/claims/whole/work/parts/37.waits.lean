-- needs: 33 31
/-! WAITS: what a row meets, the least distances -/
theorem zI_div' {x y : Int} (hx : zR x) (hy : zR y) (h0 : y ≠ 0) (hm : -2147483648 < x) : zI x / zI y = zI (x.tdiv y) := by
  rw [← Int32.toInt_inj, Int32.toInt_div_of_ne_left _ _ (fun h => by
    have h1 : (zI x).toInt = Int32.minValue.toInt := by rw [h]
    rw [zI_toInt hx] at h1
    have h2 : Int32.minValue.toInt = -2147483648 := by decide
    omega), zI_toInt hx, zI_toInt hy, zI_toInt]
  have h1 : (x.tdiv y).natAbs ≤ x.natAbs := by
    rw [Int.natAbs_tdiv]
    exact Nat.div_le_self _ _
  have h3 := hx.2
  constructor <;> omega
/-- in round n the first has the int that the second has d rounds later -/
def zMt (R : Nat) (s1 h1 s2 h2 : Int) (N d : Nat) : Prop := ∃ n : Nat, n < N ∧ n + d < R ∧ s1 * (n : Int) + h1 = s2 * ((n + d : Nat) : Int) + h2
def zOvIs (R : Nat) (s1 h1 s2 h2 : Int) (l N : Nat) (b : Int) : Prop := (b = -1 ∧ ∀ d, l ≤ d → ¬ zMt R s1 h1 s2 h2 N d) ∨ ∃ d : Nat, b = (d : Int) ∧ l ≤ d ∧ zMt R s1 h1 s2 h2 N d ∧ ∀ d', l ≤ d' → zMt R s1 h1 s2 h2 N d' → d ≤ d'
theorem zOvIs_uni {R : Nat} {s1 h1 s2 h2 : Int} {l N : Nat} {b b' : Int} (h : zOvIs R s1 h1 s2 h2 l N b) (h' : zOvIs R s1 h1 s2 h2 l N b') : b = b' := by
  rcases h with ⟨e, q⟩ | ⟨d, e, q1, q2, q3⟩ <;> rcases h' with ⟨e', q'⟩ | ⟨d', e', q1', q2', q3'⟩
  · omega
  · exact absurd q2' (q d' q1')
  · exact absurd q2 (q' d q1)
  · have := q3 d' q1' q2'
    have := q3' d q1 q2
    omega
/-- the row's own part of a number -/
def zRnd (s h p : Int) (w : Int) : Int := if s = 0 then (if p = h then w else -1) else if (p - h).tmod s = 0 then (p - h).tdiv s else -1
theorem zRnd_step {R : Nat} {s1 h1 s2 h2 : Int} {l N : Nat} {b : Int} (h : zOvIs R s1 h1 s2 h2 l N b) : zOvIs R s1 h1 s2 h2 l (N + 1) (if ((N + l : Nat) : Int) ≤ zRnd s2 h2 (s1 * (N : Int) + h1) ((N + l : Nat) : Int) ∧ zRnd s2 h2 (s1 * (N : Int) + h1) ((N + l : Nat) : Int) < R ∧ (b < 0 ∨ zRnd s2 h2 (s1 * (N : Int) + h1) ((N + l : Nat) : Int) - N < b) then zRnd s2 h2 (s1 * (N : Int) + h1) ((N + l : Nat) : Int) - N else b) := by
  generalize hmt : zRnd s2 h2 (s1 * (N : Int) + h1) ((N + l : Nat) : Int) = mt
  -- what holds of round N
  have sound : ((N + l : Nat) : Int) ≤ mt → mt < R → ∃ d : Nat, mt - N = (d : Int) ∧ l ≤ d ∧ zMt R s1 h1 s2 h2 (N + 1) d := by
    intro g1 g2
    refine ⟨(mt - N).toNat, by omega, by omega, N, by omega, by omega, ?_⟩
    have e : ((N + (mt - N).toNat : Nat) : Int) = mt := by omega
    rw [e]
    unfold zRnd at hmt
    by_cases q : s2 = 0
    · rw [if_pos q] at hmt
      by_cases q2 : s1 * (N : Int) + h1 = h2
      · rw [q, q2]
        omega
      · rw [if_neg q2] at hmt
        omega
    · rw [if_neg q] at hmt
      by_cases q2 : (s1 * (N : Int) + h1 - h2).tmod s2 = 0
      · rw [if_pos q2] at hmt
        have := Int.mul_tdiv_add_tmod (s1 * (N : Int) + h1 - h2) s2
        rw [q2, hmt] at this
        omega
      · rw [if_neg q2] at hmt
        omega
  have least : ∀ d : Nat, l ≤ d → N + d < R → s1 * (N : Int) + h1 = s2 * ((N + d : Nat) : Int) + h2 → ((N + l : Nat) : Int) ≤ mt ∧ mt < R ∧ mt - N ≤ d := by
    intro d g1 g2 g3
    unfold zRnd at hmt
    by_cases q : s2 = 0
    · rw [if_pos q] at hmt
      rw [q] at g3
      rw [if_pos (by omega)] at hmt
      omega
    · rw [if_neg q] at hmt
      have g4 : s1 * (N : Int) + h1 - h2 = s2 * ((N + d : Nat) : Int) := by omega
      rw [g4, Int.mul_tmod_right, if_pos rfl, Int.mul_tdiv_cancel_left _ q] at hmt
      omega
  -- both together
  have old : ∀ d, zMt R s1 h1 s2 h2 N d → zMt R s1 h1 s2 h2 (N + 1) d := fun d ⟨n, a1, a2⟩ => ⟨n, by omega, a2⟩
  have new : ∀ d, l ≤ d → zMt R s1 h1 s2 h2 (N + 1) d → zMt R s1 h1 s2 h2 N d ∨ (((N + l : Nat) : Int) ≤ mt ∧ mt < R ∧ mt - N ≤ d) := by
    rintro d g1 ⟨n, a1, a2, a3⟩
    by_cases e : n = N
    · subst e
      exact Or.inr (least d g1 a2 a3)
    · exact Or.inl ⟨n, by omega, a2, a3⟩
  by_cases q : ((N + l : Nat) : Int) ≤ mt ∧ mt < R ∧ (b < 0 ∨ mt - N < b)
  · rw [if_pos q]
    obtain ⟨d, e1, e2, e3⟩ := sound q.1 q.2.1
    refine Or.inr ⟨d, e1, e2, e3, fun d' g1 g2 => ?_⟩
    rcases new d' g1 g2 with g | g
    · rcases h with ⟨e, z⟩ | ⟨d2, e, z1, z2, z3⟩
      · exact absurd g (z d' g1)
      · have := z3 d' g1 g
        omega
    · omega
  · rw [if_neg q]
    rcases h with ⟨e, z⟩ | ⟨d2, e, z1, z2, z3⟩
    · refine Or.inl ⟨e, fun d g1 g2 => ?_⟩
      rcases new d g1 g2 with g | g
      · exact z d g1 g
      · exact q ⟨g.1, g.2.1, Or.inl (by omega)⟩
    · refine Or.inr ⟨d2, e, z1, old _ z2, fun d' g1 g2 => ?_⟩
      rcases new d' g1 g2 with g | g
      · exact z3 d' g1 g
      · rcases Int.lt_or_le (mt - N) b with g5 | g5
        · exact absurd ⟨g.1, g.2.1, Or.inr g5⟩ q
        · omega
theorem zOvIs_0 (R : Nat) (s1 h1 s2 h2 : Int) (l : Nat) : zOvIs R s1 h1 s2 h2 l 0 (-1) := Or.inl ⟨rfl, fun d _ ⟨n, a, _⟩ => absurd a (by omega)⟩
theorem zOv_ex (R : Nat) (s1 h1 s2 h2 : Int) (l : Nat) : ∀ N, ∃ b, zOvIs R s1 h1 s2 h2 l N b
  | 0 => ⟨_, zOvIs_0 R s1 h1 s2 h2 l⟩
  | N + 1 => by
    obtain ⟨b, hb⟩ := zOv_ex R s1 h1 s2 h2 l N
    exact ⟨_, zRnd_step hb⟩
/-- over how many rounds two meet -/
noncomputable def zOv (R : Nat) (s1 h1 s2 h2 : Int) (l : Nat) : Int := Classical.choose (zOv_ex R s1 h1 s2 h2 l R)
theorem zOv_is (R : Nat) (s1 h1 s2 h2 : Int) (l : Nat) : zOvIs R s1 h1 s2 h2 l R (zOv R s1 h1 s2 h2 l) := Classical.choose_spec (zOv_ex R s1 h1 s2 h2 l R)
theorem zOvIs_rng {R : Nat} {s1 h1 s2 h2 : Int} {l N : Nat} {b : Int} (h : zOvIs R s1 h1 s2 h2 l N b) : b = -1 ∨ ((l : Int) ≤ b ∧ b < R) := by
  rcases h with ⟨e, -⟩ | ⟨d, e, q1, ⟨n, a1, a2, -⟩, -⟩
  · exact Or.inl e
  · exact Or.inr (by omega)
/-- the first wait of that kind -/
def zFnd (fr to ov : Nat → Nat) (p1 p2 p3 : Int32) : Nat → Nat → Option Nat
  | 0, _ => none
  | f + 1, i => if nI (fr i) = p1 ∧ nI (to i) = p2 ∧ nI (ov i) = p3 then some i else zFnd fr to ov p1 p2 p3 f (i + 1)
def zGn (kd : Nat → Nat) (g : Nat) : Nat → Nat
  | 0 => 0
  | n + 1 => zGn kd g n + (if zGrp (kd n) g then 1 else 0)
theorem zGn_le (kd : Nat → Nat) (g : Nat) : ∀ n, zGn kd g n ≤ n
  | 0 => Nat.le_refl _
  | n + 1 => by
    unfold zGn
    have := zGn_le kd g n
    split <;> omega
def zLu (kd st : Nat → Nat) (n : Nat) : Nat → Nat
  | 0 => 0
  | g + 1 => max (zLu kd st n g) ((zGn kd g n + sUnits st g - 1) / sUnits st g)
/-- there is room for the circles -/
def zFe (m : Nat) (fr to ov dl : Nat → Nat) (D : Nat) : Prop := ∃ h, bfOk m fr to (zWg ov dl D) h
theorem zFe_mono {m : Nat} {fr to ov dl : Nat → Nat} {D D' : Nat} (h : zFe m fr to ov dl D) (hd : D ≤ D') : zFe m fr to ov dl D' := by
  obtain ⟨f, hf⟩ := h
  refine ⟨f, fun i hi => ?_⟩
  have := hf i hi
  unfold zWg at this ⊢
  have h1 : (ov i : Int) * (D : Int) ≤ (ov i : Int) * (D' : Int) := Int.mul_le_mul_of_nonneg_left (by omega) (by omega)
  omega
theorem zFe_960 {m : Nat} {fr to ov dl : Nat → Nat} (h : ∀ i, i < m → fr i < 48 ∧ dl i ≤ 20 ∧ (ov i = 0 → fr i < to i)) : zFe m fr to ov dl 960 := by
  refine ⟨fun x => 20 * (48 - x : Nat), fun i hi => ?_⟩
  obtain ⟨h1, h2, h3⟩ := h i hi
  unfold zWg
  by_cases q : ov i = 0
  · have := h3 q
    rw [q]
    simp only
    omega
  · have h4 : (1 : Int) * 960 ≤ (ov i : Int) * ((960 : Nat) : Int) := Int.mul_le_mul_of_nonneg_right (by omega) (by omega)
    simp only
    omega
def zLcIs (m : Nat) (fr to ov dl : Nat → Nat) (c : Nat) : Prop := 1 ≤ c ∧ c ≤ 960 ∧ zFe m fr to ov dl c ∧ ∀ D, 1 ≤ D → D < c → ¬ zFe m fr to ov dl D
theorem zLcIs_uni {m : Nat} {fr to ov dl : Nat → Nat} {c c' : Nat} (h : zLcIs m fr to ov dl c) (h' : zLcIs m fr to ov dl c') : c = c' := by
  rcases Nat.lt_trichotomy c c' with q | q | q
  · exact absurd h.2.2.1 (h'.2.2.2 c h.1 q)
  · exact q
  · exact absurd h'.2.2.1 (h.2.2.2 c' h'.1 q)
section WAITS
variable (G : zG) (r : Bool) (ad ln : Nat → Nat) (al : Nat → Nat → Int32) {n m : Nat} {fr to ov dl : Nat → Nat}
theorem c_placesDelay (w1 w2 : Nat) (hw1 : w1 < 48) (hw2 : w2 < 48) (t : Int32) : zMi G yX8_placesDelay wsX8_placesDelay rmX8_placesDelay (zTC r) ad ln [.ref (ad (29 + 3 * w1)), .ref (ad (29 + 3 * w2)), .int t] al (fun q a => q = (if al (29 + 3 * w1) 0 = 3 then (if al (29 + 3 * w2) 0 = 3 then 1 else t) else 0) ∧ a = al) := by
  refine zMi.of (cc := cX8_placesDelay) (nL := 3) (rt := .int) (by decide) rfl (Nat.le_of_ble_eq_true rfl) (fun Z X hR => ?_)
  refine tX8_placesDelay_0 X w1 hw1 w2 hw2 t hR al ?_
  unfold vcX8_placesDelay_0 vcX8_placesDelay_23
  refine ⟨fun q => ⟨fun q2 => ⟨?_, rfl⟩, fun q2 => ⟨?_, rfl⟩⟩, fun q => ⟨?_, rfl⟩⟩
  · rw [if_pos q, if_neg q2]
  · rw [if_pos q, if_pos q2]
  · rw [if_neg q]
theorem c_roundOfSpot (w : Nat) (hw : w < 48) {s h p v : Int} (hs : -4 ≤ s ∧ s ≤ 4) (hh : -250 ≤ h ∧ h ≤ 250) (hp : -1000 ≤ p ∧ p ≤ 1000) (h5 : al (29 + 3 * w) 5 = zI s) (h6 : al (29 + 3 * w) 6 = zI h) : zMi G yX8_roundOfSpot wsX8_roundOfSpot rmX8_roundOfSpot (zTC r) ad ln [.ref (ad (29 + 3 * w)), .int (zI p), .int (zI v)] al (fun q a => q = zI (zRnd s h p v) ∧ a = al) := by
  refine zMi.of (cc := cX8_roundOfSpot) (nL := 5) (rt := .int) (by decide) rfl (Nat.le_of_ble_eq_true rfl) (fun Z X hR => ?_)
  refine tX8_roundOfSpot_0 X w hw _ _ hR al ?_
  unfold vcX8_roundOfSpot_0 vcX8_roundOfSpot_43 vcX8_roundOfSpot_27
  have e0 : zI p - zI h = 0 ↔ p = h := by
    rw [zI_sub, zI_0, zI_eq ⟨by omega, by omega⟩ ⟨by omega, by omega⟩]
    omega
  rw [h5, h6, zI_0, zI_eq (x := s) ⟨by omega, by omega⟩ ⟨by omega, by omega⟩, ← zI_0, e0]
  unfold zRnd
  refine ⟨fun q => ⟨q, ?_⟩, fun q => ⟨fun q2 => ⟨?_, rfl⟩, fun q2 => ⟨?_, rfl⟩⟩⟩
  · rw [zI_sub, zI_div' ⟨by omega, by omega⟩ ⟨by omega, by omega⟩ q (by omega), zI_mul, zI_sub]
    have e1 : p - h - (p - h).tdiv s * s = (p - h).tmod s := by
      have := Int.tdiv_mul_add_tmod (p - h) s
      omega
    have b1 : ((p - h).tmod s).natAbs ≤ (p - h).natAbs := by
      rw [Int.natAbs_tmod]
      exact Nat.mod_le _ _
    rw [e1, zI_0, zI_eq ⟨by omega, by omega⟩ ⟨by omega, by omega⟩, if_neg q]
    refine ⟨fun q2 => ⟨?_, rfl⟩, fun q2 => ⟨q, ?_, rfl⟩⟩
    · rw [if_neg q2]
      rfl
    · rw [if_pos q2]
  · rw [if_pos q, if_neg q2]
    rfl
  · rw [if_pos q, if_pos q2]
/-- two rows of one array, one of which sets -/
theorem c_placesOver (w1 w2 : Nat) (hw1 : w1 < 48) (hw2 : w2 < 48) {R l : Nat} {s1 h1 s2 h2 : Int} (hR1 : 1 ≤ R ∧ R ≤ 64) (hl : l ≤ 1) (hr : al 2 8 = nI R) (b1 : -4 ≤ s1 ∧ s1 ≤ 4) (b2 : -250 ≤ h1 ∧ h1 ≤ 250) (b3 : -4 ≤ s2 ∧ s2 ≤ 4) (b4 : -250 ≤ h2 ∧ h2 ≤ 250) (e1 : al (29 + 3 * w1) 5 = zI s1) (e2 : al (29 + 3 * w1) 6 = zI h1) (e3 : al (29 + 3 * w2) 5 = zI s2) (e4 : al (29 + 3 * w2) 6 = zI h2) : zMi G yX8_placesOver wsX8_placesOver rmX8_placesOver (zTC r) ad ln [.ref (ad 12), .ref (ad (29 + 3 * w1)), .ref (ad (29 + 3 * w2)), .int (nI l)] al (fun q a => q = (if ¬ al (29 + 3 * w1) 4 < 0 ∧ al (29 + 3 * w1) 4 = al (29 + 3 * w2) 4 ∧ (al (29 + 3 * w1) 0 = 3 ∨ al (29 + 3 * w2) 0 = 3) then zI (zOv R s1 h1 s2 h2 l) else -1) ∧ a = al) := by
  refine zMi.of (cc := cX8_placesOver) (nL := 8) (rt := .int) (by decide) rfl (Nat.le_of_ble_eq_true rfl) (fun Z X hR => ?_)
  generalize hP : (fun (q : Int32) (a : Nat → Nat → Int32) => q = (if ¬ al (29 + 3 * w1) 4 < 0 ∧ al (29 + 3 * w1) 4 = al (29 + 3 * w2) 4 ∧ (al (29 + 3 * w1) 0 = 3 ∨ al (29 + 3 * w2) 0 = 3) then zI (zOv R s1 h1 s2 h2 l) else -1) ∧ a = al) = P at hR
  have loop : (¬ al (29 + 3 * w1) 4 < 0 ∧ al (29 + 3 * w1) 4 = al (29 + 3 * w2) 4 ∧ (al (29 + 3 * w1) 0 = 3 ∨ al (29 + 3 * w2) 0 = 3)) → ∀ (f N : Nat) (b : Int), N + f = R → zOvIs R s1 h1 s2 h2 l N b → BX8_placesOver_53 G Z r ad ln w1 hw1 w2 hw2 (nI l) (nI R) (zI b) (nI N) al := by
    intro hc f
    induction f with
    | zero =>
      intro N b hN hb
      refine uX8_placesOver_53 X w1 hw1 w2 hw2 _ hR _ _ _ al ?_
      unfold vcX8_placesOver_53
      refine ⟨fun _ => ?_, fun z => absurd (by rw [nI_leI (by omega) (by omega)]; omega) z⟩
      rw [← hP]
      have : N = R := by omega
      subst this
      refine ⟨?_, rfl⟩
      rw [if_pos hc, zOvIs_uni hb (zOv_is N s1 h1 s2 h2 l)]
    | succ f ih =>
      intro N b hN hb
      refine uX8_placesOver_53 X w1 hw1 w2 hw2 _ hR _ _ _ al ?_
      unfold vcX8_placesOver_53 vcX8_placesOver_107 vcX8_placesOver_114
      refine ⟨fun z => absurd z (by rw [nI_leI (by omega) (by omega)]; omega), fun _ => ?_⟩
      refine (c_spot G r ad ln al w1 hw1 _).mono (fun q a hq => ?_)
      obtain ⟨rfl, e⟩ := hq
      obtain rfl := e.symm
      have g1 : -4 * 64 ≤ s1 * (N : Int) ∧ s1 * (N : Int) ≤ 4 * 64 := by
        have hN2 : (N : Int) ≤ 64 := by omega
        have z1 : s1 * (N : Int) ≤ 4 * (N : Int) := Int.mul_le_mul_of_nonneg_right (by omega) (by omega)
        have z2 : -4 * (N : Int) ≤ s1 * (N : Int) := Int.mul_le_mul_of_nonneg_right (by omega) (by omega)
        omega
      rw [e1, e2, zI_n N, zI_n l, zI_mul, zI_add, zI_add]
      refine (c_roundOfSpot G r ad ln al w2 hw2 (v := (N : Int) + (l : Int)) b3 b4 (p := s1 * (N : Int) + h1) (by omega) e3 e4).mono (fun q a hq => ?_)
      obtain ⟨rfl, e⟩ := hq
      obtain rfl := e.symm
      have nx := zRnd_step (N := N) hb
      have g2 : -2000 ≤ zRnd s2 h2 (s1 * (N : Int) + h1) ((N : Int) + (l : Int)) ∧ zRnd s2 h2 (s1 * (N : Int) + h1) ((N : Int) + (l : Int)) ≤ 2000 := by
        unfold zRnd
        split
        · split <;> omega
        · split
          · have : ((s1 * (N : Int) + h1 - h2).tdiv s2).natAbs ≤ (s1 * (N : Int) + h1 - h2).natAbs := by
              rw [Int.natAbs_tdiv]
              exact Nat.div_le_self _ _
            omega
          · omega
      rw [show ((N + l : Nat) : Int) = (N : Int) + (l : Int) by omega] at nx
      generalize zRnd s2 h2 (s1 * (N : Int) + h1) ((N : Int) + (l : Int)) = mt at nx g2
      have hb2 := zOvIs_rng hb
      rw [zI_n R, zI_1, zI_add, zI_sub, zI_0, zI_lt ⟨by omega, by omega⟩ ⟨by omega, by omega⟩, zI_le ⟨by omega, by omega⟩ ⟨by omega, by omega⟩, zI_lt ⟨by omega, by omega⟩ ⟨by omega, by omega⟩, zI_le ⟨by omega, by omega⟩ ⟨by omega, by omega⟩]
      have s1' : ¬ (((N : Int) + (l : Int)) ≤ mt ∧ mt < R ∧ (b < 0 ∨ mt - N < b)) → BX8_placesOver_53 G Z r ad ln w1 hw1 w2 hw2 (zI l) (zI R) (zI b) (zI ((N : Int) + 1)) al := by
        intro hno
        rw [if_neg hno] at nx
        have := ih (N + 1) b (by omega) nx
        rw [zI_n l, zI_n R, zI_n (N + 1)] at this
        exact this
      have s2' : (((N : Int) + (l : Int)) ≤ mt ∧ mt < R ∧ (b < 0 ∨ mt - N < b)) → BX8_placesOver_53 G Z r ad ln w1 hw1 w2 hw2 (zI l) (zI R) (zI (mt - N)) (zI ((N : Int) + 1)) al := by
        intro hno
        rw [if_pos hno] at nx
        have := ih (N + 1) _ (by omega) nx
        rw [zI_n l, zI_n R, zI_n (N + 1)] at this
        exact this
      refine ⟨fun q => s1' (by omega), fun q => ⟨fun q2 => s1' (by omega), fun q2 => ⟨fun q3 => s2' (by omega), fun q3 => ⟨fun q4 => s1' (by omega), fun q4 => s2' (by omega)⟩⟩⟩⟩
  have no : ¬ (¬ al (29 + 3 * w1) 4 < 0 ∧ al (29 + 3 * w1) 4 = al (29 + 3 * w2) 4 ∧ (al (29 + 3 * w1) 0 = 3 ∨ al (29 + 3 * w2) 0 = 3)) → P (-1) al := by
    intro hc
    rw [← hP]
    exact ⟨by rw [if_neg hc], rfl⟩
  have yes : (¬ al (29 + 3 * w1) 4 < 0 ∧ al (29 + 3 * w1) 4 = al (29 + 3 * w2) 4 ∧ (al (29 + 3 * w1) 0 = 3 ∨ al (29 + 3 * w2) 0 = 3)) → vcX8_placesOver_38 G r ad ln w1 hw1 w2 hw2 (nI l) (BX8_placesOver_53 G Z r ad ln w1 hw1 w2 hw2 (nI l)) P al := by
    intro hc
    unfold vcX8_placesOver_38
    refine ⟨by unfold vp_in; decide, ?_⟩
    rw [hr]
    exact loop hc R 0 (-1) (by omega) (zOvIs_0 R s1 h1 s2 h2 l)
  refine uX8_placesOver_0 X w1 hw1 w2 hw2 _ hR al ?_
  unfold vcX8_placesOver_0 vcX8_placesOver_18
  exact ⟨fun q => no (fun z => z.1 q), fun q => ⟨fun q2 => ⟨fun q3 => yes ⟨q, q2, Or.inl q3⟩, fun q3 => ⟨fun q4 => yes ⟨q, q2, Or.inr q4⟩, fun q4 => no (fun z => z.2.2.elim q3 q4)⟩⟩, fun q2 => no (fun z => q2 z.2.1)⟩⟩
theorem c_find (hw : zWt al ln n m fr to ov dl) (p1 p2 p3 : Int32) : zMi G yX8_find wsX8_find rmX8_find (zTC r) ad ln [.ref (ad 12), .int p1, .int p2, .int p3] al (fun q a => (match zFnd fr to ov p1 p2 p3 m 0 with
    | some i => q = nI i ∧ i < m
    | none => q = -1) ∧ a = al) := by
  refine zMi.of (cc := cX8_find) (nL := 5) (rt := .int) (by decide) rfl (Nat.le_of_ble_eq_true rfl) (fun Z X hR => ?_)
  generalize htg : zFnd fr to ov p1 p2 p3 m 0 = tg at hR
  obtain ⟨hm, hm2, hn, hl, hl2, hwt⟩ := hw
  have loop : ∀ (f i : Nat), i + f = m → zFnd fr to ov p1 p2 p3 f i = tg → BX8_find_3 G Z r ad ln p1 p2 p3 (nI i) al := by
    intro f
    induction f with
    | zero =>
      intro i hi e
      refine uX8_find_3 X _ _ _ hR _ al ?_
      unfold vcX8_find_3
      rw [hm]
      refine ⟨fun _ => ?_, fun z => absurd (by rw [nI_leI (by omega) (by omega)]; omega) z⟩
      rw [← e]
      exact ⟨rfl, rfl⟩
    | succ f ih =>
      intro i hi e
      refine uX8_find_3 X _ _ _ hR _ al ?_
      unfold vcX8_find_3 vcX8_find_48
      rw [hm, nI_clamp (by omega), nI_1]
      obtain ⟨c1, c2, c3, -⟩ := (hwt i (by omega)).1
      rw [c1, c2, c3]
      unfold zFnd at e
      have nx : ¬ (nI (fr i) = p1 ∧ nI (to i) = p2 ∧ nI (ov i) = p3) → BX8_find_3 G Z r ad ln p1 p2 p3 (nI (i + 1)) al := fun hno => ih (i + 1) (by omega) (by rw [if_neg hno] at e; exact e)
      refine ⟨fun z => absurd z (by rw [nI_leI (by omega) (by omega)]; omega), fun _ => ⟨vp_in_nI (by omega) (by omega), fun q => nx (fun z => q z.1), fun q => ⟨vp_in_nI (by omega) (by omega), fun q2 => nx (fun z => q2 z.2.1), fun q2 => ⟨vp_in_nI (by omega) (by omega), fun q3 => nx (fun z => q3 z.2.2), fun q3 => ?_⟩⟩⟩⟩
      rw [if_pos ⟨q, q2, q3⟩] at e
      rw [← e]
      exact ⟨⟨rfl, by omega⟩, rfl⟩
  refine uX8_find_0 X _ _ _ hR al ?_
  unfold vcX8_find_0
  exact loop m 0 (by omega) htg
theorem c_rowsInGroup {kd : Nat → Nat} (h4 : al 4 1 = nI n) (hn : n ≤ 48) (hk : ∀ x, x < n → al (29 + 3 * x) 0 = nI (kd x) ∧ kd x < 4) {g : Nat} (hg : g < 4) : zMi G yX8_rowsInGroup wsX8_rowsInGroup rmX8_rowsInGroup (zTC r) ad ln [.ref (ad 12), .int (nI g)] al (fun q a => q = nI (zGn kd g n) ∧ a = al) := by
  refine zMi.of (cc := cX8_rowsInGroup) (nL := 4) (rt := .int) (by decide) rfl (Nat.le_of_ble_eq_true rfl) (fun Z X hR => ?_)
  have loop : ∀ (f x : Nat), x + f = n → BX8_rowsInGroup_4 G Z r ad ln (nI g) (nI (zGn kd g x)) (nI x) al := by
    intro f
    induction f with
    | zero =>
      intro x hx
      refine uX8_rowsInGroup_4 X _ hR _ _ al ?_
      unfold vcX8_rowsInGroup_4
      rw [h4]
      have : x = n := by omega
      subst this
      exact ⟨fun _ => ⟨rfl, rfl⟩, fun z => absurd (Int32.le_refl _) z⟩
    | succ f ih =>
      intro x hx
      refine uX8_rowsInGroup_4 X _ hR _ _ al ?_
      unfold vcX8_rowsInGroup_4 vcX8_rowsInGroup_37
      rw [h4, nI_clamp (by omega), (hk x (by omega)).1, nI_1, nI_1]
      refine ⟨fun z => absurd z (by rw [nI_leI (by omega) (by omega)]; omega), fun _ => ⟨vp_in_nI (by omega) (by omega), ?_⟩⟩
      refine (c_isInGroup G r ad ln al (hk x (by omega)).2 hg).mono (fun q a hq => ?_)
      obtain ⟨rfl, e⟩ := hq
      obtain rfl := e.symm
      have i1 := ih (x + 1) (by omega)
      unfold zGn at i1
      refine ⟨fun q => ?_, fun q => ?_⟩
      · rw [zb_0] at q
        rw [if_neg (by rw [q]; decide), Nat.add_zero] at i1
        exact i1
      · have q' : zGrp (kd x) g = true := by
          cases h : zGrp (kd x) g
          · rw [h] at q
            exact absurd rfl q
          · rfl
        rw [if_pos q'] at i1
        exact i1
  refine uX8_rowsInGroup_0 X _ hR al ?_
  unfold vcX8_rowsInGroup_0
  exact loop n 0 (by omega)
theorem c_findLeastByUnits {kd st : Nat → Nat} (h4 : al 4 1 = nI n) (hn : n ≤ 48) (hk : ∀ x, x < n → al (29 + 3 * x) 0 = nI (kd x) ∧ kd x < 4) (hs : ∀ j, j < 9 → al 2 j = nI (st j) ∧ 1 ≤ st j ∧ st j ≤ 64) : zMi G yX8_findLeastByUnits wsX8_findLeastByUnits rmX8_findLeastByUnits (zTC r) ad ln [.ref (ad 12)] al (fun q a => q = nI (zLu kd st n 4) ∧ a = al) := by
  refine zMi.of (cc := cX8_findLeastByUnits) (nL := 4) (rt := .int) (by decide) rfl (Nat.le_of_ble_eq_true rfl) (fun Z X hR => ?_)
  have small : ∀ g, g < 4 → (zGn kd g n + sUnits st g - 1) / sUnits st g ≤ 48 := by
    intro g hg
    obtain ⟨-, h2, h3⟩ := hs _ (zGS_lt g hg).1
    have h5 := zGn_le kd g n
    have h6 : sUnits st g = st (zGS g).toNatClampNeg := rfl
    refine Nat.le_of_lt_succ (Nat.div_lt_of_lt_mul ?_)
    have : 1 * 48 ≤ sUnits st g * 48 := Nat.mul_le_mul_right _ (by omega)
    rw [Nat.mul_succ]
    omega
  have lle : ∀ g, g ≤ 4 → zLu kd st n g ≤ 48 := by
    intro g
    induction g with
    | zero =>
      intro _
      show 0 ≤ 48
      omega
    | succ g ih =>
      intro hg
      unfold zLu
      exact Nat.max_le.mpr ⟨ih (by omega), small g (by omega)⟩
  have loop : ∀ (f g : Nat), g + f = 4 → BX8_findLeastByUnits_4 G Z r ad ln (nI (zLu kd st n g)) (nI g) al := by
    intro f
    induction f with
    | zero =>
      intro g hg
      refine uX8_findLeastByUnits_4 X hR _ _ al ?_
      unfold vcX8_findLeastByUnits_4
      have : g = 4 := by omega
      subst this
      exact ⟨fun _ => ⟨rfl, rfl⟩, fun z => absurd (by decide) z⟩
    | succ f ih =>
      intro g hg
      refine uX8_findLeastByUnits_4 X hR _ _ al ?_
      unfold vcX8_findLeastByUnits_4
      obtain ⟨z1, z2, z3⟩ := zGS_lt g (by omega)
      obtain ⟨e1, e2, e3⟩ := hs _ z1
      rw [nI_clamp (by omega), nI_1, e1]
      refine ⟨fun z => absurd z (by rw [show (4 : Int32) = nI 4 from rfl, nI_leI (by omega) (by omega)]; omega), fun _ => ⟨vp_in_nI (by omega) (by omega), z2, ?_⟩⟩
      refine (c_rowsInGroup G r ad ln al h4 hn hk (g := g) (by omega)).mono (fun q a hq => ?_)
      obtain ⟨rfl, e⟩ := hq
      obtain rfl := e.symm
      have h5 := zGn_le kd g n
      have eu : st (zGS g).toNatClampNeg = sUnits st g := rfl
      rw [eu] at e1 e2 e3 ⊢
      rw [zI_n (zGn kd g n), zI_n (sUnits st g), zI_1, zI_add, zI_sub]
      refine (c_quotient G r ad ln al (x := (zGn kd g n : Int) + (sUnits st g : Int) - 1) (y := (sUnits st g : Int)) ⟨by omega, by omega⟩ ⟨by omega, by omega⟩ (by omega)).mono (fun q a hq => ?_)
      obtain ⟨rfl, e⟩ := hq
      obtain rfl := e.symm
      have i1 := ih (g + 1) (by omega)
      unfold zLu at i1
      have ed : ((zGn kd g n : Int) + (sUnits st g : Int) - 1) / (sUnits st g : Int) = (((zGn kd g n + sUnits st g - 1) / sUnits st g : Nat) : Int) := by
        rw [show (zGn kd g n : Int) + (sUnits st g : Int) - 1 = ((zGn kd g n + sUnits st g - 1 : Nat) : Int) by omega]
        exact (Int.natCast_ediv _ _).symm
      rw [ed, ← zI_n]
      have g1 := small g (by omega)
      have g2 := lle g (by omega)
      have hlt := nI_ltI (a := zLu kd st n g) (b := (zGn kd g n + sUnits st g - 1) / sUnits st g) (by omega) (by omega)
      by_cases q : zLu kd st n g < (zGn kd g n + sUnits st g - 1) / sUnits st g
      · rw [if_pos (hlt.mpr q)]
        rw [Nat.max_eq_right (by omega)] at i1
        exact i1
      · rw [if_neg (fun z => q (hlt.mp z))]
        rw [Nat.max_eq_left (by omega)] at i1
        exact i1
  refine uX8_findLeastByUnits_0 X hR al ?_
  unfold vcX8_findLeastByUnits_0
  exact loop 4 0 (by omega)
theorem c_findLeastByCircles (hw : zWt al ln n m fr to ov dl) (hn0 : 0 < n) (h4 : al 4 1 = nI n) (hF : zFe m fr to ov dl 960) : zMi G yX8_findLeastByCircles wsX8_findLeastByCircles rmX8_findLeastByCircles (zTC r) ad ln [.ref (ad 12)] al (fun q a => zFr [17] al a ∧ ∃ c, q = nI c ∧ zLcIs m fr to ov dl c) := by
  refine zMi.of (cc := cX8_findLeastByCircles) (nL := 5) (rt := .int) (by decide) rfl (Nat.le_of_ble_eq_true rfl) (fun Z X hR => ?_)
  have loop : ∀ (f s lo hi : Nat) (a : Nat → Nat → Int32), s + f = 32 → zFr [17] al a → 1 ≤ lo → lo ≤ hi → hi ≤ 960 → hi - lo < 2 ^ f → zFe m fr to ov dl hi → (∀ D, 1 ≤ D → D < lo → ¬ zFe m fr to ov dl D) → BX8_findLeastByCircles_8 G Z r ad ln (nI lo) (nI hi) (nI s) a := by
    intro f
    induction f with
    | zero =>
      intro s lo hi a hs hf h1 h2 h3 h5 h6 h7
      refine uX8_findLeastByCircles_8 X hR _ _ _ a ?_
      unfold vcX8_findLeastByCircles_8 vcX8_findLeastByCircles_52
      have : s = 32 := by omega
      subst this
      refine ⟨fun _ => ⟨hf, hi, rfl, by omega, h3, h6, fun D d1 d2 => h7 D d1 ?_⟩, fun z => absurd (by decide) z⟩
      have : hi - lo < 1 := h5
      omega
    | succ f ih =>
      intro s lo hi a hs hf h1 h2 h3 h5 h6 h7
      refine uX8_findLeastByCircles_8 X hR _ _ _ a ?_
      unfold vcX8_findLeastByCircles_8 vcX8_findLeastByCircles_52 vcX8_findLeastByCircles_46
      refine ⟨fun z => absurd z (by rw [show (32 : Int32) = nI 32 from rfl, nI_leI (by omega) (by omega)]; omega), fun _ => ⟨fun q => ?_, fun q => ⟨by decide, ?_⟩⟩⟩
      · rw [nI_leI (by omega) (by omega)] at q
        exact ⟨hf, hi, rfl, by omega, h3, h6, fun D d1 d2 => h7 D d1 (by omega)⟩
      · rw [nI_leI (by omega) (by omega)] at q
        have em : (nI lo + nI hi) / 2 = nI ((lo + hi) / 2) := by
          rw [zI_n lo, zI_n hi, zI_add, zI_2, zI_div ⟨by omega, by omega⟩ ⟨by omega, by omega⟩ (by omega), Int.tdiv_eq_ediv_of_nonneg (by omega), zI_n]
          congr 1
        rw [em, nI_1, nI_1]
        have hw2 : zWt a ln n m fr to ov dl := hw.fr (by rw [hf 12 (by decide)]) (hf 13 (by decide)) (hf 14 (by decide)) (hf 15 (by decide)) (hf 16 (by decide))
        have h2f : 2 ^ (f + 1) = 2 ^ f + 2 ^ f := by rw [Nat.pow_succ]; omega
        refine (c_findHeights G r ad ln a hw2 hn0 (by rw [hf 4 (by decide)]; exact h4) (D := (lo + hi) / 2) (by omega)).mono (fun q1 a1 hq => ?_)
        obtain ⟨f1, ⟨rfl, h, hb, -⟩ | ⟨rfl, hb⟩⟩ := hq
        · refine ⟨fun z => absurd z (by decide), fun _ => ?_⟩
          exact ih (s + 1) lo ((lo + hi) / 2) a1 (by omega) (hf.tr f1) h1 (by omega) (by omega) (by omega) ⟨h, hb.1.2⟩ h7
        · refine ⟨fun _ => ?_, fun z => absurd rfl z⟩
          refine ih (s + 1) ((lo + hi) / 2 + 1) hi a1 (by omega) (hf.tr f1) (by omega) (by omega) (by omega) (by omega) h6 (fun D d1 d2 z => hb ?_)
          exact zFe_mono z (by omega)
  refine uX8_findLeastByCircles_0 X hR al ?_
  unfold vcX8_findLeastByCircles_0
  exact loop 32 0 1 960 al rfl zFr.rf (by omega) (by omega) (by omega) (by decide) hF (fun D d1 d2 => absurd d1 (by omega))
end WAITS
