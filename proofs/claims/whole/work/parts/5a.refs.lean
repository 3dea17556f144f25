-- needs: 59
/-! THE REFERENCE: spans on the ring -/
section REFS
variable (G : zG) (ad ln : Nat → Nat) (al : Nat → Nat → Int32) {n D K : Nat} {b e : Nat → Int} {o : Nat → Nat}
theorem r_floor {p q : Int} (hp : -1000000000 ≤ p ∧ p ≤ 1000000000) (hq : 1 ≤ q ∧ q ≤ 1000000) : zMi G yX11_floor wsX11_floor rmX11_floor zTR ad ln [.int (zI p), .int (zI q)] al (fun r a => r = zI (p / q) ∧ a = al) := by
  refine zMi.of (cc := cX11_floor) (nL := 2) (rt := .int) (by decide) rfl (Nat.le_of_ble_eq_true rfl) (fun Z X hR => ?_)
  refine tX11_floor_0 X _ _ hR al ?_
  unfold vcX11_floor_0 vcX11_floor_19
  have nq : ¬ zI q = 0 := by
    rw [zI_0, zI_eq ⟨by omega, by omega⟩ ⟨by omega, by omega⟩]
    omega
  rw [zI_0, zI_lt ⟨by omega, by omega⟩ ⟨by omega, by omega⟩, ← zI_0]
  refine ⟨fun h => ⟨nq, ?_, rfl⟩, fun h => ⟨nq, ?_, rfl⟩⟩
  · rw [zI_neg, zI_add, zI_1, zI_sub, zI_div ⟨by omega, by omega⟩ ⟨by omega, by omega⟩ (by omega), zI_neg, Int.tdiv_eq_ediv_of_nonneg (by omega)]
    congr 1
    -- -((q - 1 - p) / q) = p / q
    have e1 := Int.emod_add_mul_ediv p q
    have e2 := Int.emod_nonneg p (b := q) (by omega)
    have e3 := Int.emod_lt_of_pos p (b := q) (by omega)
    have e4 : -p + q - 1 = (q - 1 - p % q) + (-(p / q)) * q := by
      rw [Int.neg_mul, Int.mul_comm (p / q)]
      omega
    rw [e4, Int.add_mul_ediv_right _ _ (by omega), Int.ediv_eq_zero_of_lt (by omega) (by omega)]
    omega
  · rw [zI_div ⟨by omega, by omega⟩ ⟨by omega, by omega⟩ (by omega), Int.tdiv_eq_ediv_of_nonneg (by omega)]
/-- the spans of the reference in their order -/
def zSr (a : Nat → Nat → Int32) (n D K : Nat) (b e : Nat → Int) (o : Nat → Nat) : Prop := n ≤ 48 ∧ (1 ≤ D ∧ D ≤ 200) ∧ a 0 33 = nI D ∧ K ≤ 48 ∧ (∀ j, j < K → a 23 j = nI (o j) ∧ o j < n) ∧ (∀ j j', j < j' → j' < K → o j ≠ o j') ∧ ∀ j, j < K → a 20 (o j) = zI (b (o j)) ∧ a 21 (o j) = zI (e (o j)) ∧ 0 ≤ b (o j) ∧ b (o j) ≤ e (o j) ∧ e (o j) ≤ 1000200
theorem zSr.fr {a a' : Nat → Nat → Int32} (h : zSr a n D K b e o) (h33 : a' 0 33 = a 0 33) (h20 : a' 20 = a 20) (h21 : a' 21 = a 21) (h23 : a' 23 = a 23) : zSr a' n D K b e o := by
  unfold zSr
  rw [h33, h20, h21, h23]
  exact h
theorem r_alive (h : zSr al n D K b e o) {j : Nat} (hj : j < K) {s : Nat} (hs : s ≤ 200) : zMi G yX11_alive wsX11_alive rmX11_alive zTR ad ln [.ref (ad 0), .int (nI (o j)), .int (nI s)] al (fun r a => r = zI (zAl D b e (o j) (s : Int)) ∧ a = al) := by
  refine zMi.of (cc := cX11_alive) (nL := 3) (rt := .int) (by decide) rfl (Nat.le_of_ble_eq_true rfl) (fun Z X hR => ?_)
  refine tX11_alive_0 X _ _ hR al ?_
  obtain ⟨hn, hD, h33, hK, ho, hdist, hbe⟩ := h
  obtain ⟨o1, o2⟩ := ho j hj
  obtain ⟨b1, b2, b3, b4, b5⟩ := hbe j hj
  unfold vcX11_alive_0
  have v : vp_in (nI (o j)) 48 := vp_in_nI (by omega) (by omega)
  rw [nI_clamp (by omega), b1, h33, zI_n s, zI_sub, zI_n D]
  refine ⟨v, (r_floor G ad ln al (p := (s : Int) - b (o j)) (q := (D : Int)) (by omega) (by omega)).mono (fun q1 a hq => ⟨v, ?_⟩)⟩
  obtain ⟨rfl, e1⟩ := hq
  obtain rfl := e1.symm
  rw [b2, h33, zI_sub, zI_1, zI_sub, zI_n D]
  refine (r_floor G ad ln al (p := (s : Int) - e (o j) - 1) (q := (D : Int)) (by omega) (by omega)).mono (fun q1 a hq => ?_)
  obtain ⟨rfl, e1⟩ := hq
  obtain rfl := e1.symm
  rw [zI_sub]
  exact ⟨rfl, rfl⟩
theorem r_meet (h : zSr al n D K b e o) {j k : Nat} (hj : j < K) (hk : k < K) {sz f : Nat} (hsz : 1 ≤ sz ∧ sz ≤ 128) (hf : f < sz) (h41 : al 0 41 = nI sz) {off : Nat → Int} (hof : off (o j) = -1 ∨ (0 ≤ off (o j) ∧ off (o j) < sz)) (h22 : al 22 (o j) = zI (off (o j))) : zMi G yX11_meet wsX11_meet rmX11_meet zTR ad ln [.ref (ad 0), .int (nI (o k)), .int (nI f), .int (nI (o j))] al (fun r a => ((r = 1 ∧ zMe D b e sz off (o k) (f : Int) (o j)) ∨ (r = 0 ∧ ¬ zMe D b e sz off (o k) (f : Int) (o j))) ∧ a = al) := by
  refine zMi.of (cc := cX11_meet) (nL := 7) (rt := .boolean) (by decide) rfl (Nat.le_of_ble_eq_true rfl) (fun Z X hR => ?_)
  refine tX11_meet_0 X _ _ _ hR al ?_
  obtain ⟨hn, hD, h33, hK, ho, hdist, hbe⟩ := h
  obtain ⟨o1, o2⟩ := ho j hj
  obtain ⟨p1, p2⟩ := ho k hk
  obtain ⟨b1, b2, b3, b4, b5⟩ := hbe j hj
  obtain ⟨c1, c2, c3, c4, c5⟩ := hbe k hk
  unfold vcX11_meet_0 vcX11_meet_80
  have v1 : vp_in (nI (o j)) 48 := vp_in_nI (by omega) (by omega)
  have v2 : vp_in (nI (o k)) 48 := vp_in_nI (by omega) (by omega)
  generalize hx : off (o j) = of at hof h22
  have hsh : -130 * 200 ≤ (of - (f : Int)) * (D : Int) ∧ (of - (f : Int)) * (D : Int) ≤ 130 * 200 := by
    have m1 : (of - (f : Int)) * (D : Int) ≤ 130 * (D : Int) := Int.mul_le_mul_of_nonneg_right (by omega) (by omega)
    have m2 : -130 * (D : Int) ≤ (of - (f : Int)) * (D : Int) := Int.mul_le_mul_of_nonneg_right (by omega) (by omega)
    omega
  have hby : 1 ≤ (sz : Int) * (D : Int) ∧ (sz : Int) * (D : Int) ≤ 128 * 200 := by
    have m1 : (sz : Int) * (D : Int) ≤ 128 * 200 := Int.mul_le_mul (by omega) (by omega) (by omega) (by omega)
    have m2 : 1 * 1 ≤ (sz : Int) * (D : Int) := Int.mul_le_mul (by omega) (by omega) (by omega) (by omega)
    omega
  rw [nI_clamp (by omega), nI_clamp (by omega), c1, b2, h22, h33, h41, zI_n f, zI_n D, zI_n sz, zI_sub, zI_sub, zI_mul, zI_sub, zI_neg, zI_mul]
  refine ⟨v1, v2, v1, ?_⟩
  generalize hS : (of - (f : Int)) * (D : Int) = S at hsh
  generalize hBy : (sz : Int) * (D : Int) = By at hby
  refine (r_floor G ad ln al (p := -(b (o k) - e (o j) - S)) (q := By) (by omega) (by omega)).mono (fun q1 a hq => ⟨v1, v2, ?_⟩)
  obtain ⟨rfl, e1⟩ := hq
  obtain rfl := e1.symm
  -- the floor, between
  have F1 := Int.ediv_mul_le (-(b (o k) - e (o j) - S)) (b := By) (by omega)
  have F2 : -(b (o k) - e (o j) - S) < (-(b (o k) - e (o j) - S)) / By * By + By := by
    have := Int.lt_ediv_add_one_mul_self (-(b (o k) - e (o j) - S)) (b := By) (by omega)
    rw [Int.add_mul, Int.one_mul] at this
    exact this
  generalize hFF : (-(b (o k) - e (o j) - S)) / By = F at F1 F2
  have iff : zMe D b e sz off (o k) (f : Int) (o j) ↔ b (o j) + S - F * By ≤ e (o k) := by
    unfold zMe
    rw [hx]
    refine ⟨fun ⟨R, r1, r2, r3⟩ => ?_, fun hle => ⟨-(of - (f : Int)) + F * (sz : Int), ?_, ?_, ?_⟩⟩
    · obtain ⟨t, ht⟩ := Int.dvd_of_emod_eq_zero r3
      have er : R * (D : Int) = t * By - S := by
        rw [← hBy, ← hS, show R = (sz : Int) * t - (of - (f : Int)) by omega, Int.sub_mul, Int.mul_comm (sz : Int) t, Int.mul_assoc]
      have tF : t ≤ F := by
        rw [← hFF, Int.le_ediv_iff_mul_le (by omega)]
        omega
      have : t * By ≤ F * By := Int.mul_le_mul_of_nonneg_right tF (by omega)
      omega
    · have er : (-(of - (f : Int)) + F * (sz : Int)) * (D : Int) = F * By - S := by
        rw [← hBy, ← hS, Int.add_mul, Int.neg_mul, Int.mul_assoc]
        omega
      rw [er]
      omega
    · have er : (-(of - (f : Int)) + F * (sz : Int)) * (D : Int) = F * By - S := by
        rw [← hBy, ← hS, Int.add_mul, Int.neg_mul, Int.mul_assoc]
        omega
      rw [er]
      omega
    · rw [show of + (-(of - (f : Int)) + F * (sz : Int)) - (f : Int) = F * (sz : Int) by omega]
      exact Int.mul_emod_left _ _
  rw [c2, b1, zI_add, zI_neg, zI_mul, zI_add, zI_lt ⟨by omega, by omega⟩ ⟨by rw [Int.neg_mul]; omega, by rw [Int.neg_mul]; omega⟩, Int.neg_mul]
  exact ⟨fun q => ⟨rfl, Or.inr ⟨rfl, fun z => by have := iff.mp z; omega⟩, rfl⟩, fun q => ⟨rfl, Or.inl ⟨rfl, iff.mpr (by omega)⟩, rfl⟩⟩
/-- no span is longer than the ring, if the ring is as large as the need -/
theorem zLong (hD : 1 ≤ D) {sz : Nat} (h : ∀ j, j < K → 0 ≤ b (o j) ∧ b (o j) ≤ e (o j)) (hnd : zNd D b e o K D ≤ (sz : Int)) {j : Nat} (hj : j < K) : e (o j) - b (o j) < (sz : Int) * (D : Int) := by
  rcases Int.lt_or_le (e (o j) - b (o j)) ((sz : Int) * (D : Int)) with q | q
  · exact q
  · exfalso
    have hD' : (0 : Int) < (D : Int) := by omega
    have e1 := Int.emod_add_mul_ediv (b (o j)) (D : Int)
    have e2 := Int.emod_nonneg (b (o j)) (b := (D : Int)) (by omega)
    have e3 := Int.emod_lt_of_pos (b (o j)) hD'
    generalize hs : b (o j) % (D : Int) = s at e1 e2 e3
    generalize hq : b (o j) / (D : Int) = qq at e1
    -- alive there
    have al1 : (sz : Int) + 1 ≤ zAl D b e (o j) s := by
      unfold zAl
      have f1 : (s - b (o j)) / (D : Int) = -qq := by
        rw [show s - b (o j) = 0 + (-qq) * (D : Int) by rw [Int.neg_mul, Int.mul_comm qq]; omega, Int.add_mul_ediv_right _ _ (by omega), Int.zero_ediv]
        omega
      have f2 : (s - e (o j) - 1) / (D : Int) ≤ (-1 + (-qq - (sz : Int)) * (D : Int)) / (D : Int) := by
        refine Int.ediv_le_ediv hD' ?_
        rw [Int.sub_mul, Int.neg_mul, Int.mul_comm qq]
        omega
      rw [Int.add_mul_ediv_right _ _ (by omega)] at f2
      have f3 : (-1 : Int) / (D : Int) = -1 := by
        rw [show (-1 : Int) = ((D : Int) - 1) + (-1) * (D : Int) by omega, Int.add_mul_ediv_right _ _ (by omega), Int.ediv_eq_zero_of_lt (by omega) (by omega)]
        omega
      rw [f3] at f2
      rw [f1]
      omega
    have nn : ∀ i, i < K → 0 ≤ zAl D b e (o i) s := fun i hi => (zAl_rng hD (B := e (o i)) ⟨(h i hi).1, (h i hi).2, Int.le_refl _⟩ s).1
    have sm : ∀ k, k ≤ K → 0 ≤ zSm D b e o s k ∧ (j < k → zAl D b e (o j) s ≤ zSm D b e o s k) := by
      intro k
      induction k with
      | zero =>
        intro _
        exact ⟨Int.le_refl _, fun z => absurd z (by omega)⟩
      | succ k ih =>
        intro hk
        obtain ⟨i1, i2⟩ := ih (by omega)
        have := nn k (by omega)
        show 0 ≤ zSm D b e o s k + zAl D b e (o k) s ∧ _
        refine ⟨by omega, fun z => ?_⟩
        show zAl D b e (o j) s ≤ zSm D b e o s k + zAl D b e (o k) s
        by_cases e5 : j = k
        · subst e5
          omega
        · have := i2 (by omega)
          omega
    have nd : ∀ k : Nat, s < (k : Int) → zSm D b e o s K ≤ zNd D b e o K k := by
      intro k
      induction k with
      | zero =>
        intro z
        omega
      | succ k ih =>
        intro z
        show _ ≤ zmx (zNd D b e o K k) (zSm D b e o (k : Int) K)
        by_cases e5 : s = (k : Int)
        · rw [e5]
          unfold zmx
          split <;> omega
        · have := ih (by omega)
          unfold zmx
          split <;> omega
    have := (sm K (Nat.le_refl _)).2 hj
    have := nd D e3
    omega
theorem r_rotated (h : zSr al n D K b e o) {sz : Nat} (hsz : 1 ≤ sz ∧ sz ≤ 128) (h41 : al 0 41 = nI sz) (hnd : zNd D b e o K D ≤ (sz : Int)) (hno : ∀ x, x < n → (∀ j, j < K → o j ≠ x) → al 22 x = -1) : zMi G yX11_rotated wsX11_rotated rmX11_rotated zTR ad ln [.ref (ad 0), .int (nI K)] al (fun q a => zFr [22] al a ∧ (∀ x, x < n → (∀ j, j < K → o j ≠ x) → a 22 x = -1) ∧ match zCol D b e o sz K with
    | some off => q = 1 ∧ ∀ x, x < n → a 22 x = zI (off x)
    | none => q = 0) := by
  refine zMi.of (cc := cX11_rotated) (nL := 7) (rt := .boolean) (by decide) rfl (Nat.le_of_ble_eq_true rfl) (fun Z X hR => ?_)
  generalize hP : (fun (q : Int32) (a : Nat → Nat → Int32) => zFr [22] al a ∧ (∀ x, x < n → (∀ j, j < K → o j ≠ x) → a 22 x = -1) ∧ match zCol D b e o sz K with
    | some off => q = 1 ∧ ∀ x, x < n → a 22 x = zI (off x)
    | none => q = 0) = P at hR
  have h0 := h
  obtain ⟨hn, hD, h33, hK, ho, hdist, hbe⟩ := h
  have long := fun j hj => zLong (D := D) (K := K) (b := b) (e := e) (o := o) (sz := sz) hD.1 (fun j hj => ⟨(hbe j hj).2.2.1, (hbe j hj).2.2.2.1⟩) hnd (j := j) hj
  have hby : (sz : Int) * (D : Int) ≤ 128 * 200 := Int.mul_le_mul (by omega) (by omega) (by omega) (by omega)
  have outer : ∀ (g k : Nat) (a : Nat → Nat → Int32) (off : Nat → Int), k + g = K → zFr [22] al a → (∀ x, x < n → (∀ j, j < K → o j ≠ x) → a 22 x = -1) → zCol D b e o sz k = some off → (∀ j, j < k → a 22 (o j) = zI (off (o j))) → BX11_rotated_2 G Z ad ln (nI K) (nI k) a := by
    intro g
    induction g with
    | zero =>
      intro k a off hg hf hx hc h22
      refine uX11_rotated_2 X (nI K) hR _ a ?_
      unfold vcX11_rotated_2
      have : k = K := by omega
      subst this
      refine ⟨fun _ => ?_, fun z => absurd (Int32.le_refl _) z⟩
      rw [← hP]
      refine ⟨hf, hx, ?_⟩
      rw [hc]
      refine ⟨rfl, fun x hxn => ?_⟩
      by_cases q : ∃ j, j < k ∧ o j = x
      · obtain ⟨j, j1, j2⟩ := q
        subst j2
        exact h22 j j1
      · have q' : ∀ j, j < k → o j ≠ x := fun j hj z => q ⟨j, hj, z⟩
        rw [hx x hxn q', (zCol_rng D b e o sz k off hc).2 x q']
        rfl
    | succ g ih =>
      intro k a off hg hf hx hc h22
      have hkK : k < K := by omega
      obtain ⟨o1, o2⟩ := ho k hkK
      obtain ⟨b1, b2, b3, b4, b5⟩ := hbe k hkK
      have lk := long k hkK
      have orng := (zCol_rng D b e o sz k off hc).1
      have nx : zCol D b e o sz (k + 1) = (match zFst (zFre D b e o sz off k) sz 0 with
          | none => none
          | some f => some (fup off (o k) (f : Int))) := by
        show (match zCol D b e o sz k with
          | none => none
          | some off => match zFst (zFre D b e o sz off k) sz 0 with
            | none => none
            | some f => some (fup off (o k) (f : Int))) = _
        rw [hc]
      have bad : ∀ a2, zFr [22] al a2 → (∀ x, x < n → (∀ j, j < K → o j ≠ x) → a2 22 x = -1) → zFst (zFre D b e o sz off k) sz 0 = none → P 0 a2 := by
        intro a2 f2 hx2 hz
        rw [← hP]
        refine ⟨f2, hx2, ?_⟩
        rw [hz] at nx
        have := zCol_mono D b e o sz (k + 1) nx g
        rw [show k + 1 + g = K by omega] at this
        rw [this]
      have good : ∀ (a2 : Nat → Nat → Int32) (f : Nat), f < sz → zFr [22] al a2 → (∀ x, x < n → (∀ j, j < K → o j ≠ x) → a2 22 x = -1) → (∀ j, j < k → a2 22 (o j) = zI (off (o j))) → a2 22 (o k) = nI f → zFst (zFre D b e o sz off k) sz 0 = some f → vcX11_rotated_135 G ad ln (nI K) (BX11_rotated_2 G Z ad ln (nI K)) (BX11_rotated_51 G Z ad ln (nI K)) (BX11_rotated_75 G Z ad ln (nI K)) P (nI k) (nI (o k)) a2 := by
        intro a2 f hf2 f2 hx2 h222 hof hz
        unfold vcX11_rotated_135
        rw [nI_clamp (by omega), hof, nI_1]
        refine ⟨vp_in_nI (by omega) (by omega), fun _ => ?_, fun z => absurd (by rw [show (0 : Int32) = nI 0 from rfl, nI_leI (by omega) (by omega)]; omega) z⟩
        rw [hz] at nx
        refine ih (k + 1) a2 _ (by omega) f2 hx2 nx (fun j hj => ?_)
        unfold fup
        by_cases q : j = k
        · subst q
          rw [if_pos rfl, hof, zI_n]
        · rw [if_neg (hdist j k (by omega) hkK)]
          exact h222 j (by omega)
      -- offsets one after the other
      have offs : ∀ (g2 f : Nat) (a2 : Nat → Nat → Int32), f + g2 = sz → zFr [22] al a2 → (∀ x, x < n → (∀ j, j < K → o j ≠ x) → a2 22 x = -1) → (∀ j, j < k → a2 22 (o j) = zI (off (o j))) → a2 22 (o k) = -1 → zFst (zFre D b e o sz off k) sz 0 = zFst (zFre D b e o sz off k) g2 f → BX11_rotated_51 G Z ad ln (nI K) (nI k) (nI (o k)) (nI f) a2 := by
        intro g2
        induction g2 with
        | zero =>
          intro f a2 hg2 f2 hx2 h222 hof hz
          refine uX11_rotated_51 X (nI K) hR _ _ _ a2 ?_
          unfold vcX11_rotated_51 vcX11_rotated_135
          have : f = sz := by omega
          subst this
          rw [f2 0 (by decide), h41, nI_clamp (by omega), hof]
          exact ⟨fun _ => ⟨vp_in_nI (by omega) (by omega), fun z => absurd z (by decide), fun _ => bad a2 f2 hx2 hz⟩, fun z => absurd (Int32.le_refl _) z⟩
        | succ g2 ih2 =>
          intro f a2 hg2 f2 hx2 h222 hof hz
          have scan : ∀ (g3 j : Nat) (c : Bool), j + g3 = k → (c = true → ∀ j', j' < j → ¬ zMe D b e sz off (o k) (f : Int) (o j')) → (c = false → ¬ zFre D b e o sz off k f) → BX11_rotated_75 G Z ad ln (nI K) (nI k) (nI (o k)) (nI f) (zb c) (nI j) a2 := by
            have endd : ∀ c : Bool, (c = true → zFre D b e o sz off k f) → (c = false → ¬ zFre D b e o sz off k f) → vcX11_rotated_116 G ad ln (nI K) (BX11_rotated_2 G Z ad ln (nI K)) (BX11_rotated_51 G Z ad ln (nI K)) (BX11_rotated_75 G Z ad ln (nI K)) P (nI k) (nI (o k)) (nI f) (zb c) a2 := by
              intro c c1 c2
              unfold vcX11_rotated_116 vcX11_rotated_129
              rw [nI_clamp (by omega), nI_1]
              cases c with
              | false =>
                refine ⟨fun _ => ih2 (f + 1) a2 (by omega) f2 hx2 h222 hof ?_, fun z => absurd rfl z⟩
                rw [hz, zFst_n (c2 rfl)]
              | true =>
                refine ⟨fun z => absurd z (by decide), fun _ => ⟨vp_in_nI (by omega) (by omega), ?_⟩⟩
                have f4 : zFr [22] al (up2 a2 22 (o k) (nI f)) := f2.up (by decide) _ _
                have hz' : zFst (zFre D b e o sz off k) sz 0 = some f := by rw [hz, zFst_y (c1 rfl)]
                have hx4 : ∀ x, x < n → (∀ j, j < K → o j ≠ x) → up2 a2 22 (o k) (nI f) 22 x = -1 := fun x hxn hxo => by
                  rw [up2_ne _ _ (fun z => hxo k hkK z.2.symm)]
                  exact hx2 x hxn hxo
                have h4 : ∀ j, j < k → up2 a2 22 (o k) (nI f) 22 (o j) = zI (off (o j)) := fun j hj => by
                  rw [up2_ne _ _ (fun z => hdist j k hj hkK z.2)]
                  exact h222 j hj
                have gd := good _ f (by omega) f4 hx4 h4 (up2_self _ _ _ _) hz'
                refine uX11_rotated_51 X (nI K) hR _ _ _ _ ?_
                unfold vcX11_rotated_51
                rw [nI_clamp (by omega), up2_self]
                exact ⟨fun _ => gd, fun _ => ⟨vp_in_nI (by omega) (by omega), fun _ => gd, fun z => absurd (by rw [show (0 : Int32) = nI 0 from rfl, nI_leI (by omega) (by omega)]; omega) z⟩⟩
            intro g3
            induction g3 with
            | zero =>
              intro j c hj c1 c2
              refine uX11_rotated_75 X (nI K) hR _ _ _ _ _ a2 ?_
              unfold vcX11_rotated_75
              have : j = k := by omega
              subst this
              exact ⟨fun _ => endd c (fun hc' => c1 hc') c2, fun z => absurd (Int32.le_refl _) z⟩
            | succ g3 ih3 =>
              intro j c hj c1 c2
              refine uX11_rotated_75 X (nI K) hR _ _ _ _ _ a2 ?_
              unfold vcX11_rotated_75 vcX11_rotated_108
              rw [nI_clamp (by omega), f2 23 (by decide), (ho j (by omega)).1, nI_1]
              refine ⟨fun z => absurd z (by rw [nI_leI (by omega) (by omega)]; omega), fun _ => ⟨fun q => ?_, fun q => ⟨vp_in_nI (by omega) (by omega), ?_⟩⟩⟩
              · rw [zb_0] at q
                exact endd c (fun hc' => by rw [q] at hc'; cases hc') c2
              · have ct : c = true := by
                  cases c
                  · exact absurd rfl q
                  · rfl
                have h1 : zSr a2 n D K b e o := h0.fr (by rw [f2 0 (by decide)]) (f2 20 (by decide)) (f2 21 (by decide)) (f2 23 (by decide))
                refine (r_meet G ad ln a2 h1 (j := j) (k := k) (by omega) hkK hsz (f := f) (by omega) (by rw [f2 0 (by decide)]; exact h41) (off := off) (orng (o j)) (h222 j (by omega))).mono (fun q3 a3 hq => ?_)
                obtain ⟨hq, e3⟩ := hq
                obtain rfl := e3.symm
                rcases hq with ⟨rfl, hm⟩ | ⟨rfl, hm⟩
                · refine ⟨fun _ => ih3 (j + 1) false (by omega) (fun z => by cases z) (fun _ z => z j (by omega) hm), fun z => absurd z (by decide)⟩
                · refine ⟨fun z => absurd rfl z, fun _ => ih3 (j + 1) true (by omega) (fun _ j' hj' => ?_) (fun z => by cases z)⟩
                  by_cases q5 : j' = j
                  · subst q5
                    exact hm
                  · exact c1 ct j' (by omega)
          refine uX11_rotated_51 X (nI K) hR _ _ _ a2 ?_
          unfold vcX11_rotated_51
          rw [f2 0 (by decide), h41, nI_clamp (by omega), hof]
          exact ⟨fun z => absurd z (by rw [nI_leI (by omega) (by omega)]; omega), fun _ => ⟨vp_in_nI (by omega) (by omega), fun z => absurd z (by decide), fun _ => scan k 0 true (by omega) (fun _ j' hj' => absurd hj' (by omega)) (fun z => by cases z)⟩⟩
      refine uX11_rotated_2 X (nI K) hR _ a ?_
      unfold vcX11_rotated_2
      have v : vp_in (nI (o k)) 48 := vp_in_nI (by omega) (by omega)
      rw [nI_clamp (by omega), hf 23 (by decide), o1, nI_clamp (by omega), hf 20 (by decide), hf 21 (by decide), b1, b2, hf 0 (by decide), h41, h33, zI_sub, zI_n sz, zI_n D, zI_mul, zI_lt ⟨by omega, by omega⟩ ⟨by omega, by omega⟩]
      refine ⟨fun z => absurd z (by rw [nI_leI (by omega) (by omega)]; omega), fun _ => ⟨vp_in_nI (by omega) (by omega), v, v, v, fun _ => ?_, fun z => absurd lk z⟩⟩
      refine offs sz 0 _ (by omega) (hf.up (by decide) _ _) (fun x hxn hxo => ?_) (fun j hj => ?_) (up2_self _ _ _ _) rfl
      · rw [up2_ne _ _ (fun z => hxo k hkK z.2.symm)]
        exact hx x hxn hxo
      · rw [up2_ne _ _ (fun z => hdist j k hj hkK z.2)]
        exact h22 j hj
  refine uX11_rotated_0 X (nI K) hR al ?_
  unfold vcX11_rotated_0
  exact outer K 0 al _ (by omega) zFr.rf hno rfl (fun j hj => absurd hj (by omega))
end REFS
