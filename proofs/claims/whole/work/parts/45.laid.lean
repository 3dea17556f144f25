-- needs: 44
/-! Runner: the laid run -/
def rKd (y : zRec) : Nat := y.1.toNatClampNeg
theorem rKd_ok {y : zRec} (h : zRecOk y) : rKd y < 4 ∧ y.1 = nI (rKd y) := by
  unfold rKd
  rcases h.1 with e | e | e | e <;> rw [e] <;> exact ⟨by decide, by decide⟩
def zLd (a : Nat → Nat → Int32) (k D R sz : Nat) (rc : Nat → zRec) (st : Nat → Nat) (c b off sv : Nat → Int) (bg : Nat → Int32) : Prop :=
  zRws a k rc ∧ (∀ j, j < 9 → a 2 j = nI (st j) ∧ 1 ≤ st j ∧ st j ≤ 64) ∧ st 8 = R ∧ a 173 9 = nI D ∧ (1 ≤ D ∧ D ≤ 200) ∧ a 22 12 = nI sz ∧ (1 ≤ sz ∧ sz ≤ 128) ∧
  (∀ x, x < k → a 19 x = zI (c x) ∧ (0 ≤ c x ∧ c x ≤ 1000000) ∧ a 23 x = zI (b x) ∧ (-1 ≤ b x ∧ b x ≤ 1000100) ∧ a 25 x = zI (off x) ∧ (off x = -1 ∨ (0 ≤ off x ∧ off x < sz))) ∧
  (∀ i, i < 32 → a 6 i = zI (sv i) ∧ (-1 ≤ sv i ∧ sv i < k)) ∧ ∀ i, i < 32 → a 3 i = bg i
theorem zLd.fr {l : List Nat} {a a' : Nat → Nat → Int32} {k D R sz : Nat} {rc : Nat → zRec} {st : Nat → Nat} {c b off sv : Nat → Int} {bg : Nat → Int32} (h : zLd a k D R sz rc st c b off sv bg) (hf : zFr l a a') (hl : ∀ x, x ∈ l → 174 ≤ x) : zLd a' k D R sz rc st c b off sv bg := by
  obtain ⟨h1, h2, h3, h4, h5, h6, h7, h8, h9, h10⟩ := h
  have no : ∀ x, x < 174 → a' x = a x := fun x hx => hf x (fun z => by have := hl x z; omega)
  refine ⟨h1.fr hf (fun z => by have := hl 4 z; omega) (fun x hx => by have := hl x hx; omega), fun j hj => by rw [no 2 (by omega)]; exact h2 j hj, h3, by rw [no 173 (by omega)]; exact h4, h5, by rw [no 22 (by omega)]; exact h6, h7, fun x hx => by rw [no 19 (by omega), no 23 (by omega), no 25 (by omega)]; exact h8 x hx, fun i hi => by rw [no 6 (by omega)]; exact h9 i hi, fun i hi => by rw [no 3 (by omega)]; exact h10 i hi⟩
section LAIDC
variable (G : zG) (ad ln : Nat → Nat) (al : Nat → Nat → Int32) {k D R sz : Nat} {rc : Nat → zRec} {st : Nat → Nat} {c b off sv : Nat → Int} {bg : Nat → Int32}
theorem c_roundAt (h : zLd al k D R sz rc st c b off sv bg) {t f : Int} (ht : 0 ≤ t ∧ t ≤ 2000000) (hf : -1 ≤ f ∧ f ≤ 2000000) : zMi G yX4_roundAt wsX4_roundAt rmX4_roundAt (zTC true) ad ln [.ref (ad 173), .int (zI t), .int (zI f)] al (fun q a => q = zI (zRa D R t f) ∧ a = al) := by
  refine zMi.of (cc := cX4_roundAt) (nL := 5) (rt := .int) (by decide) rfl (Nat.le_of_ble_eq_true rfl) (fun Z X hR => ?_)
  refine tX4_roundAt_0 X _ _ hR al ?_
  obtain ⟨h1, h2, h3, h4, h5, h6, h7, h8, h9, h10⟩ := h
  obtain ⟨e8, s1, s2⟩ := h2 8 (by omega)
  rw [h3] at e8 s1 s2
  unfold vcX4_roundAt_0 vcX4_roundAt_20 vcX4_roundAt_50 vcX4_roundAt_51
  rw [zI_sub, zI_0, zI_le ⟨by omega, by omega⟩ ⟨by omega, by omega⟩, h4, e8]
  have v8 : vp_in (8 : Int32) 9 := by unfold vp_in; decide
  unfold zRa
  refine ⟨fun q => ?_, fun q => ⟨v8, ?_⟩⟩
  · rw [zI_n D]
    refine (c_quotient G true ad ln al (x := t - f) (y := (D : Int)) ⟨by omega, by omega⟩ ⟨by omega, by omega⟩ (by omega)).mono (fun q1 a hq => ?_)
    obtain ⟨rfl, e⟩ := hq
    obtain rfl := e.symm
    have hd0 := Int.ediv_nonneg (a := t - f) (b := (D : Int)) (by omega) (by omega)
    have hd1 : (t - f) / (D : Int) ≤ t - f := Int.ediv_le_self _ (by omega)
    have hm : (t - f) / (D : Int) * (D : Int) ≤ t - f := Int.ediv_mul_le _ (by omega)
    have hm0 : 0 ≤ (t - f) / (D : Int) * (D : Int) := Int.mul_nonneg hd0 (by omega)
    rw [e8, h4, zI_n R, zI_n D, zI_mul, zI_le ⟨by omega, by omega⟩ ⟨by omega, by omega⟩, zI_eq ⟨by omega, by omega⟩ ⟨by omega, by omega⟩, if_neg (by omega)]
    refine ⟨v8, fun g => ⟨?_, rfl⟩, fun g => ⟨fun g2 => ⟨?_, rfl⟩, fun g2 => ⟨?_, rfl⟩⟩⟩
    · rw [if_neg (fun z => by omega)]
      rfl
    · rw [if_neg (fun z => g2 z.2)]
      rfl
    · rw [if_pos ⟨by omega, g2⟩]
  · rw [if_pos (by omega), zI_n R, zI_m1, zI_le ⟨by omega, by omega⟩ ⟨by omega, by omega⟩]
    exact ⟨fun g => absurd g (by omega), fun _ => ⟨fun _ => ⟨rfl, rfl⟩, fun _ => ⟨rfl, rfl⟩⟩⟩
theorem c_lastCycle (h : zLd al k D R sz rc st c b off sv bg) : zMi G yX4_lastCycle wsX4_lastCycle rmX4_lastCycle (zTC true) ad ln [.ref (ad 173)] al (fun q a => q = zI (zLs c (fun x => st (rKd (rc x))) k + ((R : Int) - 1) * (D : Int)) ∧ a = al) := by
  refine zMi.of (cc := cX4_lastCycle) (nL := 3) (rt := .int) (by decide) rfl (Nat.le_of_ble_eq_true rfl) (fun Z X hR => ?_)
  obtain ⟨h1, h2, h3, h4, h5, h6, h7, h8, h9, h10⟩ := h
  have hk := h1.2.1
  have rng : ∀ x, x ≤ k → 0 ≤ zLs c (fun x => st (rKd (rc x))) x ∧ zLs c (fun x => st (rKd (rc x))) x ≤ 1000100 := by
    intro x
    induction x with
    | zero =>
      intro _
      show (0 : Int) ≤ 0 ∧ (0 : Int) ≤ _
      omega
    | succ x ih =>
      intro hx
      have i1 := ih (by omega)
      have i2 := (h8 x (by omega)).2.1
      have i3 := (rKd_ok (h1.2.2 x (by omega)).2).1
      have i4 := (h2 (rKd (rc x)) (by omega)).2
      show 0 ≤ zmx _ (c x + (st (rKd (rc x)) : Int)) ∧ zmx _ (c x + (st (rKd (rc x)) : Int)) ≤ _
      unfold zmx
      split <;> omega
  have loop : ∀ (f x : Nat), x + f = k → BX4_lastCycle_4 G Z ad ln (zI (zLs c (fun x => st (rKd (rc x))) x)) (nI x) al := by
    intro f
    induction f with
    | zero =>
      intro x hx
      refine uX4_lastCycle_4 X hR _ _ al ?_
      unfold vcX4_lastCycle_4
      have : x = k := by omega
      subst this
      rw [h1.1]
      refine ⟨fun _ => ⟨by unfold vp_in; decide, ?_, rfl⟩, fun z => absurd (Int32.le_refl _) z⟩
      rw [(h2 8 (by omega)).1, h3, h4, zI_n R, zI_1, zI_sub, zI_n D, zI_mul, zI_add]
    | succ f ih =>
      intro x hx
      refine uX4_lastCycle_4 X hR _ _ al ?_
      unfold vcX4_lastCycle_4
      obtain ⟨⟨p, hp⟩, hok⟩ := h1.2.2 x (by omega)
      obtain ⟨g1, g2⟩ := rKd_ok hok
      have i1 := rng x (by omega)
      have i2 := (h8 x (by omega)).2.1
      have i4 := (h2 (rKd (rc x)) (by omega)).2
      rw [h1.1, nI_clamp (by omega), hp.1, g2, nI_clamp (by omega), (h8 x (by omega)).1, (h2 (rKd (rc x)) (by omega)).1, zI_n (st (rKd (rc x))), zI_add, zI_mx ⟨by omega, by omega⟩ ⟨by omega, by omega⟩, nI_1]
      have v : vp_in (nI x) 48 := vp_in_nI (by omega) (by omega)
      exact ⟨fun z => absurd z (by rw [nI_leI (by omega) (by omega)]; omega), fun _ => ⟨v, v, vp_in_nI (by omega) (by omega), ih (x + 1) (by omega)⟩⟩
  refine uX4_lastCycle_0 X hR al ?_
  unfold vcX4_lastCycle_0
  exact loop k 0 (by omega)
theorem zSp_lt (hs : 1 ≤ sz) (x : Nat) (n : Int) : zSp sz off x n < sz ∧ ((zSp sz off x n : Nat) : Int) = (off x - n) % (sz : Int) := by
  unfold zSp
  have := Int.emod_nonneg (off x - n) (b := (sz : Int)) (by omega)
  have := Int.emod_lt_of_pos (off x - n) (b := (sz : Int)) (by omega)
  omega
/-- given, places, arrays -/
def zLS (a : Nat → Nat → Int32) (w : (Nat → Int32) × (Nat → Int32) × (Nat → Int32)) : Prop := (∀ i, i < 3072 → a 176 i = w.1 i) ∧ (∀ i, i < 128 → a 177 i = w.2.1 i) ∧ ∀ i, i < 4096 → a 174 i = w.2.2 i
theorem e64 {x : Nat} {q : Int} (hx : x < 48) (hq : 0 ≤ q ∧ q < 64) : nI x * 64 + zI q = nI (x * 64 + q.toNat) ∧ x * 64 + q.toNat < 3072 := by
  refine ⟨?_, by omega⟩
  rw [zI_n x, show (64 : Int32) = zI 64 from rfl, zI_mul, zI_add, zI_n]
  congr 1
  omega
theorem c_bringValues (h : zLd al k D R sz rc st c b off sv bg) {t : Int} (ht : 0 ≤ t ∧ t ≤ 2000000) {g P ce : Nat → Int32} (hs : zLS al (g, P, ce)) : zMv G yX4_bringValues wsX4_bringValues rmX4_bringValues (zTC true) ad ln [.ref (ad 173), .int (zI t)] al (fun a => zFr [177] al a ∧ zLS a (g, zBv D R sz b off t g k P, ce)) := by
  refine zMv.of (cc := cX4_bringValues) (nL := 4) (by decide) rfl (Nat.le_of_ble_eq_true rfl) (fun Z X hR => ?_)
  have hd := h
  obtain ⟨h1, h2, h3, h4, h5, h6, h7, h8, h9, h10⟩ := h
  have hk := h1.2.1
  have hR64 := (h2 8 (by omega)).2.2
  rw [h3] at hR64
  have loop : ∀ (f x : Nat) (a : Nat → Nat → Int32), x + f = k → zFr [177] al a → zLS a (g, zBv D R sz b off t g x P, ce) → BX4_bringValues_2 G Z ad ln (zI t) (nI x) a := by
    intro f
    induction f with
    | zero =>
      intro x a hx hf hs
      refine uX4_bringValues_2 X _ hR _ a ?_
      unfold vcX4_bringValues_2
      have : x = k := by omega
      subst this
      rw [hf 4 (by decide), h1.1]
      exact ⟨fun _ => ⟨hf, hs⟩, fun z => absurd (Int32.le_refl _) z⟩
    | succ f ih =>
      intro x a hx hf hs
      refine uX4_bringValues_2 X _ hR _ a ?_
      unfold vcX4_bringValues_2 vcX4_bringValues_81
      obtain ⟨b1, b2, b3, b4, b5, b6⟩ := h8 x (by omega)
      rw [hf 4 (by decide), h1.1, nI_clamp (by omega), hf 23 (by decide), b3, nI_1, zI_0, zI_lt ⟨by omega, by omega⟩ ⟨by omega, by omega⟩]
      have v : vp_in (nI x) 48 := vp_in_nI (by omega) (by omega)
      refine ⟨fun z => absurd z (by rw [nI_leI (by omega) (by omega)]; omega), fun _ => ⟨v, fun q => ?_, fun q => ⟨v, ?_⟩⟩⟩
      · refine ih (x + 1) a (by omega) hf ?_
        unfold zBv
        rw [if_neg (fun z => by omega)]
        exact hs
      · refine (c_roundAt G ad ln a (hd.fr hf (by simp)) ht (f := b x) (by omega)).mono (fun q1 a1 hq => ?_)
        obtain ⟨rfl, e⟩ := hq
        obtain rfl := e.symm
        have rr := zRa_rng (D := D) (R := R) t (b x) h5.1
        rw [zI_lt ⟨by omega, by omega⟩ ⟨by omega, by omega⟩]
        refine ⟨fun q2 => ?_, fun q2 => ⟨v, ?_⟩⟩
        · refine ih (x + 1) a (by omega) hf ?_
          unfold zBv
          rw [if_neg (fun z => by omega)]
          exact hs
        · rw [hf 25 (by decide), b5, hf 22 (by decide), h6, zI_sub, zI_n sz]
          refine (c_rest G true ad ln a (x := off x - zRa D R t (b x)) (y := (sz : Int)) ⟨by omega, by omega⟩ ⟨by omega, by omega⟩ (by omega)).mono (fun q3 a3 hq => ?_)
          obtain ⟨rfl, e⟩ := hq
          obtain rfl := e.symm
          obtain ⟨s1, s2⟩ := zSp_lt (sz := sz) (off := off) h7.1 x (zRa D R t (b x))
          obtain ⟨i1, i2⟩ := e64 (x := x) (q := zRa D R t (b x)) (by omega) (by omega)
          rw [i1, nI_clamp (by omega), ← s2, ← zI_n, nI_clamp (by omega)]
          refine ⟨vp_in_nI (by omega) (by omega), vp_in_nI (by omega) (by omega), ih (x + 1) _ (by omega) (hf.up (by decide) _ _) ?_⟩
          unfold zBv
          rw [if_pos ⟨by omega, by omega⟩]
          refine ⟨fun i hi => ?_, fun i hi => ?_, fun i hi => ?_⟩
          · rw [up2_ne _ _ (fun z => absurd z.1 (by decide))]
            exact hs.1 i hi
          · show _ = fu _ _ _ i
            by_cases e : i = zSp sz off x (zRa D R t (b x))
            · subst e
              rw [up2_self, fu_self]
              exact hs.1 _ i2
            · rw [up2_ne _ _ (fun z => e z.2), fu_ne _ _ e]
              exact hs.2.1 i hi
          · rw [up2_ne _ _ (fun z => absurd z.1 (by decide))]
            exact hs.2.2 i hi
  refine uX4_bringValues_0 X _ hR al ?_
  unfold vcX4_bringValues_0
  exact loop k 0 al (by omega) zFr.rf hs
theorem c_laidValue (h : zLd al k D R sz rc st c b off sv bg) {o y n : Nat} (ho : zOp true o) {s v : Int32} (e0 : al o 0 = s) (e1 : al o 1 = v) (hok : zOpOk s v) (hy : y < 48) (hn : n < 64) {P : Nat → Int32} (hP : ∀ i, i < 128 → al 177 i = P i) : zMi G yX4_laidValue wsX4_laidValue rmX4_laidValue (zTC true) ad ln [.ref (ad 173), .ref (ad o), .int (nI y), .int (nI n)] al (fun q a => q = zLv sz off sv bg P s v y n ∧ a = al) := by
  refine zMi.of (cc := cX4_laidValue) (nL := 6) (rt := .int) (by decide) rfl (Nat.le_of_ble_eq_true rfl) (fun Z X hR => ?_)
  refine tX4_laidValue_0 X o ho _ _ hR al ?_
  obtain ⟨h1, h2, h3, h4, h5, h6, h7, h8, h9, h10⟩ := h
  have hk := h1.2.1
  unfold vcX4_laidValue_0 vcX4_laidValue_57 vcX4_laidValue_26
  rw [e0, e1]
  unfold zLv
  refine ⟨fun q => ?_, fun q => ⟨fun q2 => ⟨by rw [if_neg q, if_neg q2], rfl⟩, fun q2 => ⟨by rw [if_neg q, if_pos q2], rfl⟩⟩⟩
  obtain ⟨g1, g2, g3⟩ := hok.v q
  refine (c_source G true ad ln al o ho (by rw [e0, e1]; exact fun _ => g3)).mono (fun q1 a hq => ?_)
  obtain ⟨rfl, e⟩ := hq
  obtain rfl := e.symm
  obtain ⟨s1, s2⟩ := h9 _ g1
  rw [e0, e1, if_pos q, s1, zI_n y]
  refine (c_roundsOfUse G true ad ln al (x := sv v.toNatClampNeg) (y := (y : Int)) ⟨by omega, by omega⟩ ⟨by omega, by omega⟩).mono (fun q1 a hq => ?_)
  obtain ⟨rfl, e⟩ := hq
  obtain rfl := e.symm
  rw [e1, if_pos q, h10 _ g1]
  rw [zI_0, zI_lt ⟨by omega, by omega⟩ ⟨by omega, by omega⟩]
  refine ⟨fun q2 => ⟨g3, by rw [if_pos (Or.inl q2)], rfl⟩, fun q2 => ?_⟩
  have eu : (if sv v.toNatClampNeg < (y : Int) then zI 0 else (1 : Int32)) = zI (zUo (sv v.toNatClampNeg).toNat y) := by
    unfold zUo
    by_cases q3 : sv v.toNatClampNeg < (y : Int)
    · rw [if_pos q3, if_pos (by omega)]
    · rw [if_neg q3, if_neg (by omega)]
      rfl
  have ur : 0 ≤ zUo (sv v.toNatClampNeg).toNat y ∧ zUo (sv v.toNatClampNeg).toNat y ≤ 1 := by
    unfold zUo
    split <;> omega
  rw [eu, zI_n n, zI_sub, zI_le ⟨by omega, by omega⟩ ⟨by omega, by omega⟩]
  have v2 : vp_in (zI (sv v.toNatClampNeg)) 48 := zvp (by omega) (by omega) (by omega)
  refine ⟨fun q3 => ⟨v2, ?_⟩, fun q3 => ⟨g3, by rw [if_pos (Or.inr (by omega))], rfl⟩⟩
  obtain ⟨b1, b2, b3, b4, b5, b6⟩ := h8 (sv v.toNatClampNeg).toNat (by omega)
  rw [zI_clamp ⟨by omega, by omega⟩, b5, h6, zI_sub, zI_n sz]
  refine (c_rest G true ad ln al (x := off (sv v.toNatClampNeg).toNat - ((n : Int) - zUo (sv v.toNatClampNeg).toNat y)) (y := (sz : Int)) ⟨by omega, by omega⟩ ⟨by omega, by omega⟩ (by omega)).mono (fun q4 a hq => ?_)
  obtain ⟨rfl, e⟩ := hq
  obtain rfl := e.symm
  obtain ⟨z1, z2⟩ := zSp_lt (sz := sz) (off := off) h7.1 (sv v.toNatClampNeg).toNat ((n : Int) - zUo (sv v.toNatClampNeg).toNat y)
  rw [← z2, ← zI_n, nI_clamp (by omega), hP _ (by omega), if_neg (fun z => by omega)]
  exact ⟨vp_in_nI (by omega) (by omega), rfl, rfl⟩
theorem c_giveLaid (h : zLd al k D R sz rc st c b off sv bg) {x n : Nat} (hx : x < k) (hn : n < 64) {g P ce : Nat → Int32} (hs : zLS al (g, P, ce)) : zMi G yX4_giveLaid wsX4_giveLaid rmX4_giveLaid (zTC true) ad ln [.ref (ad 173), .int (nI x), .int (nI n)] al (fun q a => q = zGv sz rc off sv bg P ce x n ∧ a = al) := by
  refine zMi.of (cc := cX4_giveLaid) (nL := 5) (rt := .int) (by decide) rfl (Nat.le_of_ble_eq_true rfl) (fun Z X hR => ?_)
  refine tX4_giveLaid_0 X _ _ hR al ?_
  have hk := h.1.2.1
  obtain ⟨⟨p, hp⟩, ho⟩ := h.1.2.2 x hx
  obtain ⟨r0, r1, r2, r3, r4, r5, r6, l0, l1, q0, q1⟩ := hp
  have hp : zRowAt al x p (rc x) := ⟨r0, r1, r2, r3, r4, r5, r6, l0, l1, q0, q1⟩
  have okl := ho.2.2.2.2.2.2.2.1
  have okr := ho.2.2.2.2.2.2.2.2.1
  unfold vcX4_giveLaid_0 vcX4_giveLaid_71
  rw [nI_clamp (by omega), r0]
  refine ⟨vp_in_nI (by omega) (by omega), fun n2 => ?_, fun n2 => ?_⟩
  · refine (c_laidValue G ad ln al h (zOp_l true (by omega)) l0 l1 okl (y := x) (n := n) (by omega) hn hs.2.1).mono (fun q a hq => ?_)
    obtain ⟨rfl, e⟩ := hq
    obtain rfl := e.symm
    rw [r0]
    unfold zGv
    rw [if_neg n2]
    refine ⟨fun n3 => ?_, fun n3 => ⟨by rw [if_pos n3], rfl⟩⟩
    refine (c_laidValue G ad ln al h (zOp_r true (by omega)) q0 q1 okr (y := x) (n := n) (by omega) hn hs.2.1).mono (fun q a hq => ?_)
    obtain ⟨rfl, e⟩ := hq
    obtain rfl := e.symm
    refine (c_reckon G true ad ln al x (by omega) _ _).mono (fun q a hq => ?_)
    obtain ⟨rfl, e⟩ := hq
    obtain rfl := e.symm
    exact ⟨by rw [if_neg n3, r1], rfl⟩
  · refine (c_cellOf G ad ln al (by omega) hp ho (Or.inl n2) hn).mono (fun q a hq => ?_)
    obtain ⟨rfl, e⟩ := hq
    obtain rfl := e.symm
    obtain ⟨g1, g2, g3, g4, g5, g6, g7⟩ := zRec_pl ho (Or.inl n2) hn
    rw [nI_clamp (by omega)]
    refine ⟨vp_in_nI (by omega) (by omega), ?_, rfl⟩
    unfold zGv
    rw [if_pos n2]
    exact hs.2.2 _ g5
theorem c_beginRows (h : zLd al k D R sz rc st c b off sv bg) {t : Int} (ht : 0 ≤ t ∧ t ≤ 2000000) {g P ce : Nat → Int32} (hs : zLS al (g, P, ce)) : zMv G yX4_beginRows wsX4_beginRows rmX4_beginRows (zTC true) ad ln [.ref (ad 173), .int (zI t)] al (fun a => zFr [176] al a ∧ zLS a (zBr D R sz rc c off sv bg t P ce k g, P, ce)) := by
  refine zMv.of (cc := cX4_beginRows) (nL := 4) (by decide) rfl (Nat.le_of_ble_eq_true rfl) (fun Z X hR => ?_)
  have hd := h
  obtain ⟨h1, h2, h3, h4, h5, h6, h7, h8, h9, h10⟩ := h
  have hk := h1.2.1
  have hR64 := (h2 8 (by omega)).2.2
  rw [h3] at hR64
  have loop : ∀ (f x : Nat) (a : Nat → Nat → Int32), x + f = k → zFr [176] al a → zLS a (zBr D R sz rc c off sv bg t P ce x g, P, ce) → BX4_beginRows_2 G Z ad ln (zI t) (nI x) a := by
    intro f
    induction f with
    | zero =>
      intro x a hx hf hs
      refine uX4_beginRows_2 X _ hR _ a ?_
      unfold vcX4_beginRows_2
      have : x = k := by omega
      subst this
      rw [hf 4 (by decide), h1.1]
      exact ⟨fun _ => ⟨hf, hs⟩, fun z => absurd (Int32.le_refl _) z⟩
    | succ f ih =>
      intro x a hx hf hs
      refine uX4_beginRows_2 X _ hR _ a ?_
      unfold vcX4_beginRows_2 vcX4_beginRows_49
      obtain ⟨b1, b2, b3, b4, b5, b6⟩ := h8 x (by omega)
      rw [hf 4 (by decide), h1.1, nI_clamp (by omega), hf 19 (by decide), b1, nI_1]
      have v : vp_in (nI x) 48 := vp_in_nI (by omega) (by omega)
      refine ⟨fun z => absurd z (by rw [nI_leI (by omega) (by omega)]; omega), fun _ => ⟨v, ?_⟩⟩
      refine (c_roundAt G ad ln a (hd.fr hf (by simp)) ht (f := c x) (by omega)).mono (fun q1 a1 hq => ?_)
      obtain ⟨rfl, e⟩ := hq
      obtain rfl := e.symm
      have rr := zRa_rng (D := D) (R := R) t (c x) h5.1
      rw [zI_0, zI_lt ⟨by omega, by omega⟩ ⟨by omega, by omega⟩]
      refine ⟨fun q2 => ?_, fun q2 => ?_⟩
      · refine ih (x + 1) a (by omega) hf ?_
        unfold zBr
        rw [if_neg (fun z => by omega)]
        exact hs
      · obtain ⟨i1, i2⟩ := e64 (x := x) (q := zRa D R t (c x)) (by omega) (by omega)
        rw [i1, nI_clamp (by omega), show zI (zRa D R t (c x)) = nI (zRa D R t (c x)).toNat by rw [zI_n]; congr 1; omega]
        refine (c_giveLaid G ad ln a (hd.fr hf (by simp)) (x := x) (by omega) (n := (zRa D R t (c x)).toNat) (by omega) hs).mono (fun q3 a3 hq => ?_)
        obtain ⟨rfl, e⟩ := hq
        obtain rfl := e.symm
        refine ⟨vp_in_nI (by omega) (by omega), ih (x + 1) _ (by omega) (hf.up (by decide) _ _) ?_⟩
        unfold zBr
        rw [if_pos (by omega)]
        refine ⟨fun i hi => ?_, fun i hi => ?_, fun i hi => ?_⟩
        · show _ = fu _ _ _ i
          by_cases e : i = x * 64 + (zRa D R t (c x)).toNat
          · subst e
            rw [up2_self, fu_self]
          · rw [up2_ne _ _ (fun z => e z.2), fu_ne _ _ e]
            exact hs.1 i hi
        · rw [up2_ne _ _ (fun z => absurd z.1 (by decide))]
          exact hs.2.1 i hi
        · rw [up2_ne _ _ (fun z => absurd z.1 (by decide))]
          exact hs.2.2 i hi
  refine uX4_beginRows_0 X _ hR al ?_
  unfold vcX4_beginRows_0
  exact loop k 0 al (by omega) zFr.rf hs
theorem c_bringSets (h : zLd al k D R sz rc st c b off sv bg) {t : Int} (ht : 0 ≤ t ∧ t ≤ 2000000) {g P ce : Nat → Int32} (hs : zLS al (g, P, ce)) : zMv G yX4_bringSets wsX4_bringSets rmX4_bringSets (zTC true) ad ln [.ref (ad 173), .int (zI t)] al (fun a => zFr [174] al a ∧ zLS a (g, P, zBs D R rc c (st 3) t g k ce)) := by
  refine zMv.of (cc := cX4_bringSets) (nL := 5) (by decide) rfl (Nat.le_of_ble_eq_true rfl) (fun Z X hR => ?_)
  have hd := h
  obtain ⟨h1, h2, h3, h4, h5, h6, h7, h8, h9, h10⟩ := h
  have hk := h1.2.1
  have hR64 := (h2 8 (by omega)).2.2
  rw [h3] at hR64
  obtain ⟨t1, t2, t3⟩ := h2 3 (by omega)
  have loop : ∀ (f x : Nat) (a : Nat → Nat → Int32), x + f = k → zFr [174] al a → zLS a (g, P, zBs D R rc c (st 3) t g x ce) → BX4_bringSets_2 G Z ad ln (zI t) (nI x) a := by
    intro f
    induction f with
    | zero =>
      intro x a hx hf hs
      refine uX4_bringSets_2 X _ hR _ a ?_
      unfold vcX4_bringSets_2
      have : x = k := by omega
      subst this
      rw [hf 4 (by decide), h1.1]
      exact ⟨fun _ => ⟨hf, hs⟩, fun z => absurd (Int32.le_refl _) z⟩
    | succ f ih =>
      intro x a hx hf hs
      refine uX4_bringSets_2 X _ hR _ a ?_
      unfold vcX4_bringSets_2 vcX4_bringSets_85
      obtain ⟨b1, b2, b3, b4, b5, b6⟩ := h8 x (by omega)
      have hd2 := hd.fr hf (by simp)
      obtain ⟨⟨p, hp⟩, ho⟩ := hd2.1.2.2 x (by omega)
      rw [hf 4 (by decide), h1.1, nI_clamp (by omega), hf 19 (by decide), b1, hf 2 (by decide), t1, nI_1, hp.1]
      have v : vp_in (nI x) 48 := vp_in_nI (by omega) (by omega)
      refine ⟨fun z => absurd z (by rw [nI_leI (by omega) (by omega)]; omega), fun _ => ⟨v, fun q => ?_, fun q => ⟨v, by unfold vp_in; decide, ?_⟩⟩⟩
      · refine ih (x + 1) a (by omega) hf ?_
        unfold zBs
        rw [if_neg (fun z => q z.1)]
        exact hs
      · rw [zI_n (st 3), zI_add, zI_1, zI_sub]
        refine (c_roundAt G ad ln a hd2 ht (f := c x + (st 3 : Int) - 1) (by omega)).mono (fun q1 a1 hq => ?_)
        obtain ⟨rfl, e⟩ := hq
        obtain rfl := e.symm
        have rr := zRa_rng (D := D) (R := R) t (c x + (st 3 : Int) - 1) h5.1
        rw [zI_0, zI_lt ⟨by omega, by omega⟩ ⟨by omega, by omega⟩]
        refine ⟨fun q2 => ?_, fun q2 => ?_⟩
        · refine ih (x + 1) a (by omega) hf ?_
          unfold zBs
          rw [if_neg (fun z => by omega)]
          exact hs
        · obtain ⟨i1, i2⟩ := e64 (x := x) (q := zRa D R t (c x + (st 3 : Int) - 1)) (by omega) (by omega)
          rw [i1, nI_clamp (by omega), show zI (zRa D R t (c x + (st 3 : Int) - 1)) = nI (zRa D R t (c x + (st 3 : Int) - 1)).toNat by rw [zI_n]; congr 1; omega]
          refine (c_cellOf G ad ln a (by omega) hp ho (Or.inr q) (n := (zRa D R t (c x + (st 3 : Int) - 1)).toNat) (by omega)).mono (fun q3 a3 hq => ?_)
          obtain ⟨rfl, e⟩ := hq
          obtain rfl := e.symm
          obtain ⟨g1, g2, g3, g4, g5, g6, g7⟩ := zRec_pl ho (Or.inr q) (n := (zRa D R t (c x + (st 3 : Int) - 1)).toNat) (by omega)
          rw [nI_clamp (by omega)]
          refine ⟨vp_in_nI (by omega) (by omega), vp_in_nI (by omega) (by omega), ih (x + 1) _ (by omega) (hf.up (by decide) _ _) ?_⟩
          unfold zBs
          rw [if_pos ⟨q, by omega⟩]
          refine ⟨fun i hi => ?_, fun i hi => ?_, fun i hi => ?_⟩
          · rw [up2_ne _ _ (fun z => absurd z.1 (by decide))]
            exact hs.1 i hi
          · rw [up2_ne _ _ (fun z => absurd z.1 (by decide))]
            exact hs.2.1 i hi
          · show _ = fu _ _ _ i
            by_cases e : i = zCx (rc x) (zRa D R t (c x + (st 3 : Int) - 1)).toNat
            · subst e
              rw [up2_self, fu_self]
              exact hs.1 _ i2
            · rw [up2_ne _ _ (fun z => e z.2), fu_ne _ _ e]
              exact hs.2.2 i hi
  refine uX4_bringSets_0 X _ hR al ?_
  unfold vcX4_bringSets_0
  exact loop k 0 al (by omega) zFr.rf hs
theorem c_keepLast (h : zLd al k D R sz rc st c b off sv bg) {g : Nat → Int32} (hg : ∀ i, i < 3072 → al 176 i = g i) : zMv G yX4_keepLast wsX4_keepLast rmX4_keepLast (zTC true) ad ln [.ref (ad 173)] al (fun a => zFr [175] al a ∧ ∀ i, i < 32 → a 175 i = zKl R sv bg g i) := by
  refine zMv.of (cc := cX4_keepLast) (nL := 4) (by decide) rfl (Nat.le_of_ble_eq_true rfl) (fun Z X hR => ?_)
  obtain ⟨h1, h2, h3, h4, h5, h6, h7, h8, h9, h10⟩ := h
  have hk := h1.2.1
  obtain ⟨e8, s1, s2⟩ := h2 8 (by omega)
  rw [h3] at e8 s1 s2
  have loop : ∀ (f i : Nat) (a : Nat → Nat → Int32), i + f = 32 → zFr [175] al a → (∀ j, j < i → a 175 j = zKl R sv bg g j) → BX4_keepLast_12 G Z ad ln (nI (R - 1)) (nI i) a := by
    intro f
    induction f with
    | zero =>
      intro i a hi hf ha
      refine uX4_keepLast_12 X hR _ _ a ?_
      unfold vcX4_keepLast_12
      have : i = 32 := by omega
      subst this
      exact ⟨fun _ => ⟨hf, ha⟩, fun z => absurd (by decide) z⟩
    | succ f ih =>
      intro i a hi hf ha
      refine uX4_keepLast_12 X hR _ _ a ?_
      unfold vcX4_keepLast_12 vcX4_keepLast_57
      obtain ⟨v1, v2⟩ := h9 i (by omega)
      rw [nI_clamp (by omega), hf 6 (by decide), v1, hf 3 (by decide), h10 i (by omega), hf 176 (by decide), nI_1, zI_0, zI_le ⟨by omega, by omega⟩ ⟨by omega, by omega⟩]
      have v : vp_in (nI i) 32 := vp_in_nI (by omega) (by omega)
      have fin : ∀ x : Int32, x = zKl R sv bg g i → BX4_keepLast_12 G Z ad ln (nI (R - 1)) (nI (i + 1)) (up2 a 175 i x) := by
        intro x hx
        refine ih (i + 1) _ (by omega) (hf.up (by decide) _ _) (fun j hj => ?_)
        by_cases e : j = i
        · subst e
          rw [up2_self, hx]
        · rw [up2_ne _ _ (fun z => e z.2)]
          exact ha j (by omega)
      refine ⟨fun z => absurd z (by rw [show (32 : Int32) = nI 32 from rfl, nI_leI (by omega) (by omega)]; omega), fun _ => ⟨v, fun q => ?_, fun q => ⟨v, v, fin _ ?_⟩⟩⟩
      · have ei : zI (sv i) * 64 + nI (R - 1) = nI ((sv i).toNat * 64 + (R - 1)) := by
          rw [show (64 : Int32) = zI 64 from rfl, zI_mul, zI_n (R - 1), zI_add, zI_n]
          congr 1
          omega
        rw [ei, nI_clamp (by omega)]
        refine ⟨vp_in_nI (by omega) (by omega), v, fin _ ?_⟩
        unfold zKl
        rw [if_neg (by omega)]
        exact hg _ (by omega)
      · unfold zKl
        rw [if_pos (by omega)]
  refine uX4_keepLast_0 X hR al ?_
  unfold vcX4_keepLast_0
  refine ⟨by unfold vp_in; decide, ?_⟩
  rw [e8, show nI R - 1 = nI (R - 1) by rw [zI_n, zI_1, zI_sub, zI_n]; congr 1; omega]
  exact loop 32 0 al rfl zFr.rf (fun j hj => absurd hj (by omega))
theorem c_runLaid (h : zLd (up2 al 173 9 (nI D)) k D R sz rc st c b off sv bg) {g P : Nat → Int32} (hg : ∀ i, i < 3072 → al 176 i = g i) (hP : ∀ i, i < 128 → al 177 i = P i) {last : Nat} (hl : (last : Int) = zLs c (fun x => st (rKd (rc x))) k + ((R : Int) - 1) * (D : Int)) (hl2 : last ≤ 1900000) : zMi G yX4_runLaid wsX4_runLaid rmX4_runLaid (zTC true) ad ln [.ref (ad 173), .int (nI D)] al (fun q a => q = nI last ∧ zFr [173, 174, 175, 176, 177] al a ∧ (∀ j, j ≠ 9 → a 173 j = al 173 j) ∧ zLS a (zLc k D R sz rc c b off sv bg (st 3) (g, P, zCe0) (last + 1)) ∧ ∀ i, i < 32 → a 175 i = zKl R sv bg (zLc k D R sz rc c b off sv bg (st 3) (g, P, zCe0) (last + 1)).1 i) := by
  refine zMi.of (cc := cX4_runLaid) (nL := 4) (rt := .int) (by decide) rfl (Nat.le_of_ble_eq_true rfl) (fun Z X hR => ?_)
  have loop : ∀ (f t : Nat) (a : Nat → Nat → Int32), t + f = last + 1 → zFr [174, 175, 176, 177] (up2 al 173 9 (nI D)) a → zLS a (zLc k D R sz rc c b off sv bg (st 3) (g, P, zCe0) t) → BX4_runLaid_16 G Z ad ln (nI D) (nI last) (nI t) a := by
    intro f
    induction f with
    | zero =>
      intro t a ht hf hs
      refine uX4_runLaid_16 X (nI D) hR _ _ a ?_
      unfold vcX4_runLaid_16
      have : t = last + 1 := by omega
      subst this
      refine ⟨fun _ => ?_, fun z => absurd (by rw [nI_ltI (by omega) (by omega)]; omega) z⟩
      refine (c_keepLast G ad ln a (h.fr hf (by simp)) hs.1).mono (fun a2 hq => ?_)
      refine ⟨rfl, ?_, fun j hj => ?_, ⟨fun i hi => ?_, fun i hi => ?_, fun i hi => ?_⟩, hq.2⟩
      · exact (zFr.rf.up (l := [173, 174, 175, 176, 177]) (k := 173) (by decide) 9 (nI D)).tr ((hf.mono (by decide)).tr (hq.1.mono (by decide)))
      · rw [hq.1 173 (by decide), hf 173 (by decide), up2_ne _ _ (fun z => hj z.2)]
      · rw [hq.1 176 (by decide)]
        exact hs.1 i hi
      · rw [hq.1 177 (by decide)]
        exact hs.2.1 i hi
      · rw [hq.1 174 (by decide)]
        exact hs.2.2 i hi
    | succ f ih =>
      intro t a ht hf hs
      refine uX4_runLaid_16 X (nI D) hR _ _ a ?_
      unfold vcX4_runLaid_16
      refine ⟨fun z => absurd z (by rw [nI_ltI (by omega) (by omega)]; omega), fun _ => ?_⟩
      rw [nI_1, zI_n t]
      refine (c_bringValues G ad ln a (h.fr hf (by simp)) (t := (t : Int)) (by omega) hs).mono (fun a2 h2 => ?_)
      have f2 := hf.tr (h2.1.mono (by decide))
      refine (c_beginRows G ad ln a2 (h.fr f2 (by simp)) (t := (t : Int)) (by omega) h2.2).mono (fun a3 h3 => ?_)
      have f3 := f2.tr (h3.1.mono (by decide))
      refine (c_bringSets G ad ln a3 (h.fr f3 (by simp)) (t := (t : Int)) (by omega) h3.2).mono (fun a4 h4 => ?_)
      exact ih (t + 1) a4 (by omega) (f3.tr (h4.1.mono (by decide))) h4.2
  refine uX4_runLaid_0 X (nI D) hR al ?_
  unfold vcX4_runLaid_0
  refine (c_fillCells G ad ln _).mono (fun a1 hq => ?_)
  obtain ⟨f1, g1⟩ := hq
  refine (c_lastCycle G ad ln a1 (h.fr f1 (by simp))).mono (fun q a2 hq => ?_)
  obtain ⟨rfl, e⟩ := hq
  obtain rfl := e.symm
  rw [← hl, ← zI_n]
  refine loop (last + 1) 0 a1 (by omega) (f1.mono (by decide)) ⟨fun i hi => ?_, fun i hi => ?_, g1⟩
  · rw [f1 176 (by decide), up2_ne _ _ (fun z => absurd z.1 (by decide))]
    exact hg i hi
  · rw [f1 177 (by decide), up2_ne _ _ (fun z => absurd z.1 (by decide))]
    exact hP i hi
end LAIDC
