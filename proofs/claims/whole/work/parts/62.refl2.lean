/-! THE REFERENCE: the laid run's own small methods -/
def zLdR (a : Nat → Nat → Int32) (ln : Nat → Nat) (n D sz : Nat) (rc : Nat → zRec) (st : Nat → Nat) (c b off : Nat → Int) (bg : Nat → Int32) : Prop :=
  zRr a n rc ∧ zRst a st ∧ zUq n rc ∧ (a 0 33 = nI D ∧ 1 ≤ D ∧ D ≤ 200) ∧ (a 0 41 = nI sz ∧ 1 ≤ sz ∧ sz ≤ 128 ∧ sz ≤ ln 28 ∧ ln 28 < 2147483648) ∧ (∀ x, x < n → a 17 x = zI (c x) ∧ 0 ≤ c x ∧ c x ≤ 100000) ∧ (∀ x, x < n → a 22 x = zI (off x) ∧ (off x = -1 ∨ (0 ≤ off x ∧ off x < sz)) ∧ (0 ≤ off x ↔ 0 ≤ b x) ∧ (0 ≤ b x → b x = c x + (zTm rc st x : Int))) ∧ ∀ i, i < 32 → a 24 i = bg i
def zLR : List Nat := [25, 28, 77, 78, 79, 80] ++ (List.range 48).map (81 + ·)
theorem zLR_v {x : Nat} (h : x < 48) : 81 + x ∈ zLR := List.mem_append.mpr (Or.inr (List.mem_map.mpr ⟨x, List.mem_range.mpr h, rfl⟩))
theorem zLR_a {x : Nat} (h : x < 4) : 77 + x ∈ zLR := by
  rcases (show x = 0 ∨ x = 1 ∨ x = 2 ∨ x = 3 by omega) with rfl | rfl | rfl | rfl <;> decide
theorem zLdR.fr {a a' : Nat → Nat → Int32} {ln : Nat → Nat} {n D sz : Nat} {rc : Nat → zRec} {st : Nat → Nat} {c b off : Nat → Int} {bg : Nat → Int32} (h : zLdR a ln n D sz rc st c b off bg) (hf : zFr zLR a a') : zLdR a' ln n D sz rc st c b off bg := by
  obtain ⟨h1, h2, h3, h4, h5, h6, h7, h8⟩ := h
  refine ⟨h1.fr hf (by rw [hf 0 (by decide)]) (by decide), h2.fr (hf 11 (by decide)) (fun j _ _ => by rw [hf 0 (by decide)]), h3, ?_, ?_, ?_, ?_, ?_⟩
  · rw [hf 0 (by decide)]
    exact h4
  · rw [hf 0 (by decide)]
    exact h5
  · rw [hf 17 (by decide)]
    exact h6
  · rw [hf 22 (by decide)]
    exact h7
  · rw [hf 24 (by decide)]
    exact h8
section REFL2
variable (G : zG) (ad ln : Nat → Nat) (al : Nat → Nat → Int32) {n D sz : Nat} {rc : Nat → zRec} {st : Nat → Nat} {c b off : Nat → Int} {bg : Nat → Int32}
theorem r_spot (h : zLdR al ln n D sz rc st c b off bg) {x : Nat} (hx : x < n) {i : Int} (hi : 0 ≤ i ∧ i < 64) : zMi G yX11_spot wsX11_spot rmX11_spot zTR ad ln [.ref (ad 0), .int (nI x), .int (zI i)] al (fun q a => q = nI (zSp sz off x i) ∧ a = al) := by
  refine zMi.of (cc := cX11_spot) (nL := 4) (rt := .int) (by decide) rfl (Nat.le_of_ble_eq_true rfl) (fun Z X hR => ?_)
  refine tX11_spot_0 X _ _ hR al ?_
  obtain ⟨h1, h2, h3, h4, h5, h6, h7, h8⟩ := h
  have hn := h1.2.1
  obtain ⟨o1, o2, o3⟩ := h7 x hx
  unfold vcX11_spot_0 vcX11_spot_28
  have hz := h5.2.1
  have hz2 := h5.2.2.1
  have nz : ¬ nI sz = 0 := by
    rw [show (0 : Int32) = nI 0 from rfl, nI_eq (by omega) (by omega)]
    omega
  rw [nI_clamp (by omega), o1, h5.1, zI_sub, zI_n sz, zI_rem ⟨by omega, by omega⟩ ⟨by omega, by omega⟩ (by omega), zI_add]
  have hm := zfloorM (x := off x - i) (y := (sz : Int)) (by omega)
  have m1 := Int.emod_nonneg (off x - i) (b := (sz : Int)) (by omega)
  have m2 := Int.emod_lt_of_pos (off x - i) (b := (sz : Int)) (by omega)
  generalize htm : (off x - i).tmod (sz : Int) = tmv at hm
  have hr : -(sz : Int) ≤ tmv ∧ tmv < sz := by
    split at hm <;> omega
  rw [zI_0, zI_le ⟨by omega, by omega⟩ ⟨by omega, by omega⟩, ← zI_0, ← zI_n sz]
  have key : zSp sz off x i = ((off x - i) % (sz : Int)).toNat := rfl
  refine ⟨vp_in_nI (by omega) (by omega), nz, fun q => ⟨?_, rfl⟩, fun q => ⟨?_, rfl⟩⟩
  · rw [key, zI_n]
    congr 1
    rw [if_neg (by omega)] at hm
    omega
  · rw [key, zI_n]
    congr 1
    rw [if_pos (by omega)] at hm
    omega
theorem r_roundAt (h : zLdR al ln n D sz rc st c b off bg) {x : Nat} (hx : x < n) {t : Int} (ht : -1000 ≤ t ∧ t ≤ 2000000) : zMi G yX11_roundAt wsX11_roundAt rmX11_roundAt zTR ad ln [.ref (ad 0), .int (nI x), .int (zI t)] al (fun q a => q = zI (zRa D (st 8) t (c x)) ∧ a = al) := by
  refine zMi.of (cc := cX11_roundAt) (nL := 4) (rt := .int) (by decide) rfl (Nat.le_of_ble_eq_true rfl) (fun Z X hR => ?_)
  refine tX11_roundAt_0 X _ _ hR al ?_
  obtain ⟨h1, h2, h3, h4, h5, h6, h7, h8⟩ := h
  have hn := h1.2.1
  obtain ⟨c1, c2, c3⟩ := h6 x hx
  have hR8 := h2.2.2 8 (by omega)
  have h18 : al 0 18 = nI (st 8) := h2.2.1.2.2.2.2
  have hD := h4.2
  unfold vcX11_roundAt_0 vcX11_roundAt_44 vcX11_roundAt_45
  have nz : ¬ nI D = 0 := by
    rw [show (0 : Int32) = nI 0 from rfl, nI_eq (by omega) (by omega)]
    omega
  rw [nI_clamp (by omega), c1, h4.1, h18, zI_sub]
  refine ⟨vp_in_nI (by omega) (by omega), fun q => ⟨?_, rfl⟩, fun q => ⟨nz, ?_⟩⟩
  · rw [zI_0, zI_lt ⟨by omega, by omega⟩ ⟨by omega, by omega⟩] at q
    unfold zRa
    rw [if_pos q]
    rfl
  · rw [zI_0, zI_lt ⟨by omega, by omega⟩ ⟨by omega, by omega⟩] at q
    have e1 : zI (t - c x) / nI D = zI ((t - c x) / (D : Int)) := by
      rw [zI_n, zI_div ⟨by omega, by omega⟩ ⟨by omega, by omega⟩ (by omega), Int.tdiv_eq_ediv_of_nonneg (by omega)]
    have d0 := Int.ediv_nonneg (a := t - c x) (b := (D : Int)) (by omega) (by omega)
    have d1 : (t - c x) / (D : Int) ≤ t - c x := Int.ediv_le_self _ (by omega)
    have d2 := Int.ediv_mul_le (t - c x) (b := (D : Int)) (by omega)
    have d3 : 0 ≤ (t - c x) / (D : Int) * (D : Int) := Int.mul_nonneg d0 (by omega)
    rw [e1, zI_n D, zI_mul, zI_sub, zI_0, zI_eq ⟨by omega, by omega⟩ ⟨by omega, by omega⟩, zI_n (st 8), zI_le ⟨by omega, by omega⟩ ⟨by omega, by omega⟩]
    rw [zI_n, zI_0] at nz
    unfold zRa
    rw [if_neg q]
    refine ⟨fun q2 => ⟨?_, rfl⟩, fun q2 => ⟨nz, fun q3 => ⟨?_, rfl⟩, fun q3 => ⟨nz, ?_, rfl⟩⟩⟩
    · rw [if_neg (by omega)]
      rfl
    · rw [if_neg (by omega)]
      rfl
    · rw [if_pos (by omega)]
theorem zSv_rng (n : Nat) (rc : Nat → zRec) (r : Nat) : (zSv n rc r = -1 ∧ (zSv n rc r).toInt = -1) ∨ ∃ x : Nat, x < n ∧ zSv n rc r = nI x ∧ (n ≤ 48 → (zSv n rc r).toInt = (x : Int)) ∧ (rc x).2.2.1 = nI r := by
  rcases zSet_rng (fun x => (rc x).2.2.1) n r with h | ⟨x, h1, h2, h3⟩
  · left
    refine ⟨h, ?_⟩
    unfold zSv
    rw [h]
    decide
  · right
    refine ⟨x, h1, h2, fun hn => ?_, h3⟩
    unfold zSv
    rw [h2, zI_n, zI_toInt ⟨by omega, by omega⟩]
/-- the setters, as numbers -/
def zSvI (n : Nat) (rc : Nat → zRec) (r : Nat) : Int := (zSv n rc r).toInt
theorem r_laid (h : zLdR al ln n D sz rc st c b off bg) {P : Nat → Int32} (hP : ∀ i, i < sz → al 28 i = P i) {s v v' : Int32} {y i : Nat} (hy : y < n) (hi : i < 64) (ho : zOpOk s v) (hv : zSo3 s ≠ 2 → v' = v) : zMi G yX11_laid wsX11_laid rmX11_laid zTR ad ln [.ref (ad 0), .int (zSo3 s), .int v', .int (nI y), .int (nI i)] al (fun q a => q = zLv sz off (zSvI n rc) bg P s v y i ∧ a = al) := by
  refine zMi.of (cc := cX11_laid) (nL := 7) (rt := .int) (by decide) rfl (Nat.le_of_ble_eq_true rfl) (fun Z X hR => ?_)
  refine tX11_laid_0 X _ _ _ _ hR al ?_
  have h0 := h
  obtain ⟨h1, h2, h3, h4, h5, h6, h7, h8⟩ := h
  have hn := h1.2.1
  unfold vcX11_laid_0 vcX11_laid_16 vcX11_laid_75
  rw [zSo3_1, zSo3_2]
  unfold zLv
  refine ⟨fun q => ?_, fun q => ⟨fun q2 => ?_, fun q2 => ?_⟩⟩
  · have ev : v' = v := hv (fun z => by rw [zSo3_2, q] at z; exact absurd z (by decide))
    subst ev
    obtain ⟨o1, o2, o3⟩ := ho.v q
    rw [if_pos q]
    generalize hr : v'.toNatClampNeg = r at o1 o2
    subst o2
    refine (r_setter G ad ln al h1 h3 o1).mono (fun q2 a2 hq => ?_)
    obtain ⟨rfl, e2⟩ := hq
    obtain rfl := e2.symm
    rcases zSv_rng n rc r with ⟨g1, g2⟩ | ⟨x, g1, g2, g3, g4⟩
    · have e3 : zSvI n rc r < 0 := by unfold zSvI; omega
      rw [g1, if_pos (Or.inl e3)]
      refine ⟨fun z => absurd z (by decide), fun _ => ⟨o3, ?_, rfl⟩⟩
      exact h8 r o1
    · have e3 : zSvI n rc r = (x : Int) := g3 hn
      rw [g2, e3, show ((x : Nat) : Int).toNat = x by omega]
      refine ⟨fun _ => ?_, fun z => absurd (by rw [show (0 : Int32) = nI 0 from rfl, nI_leI (by omega) (by omega)]; omega) z⟩
      refine (r_useOver G ad ln al (x := x) (y := y) (by omega) (by omega)).mono (fun q4 a4 hq => ?_)
      obtain ⟨rfl, e4⟩ := hq
      obtain rfl := e4.symm
      have eu : (zUon x y : Int) = zUo x y := by unfold zUon zUo; split <;> rfl
      have hu : zUon x y ≤ 1 := by unfold zUon; split <;> omega
      rw [zI_n i, zI_n (zUon x y), zI_sub, eu, zI_0, zI_le ⟨by omega, by omega⟩ ⟨by omega, by omega⟩]
      refine ⟨fun z => ?_, fun z => ⟨o3, ?_, rfl⟩⟩
      · rw [if_neg (by omega)]
        refine (r_spot G ad ln al h0 (x := x) g1 (i := (i : Int) - zUo x y) (by omega)).mono (fun q6 a6 hq => ?_)
        obtain ⟨rfl, e6⟩ := hq
        obtain rfl := e6.symm
        have hs : zSp sz off x ((i : Int) - zUo x y) < sz := by
          have := Int.emod_lt_of_pos (off x - ((i : Int) - zUo x y)) (b := (sz : Int)) (by omega)
          have := Int.emod_nonneg (off x - ((i : Int) - zUo x y)) (b := (sz : Int)) (by omega)
          unfold zSp
          omega
        rw [nI_clamp (by omega)]
        exact ⟨vp_in_nI (by omega) (by omega), hP _ hs, rfl⟩
      · rw [if_pos (by omega)]
        exact h8 r o1
  · rw [if_neg q, if_neg q2]
    exact ⟨hv (fun z => q2 (zSo3_2.mp z)), rfl⟩
  · rw [if_neg q, if_pos q2]
    exact ⟨rfl, rfl⟩
end REFL2
