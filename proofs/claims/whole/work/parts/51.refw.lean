-- needs: 50
/-! THE REFERENCE: rows, settings, waits -/
def zOpc (y : zRec) : Int32 := if y.1 = 2 then 11 else if y.1 = 3 then 12 else if y.2.1 = 43 then 0 else if y.2.1 = 45 then 1 else if y.2.1 = 42 then 2 else if y.2.1 = 38 then 3 else if y.2.1 = 124 then 4 else if y.2.1 = 94 then 5 else if y.2.1 = 256 then 6 else if y.2.1 = 257 then 7 else if y.2.1 = 60 then 8 else if y.2.1 = 258 then 9 else 10
def zSo3 (s : Int32) : Int32 := if s = 114 then 1 else if s = 105 then 2 else 3
def zKA (y : zRec) : Int32 := if y.1 = 2 then 0 else zSo3 y.2.2.2.2.2.2.1
def zKB (y : zRec) : Int32 := if y.1 = 2 ∨ y.1 = 3 then 0 else zSo3 y.2.2.2.2.2.2.2.2.1
/-- a row of the reference -/
def zRrow (a : Nat → Nat → Int32) (x : Nat) (y : zRec) : Prop := a 1 x = zOpc y ∧ a 2 x = y.2.2.1 ∧ a 3 x = y.2.2.2.1 ∧ (y.1 = 2 ∨ y.1 = 3 → a 4 x = y.2.2.2.2.1 ∧ a 5 x = y.2.2.2.2.2.1) ∧ a 6 x = zKA y ∧ a 7 x = zKB y ∧ (zKA y = 1 ∨ zKA y = 3 → a 8 x = y.2.2.2.2.2.2.2.1) ∧ (zKB y = 1 ∨ zKB y = 3 → a 9 x = y.2.2.2.2.2.2.2.2.2)
def zRr (a : Nat → Nat → Int32) (n : Nat) (rc : Nat → zRec) : Prop := a 0 9 = nI n ∧ n ≤ 48 ∧ ∀ x, x < n → zRrow a x (rc x) ∧ zRecOk (rc x)
theorem zRr.fr {l : List Nat} {a a' : Nat → Nat → Int32} {n : Nat} {rc : Nat → zRec} (h : zRr a n rc) (hf : zFr l a a') (h9 : a' 0 9 = a 0 9) (hl : ∀ k, k ∈ l → k = 0 ∨ 10 ≤ k) : zRr a' n rc := by
  have no : ∀ k, 0 < k → k < 10 → a' k = a k := fun k h1 h2 => hf k (fun z => by have := hl k z; omega)
  unfold zRr zRrow
  rw [h9, no 1 (by omega) (by omega), no 2 (by omega) (by omega), no 3 (by omega) (by omega), no 4 (by omega) (by omega), no 5 (by omega) (by omega), no 6 (by omega) (by omega), no 7 (by omega) (by omega), no 8 (by omega) (by omega), no 9 (by omega) (by omega)]
  exact h
/-- the settings -/
def zRst (a : Nat → Nat → Int32) (st : Nat → Nat) : Prop := (∀ j, j < 4 → a 11 j = nI (st j) ∧ 1 ≤ st j ∧ st j ≤ 20) ∧ (a 0 20 = nI (st 4) ∧ a 0 21 = nI (st 5) ∧ a 0 22 = nI (st 6) ∧ a 0 19 = nI (st 7) ∧ a 0 18 = nI (st 8)) ∧ (∀ j, j < 9 → 1 ≤ st j ∧ st j ≤ 64)
theorem zRst.fr {a a' : Nat → Nat → Int32} {st : Nat → Nat} (h : zRst a st) (h11 : a' 11 = a 11) (h0 : ∀ j, 18 ≤ j → j ≤ 22 → a' 0 j = a 0 j) : zRst a' st := by
  unfold zRst
  rw [h11, h0 18 (by omega) (by omega), h0 19 (by omega) (by omega), h0 20 (by omega) (by omega), h0 21 (by omega) (by omega), h0 22 (by omega) (by omega)]
  exact h
theorem zKA1 {y : zRec} (h : zRecOk y) : zKA y = 1 ↔ y.2.2.2.2.2.2.1 = 114 := by
  unfold zKA zSo3
  obtain ⟨-, -, -, -, -, -, -, -, -, h10, -⟩ := h
  by_cases q : y.1 = 2
  · rw [if_pos q, h10 q]
    decide
  · rw [if_neg q]
    by_cases q2 : y.2.2.2.2.2.2.1 = 114
    · rw [if_pos q2]
      exact ⟨fun _ => q2, fun _ => rfl⟩
    · rw [if_neg q2]
      refine ⟨fun z => ?_, fun z => absurd z q2⟩
      split at z <;> exact absurd z (by decide)
theorem zKB1 {y : zRec} (h : zRecOk y) : zKB y = 1 ↔ y.2.2.2.2.2.2.2.2.1 = 114 := by
  unfold zKB zSo3
  obtain ⟨-, -, -, -, -, -, -, -, -, -, h11, -⟩ := h
  by_cases q : y.1 = 2 ∨ y.1 = 3
  · rw [if_pos q, h11 q]
    decide
  · rw [if_neg q]
    by_cases q2 : y.2.2.2.2.2.2.2.2.1 = 114
    · rw [if_pos q2]
      exact ⟨fun _ => q2, fun _ => rfl⟩
    · rw [if_neg q2]
      refine ⟨fun z => ?_, fun z => absurd z q2⟩
      split at z <;> exact absurd z (by decide)
theorem zOpc_k {y : zRec} (h : zRecOk y) : (zOpc y = 2 ↔ y.1 = 1) ∧ (zOpc y = 11 ↔ y.1 = 2) ∧ (zOpc y = 12 ↔ y.1 = 3) := by
  obtain ⟨h1, -, -, -, -, -, -, -, -, -, -, h12⟩ := h
  unfold zOpc
  rcases h1 with e | e | e | e
  · obtain ⟨g1, g2⟩ := h12 (Or.inl e)
    have n42 : ¬ y.2.1 = 42 := fun z => by rw [← g2, e] at z; exact absurd z (by decide)
    rw [e, if_neg (by decide), if_neg (by decide), if_neg n42]
    refine ⟨⟨fun z => ?_, fun z => absurd z (by decide)⟩, ⟨fun z => ?_, fun z => absurd z (by decide)⟩, ⟨fun z => ?_, fun z => absurd z (by decide)⟩⟩ <;> (exfalso; revert z; repeat' split) <;> decide
  · obtain ⟨g1, g2⟩ := h12 (Or.inr e)
    have e42 := g2.mp e
    rw [e, e42]
    decide
  · rw [e, if_pos rfl]
    decide
  · rw [e, if_neg (by decide), if_pos rfl]
    decide
section REFW
variable (G : zG) (ad ln : Nat → Nat) (al : Nat → Nat → Int32) {n : Nat} {rc : Nat → zRec} {st : Nat → Nat}
theorem r_kind (h : zRr al n rc) {x : Nat} (hx : x < n) : zMi G yX11_kind wsX11_kind rmX11_kind zTR ad ln [.ref (ad 0), .int (nI x)] al (fun q a => q = nI (rKd (rc x)) ∧ a = al) := by
  refine zMi.of (cc := cX11_kind) (nL := 2) (rt := .int) (by decide) rfl (Nat.le_of_ble_eq_true rfl) (fun Z X hR => ?_)
  refine tX11_kind_0 X _ hR al ?_
  unfold vcX11_kind_0 vcX11_kind_45
  obtain ⟨h9, hn, hr⟩ := h
  obtain ⟨⟨r1, -⟩, ok⟩ := hr x hx
  obtain ⟨k1, k2, k3⟩ := zOpc_k ok
  obtain ⟨g1, g2⟩ := rKd_ok ok
  have v : vp_in (nI x) 49 := vp_in_nI (by omega) (by omega)
  rw [nI_clamp (by omega), r1, k1, k2, k3, ← g2]
  refine ⟨v, fun q => ⟨v, fun q2 => ⟨v, fun q3 => ⟨?_, rfl⟩, fun q3 => ⟨q3.symm, rfl⟩⟩, fun q2 => ⟨q2.symm, rfl⟩⟩, fun q => ⟨q.symm, rfl⟩⟩
  rcases ok.1 with e | e | e | e
  · exact e.symm
  · exact absurd e q
  · exact absurd e q2
  · exact absurd e q3
theorem r_uses (h : zRr al n rc) {y : Nat} (hy : y < n) (r : Int32) : zMi G yX11_uses wsX11_uses rmX11_uses zTR ad ln [.ref (ad 0), .int (nI y), .int r] al (fun q a => q = zb (zUsR rc r y) ∧ a = al) := by
  refine zMi.of (cc := cX11_uses) (nL := 3) (rt := .boolean) (by decide) rfl (Nat.le_of_ble_eq_true rfl) (fun Z X hR => ?_)
  refine tX11_uses_0 X _ _ hR al ?_
  unfold vcX11_uses_0 vcX11_uses_20 vcX11_uses_40 vcX11_uses_44 vcX11_uses_45
  obtain ⟨h9, hn, hr⟩ := h
  obtain ⟨⟨-, -, -, -, r6, r7, r8, r9⟩, ok⟩ := hr y hy
  have v : vp_in (nI y) 49 := vp_in_nI (by omega) (by omega)
  rw [nI_clamp (by omega), r6, r7, zKA1 ok, zKB1 ok]
  have yes : (((rc y).2.2.2.2.2.2.1 = 114 ∧ (rc y).2.2.2.2.2.2.2.1 = r) ∨ ((rc y).2.2.2.2.2.2.2.2.1 = 114 ∧ (rc y).2.2.2.2.2.2.2.2.2 = r)) → (1 : Int32) = zb (zUsR rc r y) := by
    intro z
    unfold zUsR
    rw [decide_eq_true z]
    rfl
  have no : ¬ (((rc y).2.2.2.2.2.2.1 = 114 ∧ (rc y).2.2.2.2.2.2.2.1 = r) ∨ ((rc y).2.2.2.2.2.2.2.2.1 = 114 ∧ (rc y).2.2.2.2.2.2.2.2.2 = r)) → (0 : Int32) = zb (zUsR rc r y) := by
    intro z
    unfold zUsR
    rw [decide_eq_false z]
    rfl
  have second : ¬ ((rc y).2.2.2.2.2.2.1 = 114 ∧ (rc y).2.2.2.2.2.2.2.1 = r) → (vp_in (nI y) 49 ∧ (¬ (rc y).2.2.2.2.2.2.2.2.1 = 114 → zOk .boolean 0 ∧ (0 : Int32) = zb (zUsR rc r y) ∧ al = al) ∧ ((rc y).2.2.2.2.2.2.2.2.1 = 114 → (vp_in (nI y) 49 ∧ (¬ al 9 y = r → zOk .boolean 0 ∧ (0 : Int32) = zb (zUsR rc r y) ∧ al = al) ∧ (al 9 y = r → zOk .boolean 1 ∧ (1 : Int32) = zb (zUsR rc r y) ∧ al = al)))) := by
    intro hno
    refine ⟨v, fun q => ⟨rfl, no (fun z => z.elim hno (fun z => q z.1)), rfl⟩, fun q => ⟨v, ?_⟩⟩
    rw [r9 (Or.inl ((zKB1 ok).mpr q))]
    exact ⟨fun q2 => ⟨rfl, no (fun z => z.elim hno (fun z => q2 z.2)), rfl⟩, fun q2 => ⟨rfl, yes (Or.inr ⟨q, q2⟩), rfl⟩⟩
  refine ⟨v, fun q => second (fun z => q z.1), fun q => ⟨v, ?_⟩⟩
  rw [r8 (Or.inl ((zKA1 ok).mpr q))]
  exact ⟨fun q2 => ⟨rfl, yes (Or.inl ⟨q, q2⟩), rfl⟩, fun q2 => second (fun z => q2 z.2)⟩
theorem r_time (h : zRr al n rc) (hs : zRst al st) {x : Nat} (hx : x < n) : zMi G yX11_time wsX11_time rmX11_time zTR ad ln [.ref (ad 0), .int (nI x)] al (fun q a => q = nI (zTm rc st x) ∧ a = al) := by
  refine zMi.of (cc := cX11_time) (nL := 2) (rt := .int) (by decide) rfl (Nat.le_of_ble_eq_true rfl) (fun Z X hR => ?_)
  refine tX11_time_0 X _ hR al ?_
  unfold vcX11_time_0
  refine (r_kind G ad ln al h hx).mono (fun q a hq => ?_)
  obtain ⟨rfl, e⟩ := hq
  obtain rfl := e.symm
  obtain ⟨g1, g2⟩ := rKd_ok (h.2.2 x hx).2
  rw [nI_clamp (by omega), (hs.1 _ g1).1]
  exact ⟨vp_in_nI (by omega) (by omega), rfl, rfl⟩
theorem r_useOver {x y : Nat} (hx : x < 48) (hy : y < 48) : zMi G yX11_useOver wsX11_useOver rmX11_useOver zTR ad ln [.ref (ad 0), .int (nI x), .int (nI y)] al (fun q a => q = nI (zUon x y) ∧ a = al) := by
  refine zMi.of (cc := cX11_useOver) (nL := 3) (rt := .int) (by decide) rfl (Nat.le_of_ble_eq_true rfl) (fun Z X hR => ?_)
  refine tX11_useOver_0 X _ _ hR al ?_
  unfold vcX11_useOver_0 vcX11_useOver_10 zUon
  rw [nI_leI (by omega) (by omega)]
  exact ⟨fun q => ⟨by rw [if_neg (by omega)]; rfl, rfl⟩, fun q => ⟨by rw [if_pos (by omega)]; rfl, rfl⟩⟩
theorem r_sameOver (h : zRr al n rc) (hs : zRst al st) {x y : Nat} (hx : x < n) (hy : y < n) (kx : (rc x).1 = 2 ∨ (rc x).1 = 3) (ky : (rc y).1 = 2 ∨ (rc y).1 = 3) : zMi G yX11_sameOver wsX11_sameOver rmX11_sameOver zTR ad ln [.ref (ad 0), .int (nI x), .int (nI y)] al (fun q a => q = zI (zOv (st 8) (rSt (rc x)) (rSh (rc x)) (rSt (rc y)) (rSh (rc y)) (zUon x y)) ∧ a = al) := by
  refine zMi.of (cc := cX11_sameOver) (nL := 5) (rt := .int) (by decide) rfl (Nat.le_of_ble_eq_true rfl) (fun Z X hR => ?_)
  obtain ⟨h9, hn, hr⟩ := h
  obtain ⟨⟨-, -, -, x4, -⟩, okx⟩ := hr x hx
  obtain ⟨⟨-, -, -, y4, -⟩, oky⟩ := hr y hy
  obtain ⟨x4, x5⟩ := x4 kx
  obtain ⟨y4, y5⟩ := y4 ky
  obtain ⟨-, -, bx, -, -, sx, hx'⟩ := zRec_pl okx kx (n := 0) (by omega)
  obtain ⟨-, -, by', -, -, sy, hy'⟩ := zRec_pl oky ky (n := 0) (by omega)
  have hR8 := hs.2.2 8 (by omega)
  have h18 := hs.2.1.2.2.2.2
  have rng : ∀ {z : Nat} (hz : z < n) (kz : (rc z).1 = 2 ∨ (rc z).1 = 3) (m : Nat), m < 64 → -2000 ≤ rSt (rc z) * (m : Int) + rSh (rc z) ∧ rSt (rc z) * (m : Int) + rSh (rc z) ≤ 2000 := by
    intro z hz kz m hm
    have := (zRec_pl (hr z hz).2 kz hm).2.2.1
    omega
  generalize hP : (fun (q : Int32) (a : Nat → Nat → Int32) => q = zI (zOv (st 8) (rSt (rc x)) (rSh (rc x)) (rSt (rc y)) (rSh (rc y)) (zUon x y)) ∧ a = al) = P at hR
  have isov := zOv_is (st 8) (rSt (rc x)) (rSh (rc x)) (rSt (rc y)) (rSh (rc y)) (zUon x y)
  have outer : ∀ (f d : Nat), d + f = st 8 → zUon x y ≤ d → (∀ d', zUon x y ≤ d' → d' < d → ¬ zMt (st 8) (rSt (rc x)) (rSh (rc x)) (rSt (rc y)) (rSh (rc y)) (st 8) d') → BX11_sameOver_7 G Z ad ln (nI x) (nI y) (nI d) al := by
    intro f
    induction f with
    | zero =>
      intro d hd hl hno
      refine uX11_sameOver_7 X _ _ hR _ al ?_
      unfold vcX11_sameOver_7
      have : d = st 8 := by omega
      subst this
      rw [h18]
      refine ⟨fun _ => ?_, fun z => absurd (Int32.le_refl _) z⟩
      rw [← hP]
      refine ⟨?_, rfl⟩
      have : zOvIs (st 8) (rSt (rc x)) (rSh (rc x)) (rSt (rc y)) (rSh (rc y)) (zUon x y) (st 8) (-1) := by
        refine Or.inl ⟨rfl, fun d' g1 g2 => ?_⟩
        by_cases q : d' < st 8
        · exact hno d' g1 q g2
        · obtain ⟨m, m1, m2, -⟩ := g2
          omega
      rw [zOvIs_uni isov this]
      rfl
    | succ f ih =>
      intro d hd hl hno
      refine uX11_sameOver_7 X _ _ hR _ al ?_
      unfold vcX11_sameOver_7
      rw [h18]
      refine ⟨fun z => absurd z (by rw [nI_leI (by omega) (by omega)]; omega), fun _ => ?_⟩
      have inner : ∀ (g m : Nat), m + g = st 8 - d → (∀ m', m' < m → ¬ (rSt (rc x) * (m' : Int) + rSh (rc x) = rSt (rc y) * ((m' + d : Nat) : Int) + rSh (rc y))) → BX11_sameOver_18 G Z ad ln (nI x) (nI y) (nI d) (nI m) al := by
        intro g
        induction g with
        | zero =>
          intro m hm hno2
          refine uX11_sameOver_18 X _ _ hR _ _ al ?_
          unfold vcX11_sameOver_18
          have ea : nI m + nI d = nI (m + d) := by rw [zI_n, zI_n, zI_n, zI_add]; congr 1
          rw [h18, ea, nI_1]
          refine ⟨fun _ => ih (d + 1) (by omega) (by omega) (fun d' g1 g2 g3 => ?_), fun z => absurd (by rw [nI_leI (by omega) (by omega)]; omega) z⟩
          by_cases q : d' = d
          · subst q
            obtain ⟨m', m1, m2, m3⟩ := g3
            exact hno2 m' (by omega) m3
          · exact hno d' g1 (by omega) g3
        | succ g ih2 =>
          intro m hm hno2
          refine uX11_sameOver_18 X _ _ hR _ _ al ?_
          unfold vcX11_sameOver_18
          have ea : nI m + nI d = nI (m + d) := by rw [zI_n, zI_n, zI_n, zI_add]; congr 1
          have r1 := rng hx kx m (by omega)
          have r2 := rng hy ky (m + d) (by omega)
          have v1 : vp_in (nI x) 49 := vp_in_nI (by omega) (by omega)
          have v2 : vp_in (nI y) 49 := vp_in_nI (by omega) (by omega)
          rw [h18, ea, nI_1, nI_1, nI_clamp (by omega), nI_clamp (by omega), x4, x5, y4, y5, sx, hx', sy, hy', zI_n m, zI_n (m + d), zI_mul, zI_mul, zI_add, zI_add, zI_eq ⟨by omega, by omega⟩ ⟨by omega, by omega⟩]
          refine ⟨fun z => absurd z (by rw [← zI_n, nI_leI (by omega) (by omega)]; omega), fun _ => ⟨v1, v1, v2, v2, fun q => ?_, fun q => ?_⟩⟩
          · refine ih2 (m + 1) (by omega) (fun m' hm' => ?_)
            by_cases q2 : m' = m
            · subst q2
              exact q
            · exact hno2 m' (by omega)
          · rw [← hP]
            refine ⟨?_, rfl⟩
            have : zOvIs (st 8) (rSt (rc x)) (rSh (rc x)) (rSt (rc y)) (rSh (rc y)) (zUon x y) (st 8) (d : Int) := by
              refine Or.inr ⟨d, rfl, hl, ⟨m, by omega, by omega, q⟩, fun d' g1 g2 => ?_⟩
              rcases Nat.lt_or_ge d' d with q3 | q3
              · exact absurd g2 (hno d' g1 q3)
              · exact q3
            rw [zOvIs_uni isov this, zI_n]
      exact inner (st 8 - d) 0 (by omega) (fun m' hm' => absurd hm' (by omega))
  refine uX11_sameOver_0 X _ _ hR al ?_
  unfold vcX11_sameOver_0
  refine (r_useOver G ad ln al (x := x) (y := y) (by omega) (by omega)).mono (fun q a hq => ?_)
  obtain ⟨rfl, e⟩ := hq
  obtain rfl := e.symm
  have : zUon x y ≤ 1 := by unfold zUon; split <;> omega
  exact outer (st 8 - zUon x y) (zUon x y) (by omega) (Nat.le_refl _) (fun d' g1 g2 => absurd g2 (by omega))
/-- the waits of the reference -/
def zWr (a : Nat → Nat → Int32) (W : List zWe) : Prop := a 0 28 = nI W.length ∧ ∀ i e, W[i]? = some e → a 12 i = nI e.1 ∧ a 13 i = nI e.2.1 ∧ a 14 i = nI e.2.2.1 ∧ a 15 i = nI e.2.2.2
def zMg (x y d t : Nat) : List zWe → List zWe
  | [] => [(x, y, d, t)]
  | e :: _ => if e.2.2.1 = d then [(x, y, d, max e.2.2.2 t)] else [e, (x, y, d, t)]
theorem r_wait {W : List zWe} {L : List zWe} (hW : zWr al (W ++ L)) (hm : (W ++ L).length < 4608) {x y d t : Nat} (hx : x < 48) (hy : y < 48) (hd : d ≤ 64) (ht : t ≤ 20) (hlast : ∀ e, W[W.length - 1]? = some e → ¬ (e.1 = x ∧ e.2.1 = y)) (hok : ∀ e ∈ W ++ L, e.1 < 48 ∧ e.2.1 < 48 ∧ e.2.2.1 ≤ 64 ∧ e.2.2.2 ≤ 20) (hL : L = [] ∨ ∃ d0 t0, L = [(x, y, d0, t0)]) : zMv G yX11_wait wsX11_wait rmX11_wait zTR ad ln [.ref (ad 0), .int (nI x), .int (nI y), .int (nI d), .int (nI t)] al (fun a => zFr [0, 12, 13, 14, 15] al a ∧ (∀ j, j ≠ 28 → a 0 j = al 0 j) ∧ zWr a (W ++ zMg x y d t L)) := by
  refine zMv.of (cc := cX11_wait) (nL := 6) (by decide) rfl (Nat.le_of_ble_eq_true rfl) (fun Z X hR => ?_)
  generalize hP : (fun (a : Nat → Nat → Int32) => zFr [0, 12, 13, 14, 15] al a ∧ (∀ j, j ≠ 28 → a 0 j = al 0 j) ∧ zWr a (W ++ zMg x y d t L)) = P at hR
  obtain ⟨h28, hWr⟩ := hW
  -- a new one
  have app : (∀ a, zFr [0, 12, 13, 14, 15] al a ∧ (∀ j, j ≠ 28 → a 0 j = al 0 j) ∧ zWr a ((W ++ L) ++ [(x, y, d, t)]) → P a) → vcX11_wait_75 G ad ln (nI x) (nI y) (nI d) (nI t) (BX11_wait_8 G Z ad ln (nI x) (nI y) (nI d) (nI t)) P al := by
    intro hp
    unfold vcX11_wait_75
    rw [h28, nI_clamp (by omega), nI_1]
    have v : vp_in (nI (W ++ L).length) 4608 := vp_in_nI hm (by omega)
    refine ⟨v, v, v, v, hp _ ⟨((((zFr.rf.up (by decide) _ _).up (by decide) _ _).up (by decide) _ _).up (by decide) _ _).up (by decide) _ _, fun j hj => ?_, ?_, fun i e hi => ?_⟩⟩
    · rw [up2_ne _ _ (fun z => hj z.2), up2_ne _ _ (fun z => absurd z.1 (by decide)), up2_ne _ _ (fun z => absurd z.1 (by decide)), up2_ne _ _ (fun z => absurd z.1 (by decide)), up2_ne _ _ (fun z => absurd z.1 (by decide))]
    · rw [up2_self]
      simp only [List.length_append, List.length_singleton]
    · by_cases q : i = (W ++ L).length
      · subst q
        rw [List.getElem?_append_right (Nat.le_refl _), Nat.sub_self] at hi
        injection hi with hi
        subst hi
        refine ⟨?_, ?_, ?_, ?_⟩ <;> simp [up2]
      · have hlt : i < (W ++ L).length := by
          have := (List.getElem?_eq_some_iff.mp hi).1
          simp only [List.length_append, List.length_singleton] at this q ⊢
          omega
        rw [List.getElem?_append_left hlt] at hi
        have := hWr i e hi
        refine ⟨?_, ?_, ?_, ?_⟩
        · simp only [up2]
          rw [if_neg (fun z => absurd z.1 (by decide)), if_neg (fun z => absurd z.1 (by decide)), if_neg (fun z => absurd z.1 (by decide)), if_neg (fun z => absurd z.1 (by decide)), if_neg (fun z => q z.2)]
          exact this.1
        · simp only [up2]
          rw [if_neg (fun z => absurd z.1 (by decide)), if_neg (fun z => absurd z.1 (by decide)), if_neg (fun z => absurd z.1 (by decide)), if_neg (fun z => q z.2), if_neg (fun z => absurd z.1 (by decide))]
          exact this.2.1
        · simp only [up2]
          rw [if_neg (fun z => absurd z.1 (by decide)), if_neg (fun z => absurd z.1 (by decide)), if_neg (fun z => q z.2), if_neg (fun z => absurd z.1 (by decide)), if_neg (fun z => absurd z.1 (by decide))]
          exact this.2.2.1
        · simp only [up2]
          rw [if_neg (fun z => absurd z.1 (by decide)), if_neg (fun z => q z.2), if_neg (fun z => absurd z.1 (by decide)), if_neg (fun z => absurd z.1 (by decide)), if_neg (fun z => absurd z.1 (by decide))]
          exact this.2.2.2
  -- the one before isn't of these rows
  have stop : (∀ a, zFr [0, 12, 13, 14, 15] al a ∧ (∀ j, j ≠ 28 → a 0 j = al 0 j) ∧ zWr a ((W ++ L) ++ [(x, y, d, t)]) → P a) → BX11_wait_8 G Z ad ln (nI x) (nI y) (nI d) (nI t) (zI ((W.length : Int) - 1)) al := by
    intro hp
    refine uX11_wait_8 X _ _ _ _ hR _ al ?_
    unfold vcX11_wait_8
    have hlen : W.length < 4608 := by simp only [List.length_append] at hm; omega
    rw [zI_0, zI_lt ⟨by omega, by omega⟩ ⟨by omega, by omega⟩]
    refine ⟨fun _ => app hp, fun q => ?_⟩
    have e1 : zI ((W.length : Int) - 1) = nI (W.length - 1) := by rw [zI_n]; congr 1; omega
    have hg : W[W.length - 1]? = some W[W.length - 1] := List.getElem?_eq_getElem (by omega)
    have hg2 : (W ++ L)[W.length - 1]? = some W[W.length - 1] := by rw [List.getElem?_append_left (by omega)]; exact hg
    have hw := hWr _ _ hg2
    have ho := hok _ (List.mem_of_getElem? hg2)
    have hl := hlast _ hg
    rw [e1, nI_clamp (by omega), hw.1, hw.2.1, nI_eq (by omega) (by omega), nI_eq (by omega) (by omega)]
    have v : vp_in (nI (W.length - 1)) 4608 := vp_in_nI (by omega) (by omega)
    exact ⟨v, fun _ => app hp, fun q1 => ⟨v, fun _ => app hp, fun q2 => absurd ⟨q1, q2⟩ hl⟩⟩
  refine uX11_wait_0 X _ _ _ _ hR al ?_
  unfold vcX11_wait_0
  rw [h28, zI_n (W ++ L).length, zI_1, zI_sub]
  rcases hL with rfl | ⟨d0, t0, rfl⟩
  · rw [List.append_nil] at *
    refine stop (fun a ha => ?_)
    rw [← hP]
    exact ha
  · have hlen : (W ++ [(x, y, d0, t0)]).length = W.length + 1 := by simp
    rw [hlen] at hm ⊢
    rw [show ((W.length + 1 : Nat) : Int) - 1 = (W.length : Int) by omega, ← zI_n]
    have hg2 : (W ++ [(x, y, d0, t0)])[W.length]? = some (x, y, d0, t0) := by rw [List.getElem?_append_right (Nat.le_refl _), Nat.sub_self]; rfl
    have hw := hWr _ _ hg2
    have ho := hok _ (List.mem_of_getElem? hg2)
    simp only at hw ho
    refine uX11_wait_8 X _ _ _ _ hR _ al ?_
    unfold vcX11_wait_8
    rw [nI_clamp (by omega), hw.1, hw.2.1, hw.2.2.1, hw.2.2.2, nI_eq (a := d0) (by omega) (by omega)]
    have v : vp_in (nI W.length) 4608 := vp_in_nI (by omega) (by omega)
    refine ⟨fun z => absurd z (by rw [show (0 : Int32) = nI 0 from rfl, nI_ltI (by omega) (by omega)]; omega), fun _ => ⟨v, fun z => absurd rfl z, fun _ => ⟨v, fun z => absurd rfl z, fun _ => ⟨v, fun q => ⟨v, v, ?_⟩, fun q => ?_⟩⟩⟩⟩
    · rw [← hP]
      refine ⟨zFr.rf.up (by decide) _ _, fun j _ => up2_ne _ _ (fun z => absurd z.1 (by decide)), ?_⟩
      unfold zMg
      simp only [if_pos q]
      refine ⟨?_, fun i e hi => ?_⟩
      · rw [up2_ne _ _ (fun z => absurd z.1 (by decide)), h28, hlen]
        simp
      · rw [up2_ne _ _ (fun z => absurd z.1 (by decide)), up2_ne _ _ (fun z => absurd z.1 (by decide)), up2_ne _ _ (fun z => absurd z.1 (by decide))]
        by_cases q2 : i = W.length
        · subst q2
          rw [List.getElem?_append_right (Nat.le_refl _), Nat.sub_self] at hi
          injection hi with hi
          subst hi
          refine ⟨hw.1, hw.2.1, by rw [← q]; exact hw.2.2.1, ?_⟩
          rw [up2_self]
          have hlt := nI_ltI (a := t0) (b := t) (by omega) (by omega)
          by_cases q3 : t0 < t
          · rw [if_pos (hlt.mpr q3)]
            simp only
            rw [Nat.max_eq_right (by omega)]
          · rw [if_neg (fun z => q3 (hlt.mp z))]
            simp only
            rw [Nat.max_eq_left (by omega)]
        · have hlt : i < W.length := by
            have := (List.getElem?_eq_some_iff.mp hi).1
            simp only [List.length_append, List.length_singleton] at this
            omega
          rw [List.getElem?_append_left hlt] at hi
          rw [up2_ne _ _ (fun z => q2 z.2)]
          exact hWr i e (by rw [List.getElem?_append_left hlt]; exact hi)
    · have e1 : nI W.length + -1 = zI ((W.length : Int) - 1) := by rw [zI_n, zI_m1, zI_add]; congr 1
      rw [e1]
      refine stop (fun a ha => ?_)
      rw [← hP]
      refine ⟨ha.1, ha.2.1, ?_⟩
      unfold zMg
      simp only [if_neg q]
      rw [List.append_assoc] at ha
      exact ha.2.2
end REFW
