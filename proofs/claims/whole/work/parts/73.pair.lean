/-! Waits: all the waits of a pair, and of the loop -/
/-- the class holds the loop and the settings -/
def zCl (a : Nat → Nat → Int32) (n : Nat) (rc : Nat → zRec) (st : Nat → Nat) : Prop := zRws a n rc ∧ (∀ j, j < 9 → a 2 j = nI (st j) ∧ 1 ≤ st j ∧ st j ≤ 64) ∧ (∀ j, j < 4 → 1 ≤ st j ∧ st j ≤ 20) ∧ (0 < n → ∀ j, j < 32 → a 6 j = zSv n rc j) ∧ zUq n rc
theorem zCl.fr {l : List Nat} {a a' : Nat → Nat → Int32} {n : Nat} {rc : Nat → zRec} {st : Nat → Nat} (h : zCl a n rc st) (hf : zFr l a a') (hl : ∀ x, x ∈ l → x ≠ 2 ∧ x ≠ 4 ∧ x ≠ 6 ∧ (x < 29 ∨ 173 ≤ x)) : zCl a' n rc st := by
  obtain ⟨h1, h2, h3, h4, h5⟩ := h
  refine ⟨h1.fr hf (fun z => (hl 4 z).2.1 rfl) (fun x hx => (hl x hx).2.2.2), ?_, h3, ?_, h5⟩
  · rw [hf 2 (fun z => (hl 2 z).1 rfl)]
    exact h2
  · rw [hf 6 (fun z => (hl 6 z).2.2.1 rfl)]
    exact h4
def zCpL : Nat → Nat → Nat → Nat
  | cap, _, 0 => cap
  | cap, len, k + 1 => zCpL (zCp cap (len + 1)) (len + 1) k
theorem zCp_ge (cap len : Nat) : cap ≤ zCp cap len := by
  unfold zCp
  split <;> omega
theorem zCpL_ge : ∀ (k cap len : Nat), cap ≤ zCpL cap len k
  | 0, cap, len => Nat.le_refl _
  | k + 1, cap, len => Nat.le_trans (zCp_ge cap (len + 1)) (zCpL_ge k _ _)
theorem zCpL_add : ∀ (j k cap len : Nat), zCpL cap len (j + k) = zCpL (zCpL cap len j) (len + j) k
  | 0, k, cap, len => by rw [Nat.zero_add]; rfl
  | j + 1, k, cap, len => by
    rw [show j + 1 + k = (j + k) + 1 by omega]
    show zCpL (zCp cap (len + 1)) (len + 1) (j + k) = zCpL (zCpL (zCp cap (len + 1)) (len + 1) j) (len + (j + 1)) k
    rw [zCpL_add j k (zCp cap (len + 1)) (len + 1), show len + 1 + j = len + (j + 1) by omega]
section PAIR
variable (G : zG) (r : Bool) (ad ln : Nat → Nat) (al : Nat → Nat → Int32) {cap : Nat} {L : List zWe} {n : Nat} {rc : Nat → zRec} {st : Nat → Nat}
theorem zCl.us {a : Nat → Nat → Int32} (h : zCl a n rc st) {x y : Nat} (hx : x < n) (hy : y < n) : (zSl n rc y = (x : Int) ∨ zSr2 n rc y = (x : Int)) ↔ zUsX rc x y = true := by
  have := zUsC_ok h.2.2.2.2 h.1.2.1 (fun x hx => (h.1.2.2 x hx).2) x y hx hy
  rw [← this]
  unfold zUsC zUsS
  exact ⟨fun z => decide_eq_true z, fun z => of_decide_eq_true z⟩
theorem q_source {n : Nat} (hn : n ≤ 48) (o : Nat) (ho : zOp r o) {s v : Int32} (hs : zOpOk s v) (e0 : al o 0 = s) (e1 : al o 1 = v) (h6 : ∀ j, j < 32 → al 6 j = zSv n rc j) : zMi G yX0_source wsX0_source rmX0_source (zTC r) ad ln [.ref (ad 4), .ref (ad o)] al (fun q a => q = zI (if s = 114 then zSvI n rc v.toNatClampNeg else -1) ∧ a = al) := by
  refine (c_source G r ad ln al o ho (fun z => by rw [e1]; exact (hs.v (by rw [← e0]; exact z)).2.2)).mono (fun q a hq => ?_)
  obtain ⟨rfl, rfl⟩ := hq
  refine ⟨?_, rfl⟩
  rw [e0, e1]
  by_cases q : s = 114
  · obtain ⟨o1, o2, o3⟩ := hs.v q
    rw [if_pos q, if_pos q, h6 _ o1]
    unfold zSvI
    exact zI_of _
  · rw [if_neg q, if_neg q]
    rfl
theorem c_addPair (h : zCl al n rc st) (hw : zWc al ln cap L) {x y : Nat} (hx : x < n) (hy : y < n) (hL : L.length + 2 ≤ 4608) {cap' : Nat} (hc : zCpL cap L.length (zPair (st 8) rc st x y).length = cap') : zMgv G yX8_addPair wsX8_addPair (rmX8_addPair (cap' - cap) (8 * (cap' - cap))) (zTC r, ad, ln, al) [.ref (ad 12), .int (nI x), .int (nI y)] (fun u => u.1 = zTC r ∧ zGr ad ln u.2.1 u.2.2.1 ∧ zFr [12, 13, 14, 15, 16] al u.2.2.2 ∧ (∀ j, j ≠ 2 → u.2.2.2 12 j = al 12 j) ∧ zWc u.2.2.2 u.2.2.1 cap' (L ++ zPair (st 8) rc st x y)) := by
  refine zMgv.of (cc := cX8_addPair) (nL := 10) (by decide) rfl (Nat.le_of_ble_eq_true rfl) (fun Z X hR => ?_)
  show zB G Z (rmX8_addPair (cap' - cap) (8 * (cap' - cap))) 10 (zTC r) ad ln 0 0 0 [(0, .ref (ad 12)), (1, .int (nI x)), (2, .int (nI y))] [] al
  have hn := h.1.2.1
  obtain ⟨px, hrx⟩ := (h.1.2.2 x hx).1
  obtain ⟨py, hry⟩ := (h.1.2.2 y hy).1
  have okx := (h.1.2.2 x hx).2
  have oky := (h.1.2.2 y hy).2
  have h6 := h.2.2.2.1 (by omega)
  obtain ⟨kx1, kx2⟩ := rKd_ok okx
  have htm : al 2 (al (29 + 3 * x) 0).toNatClampNeg = nI (zTm rc st x) := by
    rw [hrx.1, kx2, nI_clamp (by omega), (h.2.1 _ (by omega)).1]
    rfl
  have tmr := h.2.2.1 _ kx1
  have tmr' : 1 ≤ zTm rc st x ∧ zTm rc st x ≤ 20 := tmr
  have pdr : zPd rc st x y ≤ 20 := by
    unfold zPd
    split
    · split <;> omega
    · omega
  have por := zPo_rng (R := st 8) (rc := rc) x y
  have h8 := h.2.1 8 (by omega)
  have uon : zUon x y ≤ 1 := by unfold zUon; split <;> omega
  -- a last add
  have fin : ∀ pcA, decode cX8_addPair pcA = .ok (.invokevirtual 104, 3) → decode cX8_addPair (pcA + 3) = .ok (.return_, 1) → ∀ (ad1 ln1 : Nat → Nat) (a1 : Nat → Nat → Int32) (cap1 : Nat) (L1 : List zWe) (d t : Nat) (lv : List (Nat × Value)), zGr ad ln ad1 ln1 → zFr [12, 13, 14, 15, 16] al a1 → (∀ j, j ≠ 2 → a1 12 j = al 12 j) → zWc a1 ln1 cap1 L1 → cap ≤ cap1 → L1.length < 4608 → L1 ++ [(x, y, d, t)] = L ++ zPair (st 8) rc st x y → zCp cap1 (L1.length + 1) = cap' → zB G Z (rmX8_addPair (cap' - cap) (8 * (cap' - cap))) 10 (zTC r) ad1 ln1 (cap1 - cap) (8 * (cap1 - cap)) pcA lv [.int (nI t), .int (nI d), .int (nI y), .int (nI x), .ref (ad1 12)] a1 := by
    intro pcA dA dR ad1 ln1 a1 cap1 L1 d t lv hg hf hj hw1 hcc hl1 hLL hcp
    have ge := zCp_ge cap1 (L1.length + 1)
    refine zb_callVgv (n := 4) X 12 (zTC_lt (by decide)) 8 [6, 4, 0, 15, 16, 17, 18, 19, 0, 0] rfl (C := RX8) (Tt := TX8) (N := 10) rfl (c_add G r ad1 ln1 a1 hw1 hl1 (x := x) (y := y) (d := d) (t := t)) gX8_addPair_X8_add rfl (by decide +kernel) ⟨⟨Nat.le_of_ble_eq_true rfl, Nat.le_of_ble_eq_true rfl⟩, ?_, ?_⟩ rfl rfl (Nat.le_of_ble_eq_true rfl) dA (kc' := cap' - cap) (ks' := 8 * (cap' - cap)) ?_ ?_ (fun u hu => ?_)
    · show cap1 - cap + (zCp cap1 (L1.length + 1) - cap1) ≤ cap' - cap
      omega
    · show 8 * (cap1 - cap) + 8 * (zCp cap1 (L1.length + 1) - cap1) ≤ 8 * (cap' - cap)
      omega
    · show cap1 - cap + (zCp cap1 (L1.length + 1) - cap1) = cap' - cap
      omega
    · show 8 * (cap1 - cap) + 8 * (zCp cap1 (L1.length + 1) - cap1) = 8 * (cap' - cap)
      omega
    · obtain ⟨T', ad', ln', a'⟩ := u
      obtain ⟨rfl, u2, u3, u4, u5⟩ := hu
      rw [hLL, hcp] at u5
      exact hR (zTC r) ad' ln' (pcA + 3) lv a' dR ⟨rfl, hg.tr u2, hf.tr u3, fun j hj' => (u4 j hj').trans (hj j hj'), u5⟩
  -- the second add, or none
  have restF : ∀ (ad1 ln1 : Nat → Nat) (a1 : Nat → Nat → Int32) (cap1 : Nat) (L1 : List zWe) (kc ks : Nat) (hkc : kc ≤ cap' - cap) (hks : ks ≤ 8 * (cap' - cap)), kc = cap1 - cap → ks = 8 * (cap1 - cap) → zGr ad ln ad1 ln1 → zFr [12, 13, 14, 15, 16] al a1 → (∀ j, j ≠ 2 → a1 12 j = al 12 j) → zWc a1 ln1 cap1 L1 → cap ≤ cap1 → L1.length < 4608 → L1 ++ (if 0 ≤ zPo (st 8) rc x y then [(x, y, (zPo (st 8) rc x y).toNat, zPd rc st x y)] else []) = L ++ zPair (st 8) rc st x y → zCpL cap1 L1.length (if 0 ≤ zPo (st 8) rc x y then [(x, y, (zPo (st 8) rc x y).toNat, zPd rc st x y)] else ([] : List zWe)).length = cap' → vcX8_addPair_159 G r ad1 ln1 (cap' - cap) (8 * (cap' - cap)) kc ks hkc hks (nI x) (nI y) (BX8_addPair_140 G Z r ad1 ln1 (cap' - cap) (8 * (cap' - cap)) kc ks hkc hks (nI x) (nI y)) (BX8_addPair_156 G Z r ad1 ln1 (cap' - cap) (8 * (cap' - cap)) kc ks hkc hks (nI x) (nI y)) (BX8_addPair_171 G Z r ad1 ln1 (cap' - cap) (8 * (cap' - cap)) kc ks hkc hks (nI x) (nI y)) (fun a => zTC r = zTC r ∧ zGr ad ln ad1 ln1 ∧ zFr [12, 13, 14, 15, 16] al a ∧ (∀ j, j ≠ 2 → a 12 j = al 12 j) ∧ zWc a ln1 cap' (L ++ zPair (st 8) rc st x y)) (zI (zPo (st 8) rc x y)) (nI (zPd rc st x y)) a1 := by
    intro ad1 ln1 a1 cap1 L1 kc ks hkc hks ekc eks hg hf hj hw1 hcc hl1 hLL hcp
    subst ekc
    subst eks
    unfold vcX8_addPair_159
    rw [zI_0, zI_lt ⟨by omega, by omega⟩ ⟨by omega, by omega⟩]
    refine ⟨fun z => ?_, fun z => ?_⟩
    · rw [if_neg (by omega), List.append_nil] at hLL
      rw [if_neg (by omega)] at hcp
      have hcp' : cap1 = cap' := hcp
      rw [hLL, hcp'] at hw1
      exact ⟨rfl, hg, hf, hj, hw1⟩
    · rw [if_pos (by omega)] at hLL hcp
      have hcp' : zCp cap1 (L1.length + 1) = cap' := hcp
      have e : zI (zPo (st 8) rc x y) = nI (zPo (st 8) rc x y).toNat := by rw [zI_n]; congr 1; omega
      rw [e]
      exact fin 171 dX8_addPair_171 dX8_addPair_174 ad1 ln1 a1 cap1 L1 _ _ _ hg hf hj hw1 hcc hl1 hLL hcp'
  have rest : ∀ (ad1 ln1 : Nat → Nat) (a1 : Nat → Nat → Int32) (cap1 : Nat) (L1 : List zWe), zGr ad ln ad1 ln1 → zFr [12, 13, 14, 15, 16] al a1 → (∀ j, j ≠ 2 → a1 12 j = al 12 j) → zWc a1 ln1 cap1 L1 → cap ≤ cap1 → L1.length < 4608 → L1 ++ (if 0 ≤ zPo (st 8) rc x y then [(x, y, (zPo (st 8) rc x y).toNat, zPd rc st x y)] else []) = L ++ zPair (st 8) rc st x y → zCpL cap1 L1.length (if 0 ≤ zPo (st 8) rc x y then [(x, y, (zPo (st 8) rc x y).toNat, zPd rc st x y)] else ([] : List zWe)).length = cap' → zB G Z (rmX8_addPair (cap' - cap) (8 * (cap' - cap))) 10 (zTC r) ad1 ln1 (cap1 - cap) (8 * (cap1 - cap)) 159 [(0, .ref (ad1 12)), (1, .int (nI x)), (2, .int (nI y)), (8, .int (zI (zPo (st 8) rc x y))), (9, .int (nI (zPd rc st x y)))] [] a1 := by
    intro ad1 ln1 a1 cap1 L1 hg hf hj hw1 hcc hl1 hLL hcp
    have ge : cap1 ≤ cap' := by rw [← hcp]; exact zCpL_ge _ _ _
    exact uX8_addPair_159 X (cap' - cap) (8 * (cap' - cap)) (cap1 - cap) (8 * (cap1 - cap)) (by omega) (by omega) (nI x) (nI y) (hR (zTC r) ad1 ln1) _ _ a1 (restF ad1 ln1 a1 cap1 L1 _ _ _ _ rfl rfl hg hf hj hw1 hcc hl1 hLL hcp)
  -- the calls that both ways have in common
  have po : ∀ l : Nat, l = zUon x y → zMi G yX8_placesOver wsX8_placesOver rmX8_placesOver (zTC r) ad ln [.ref (ad 12), .ref (ad (29 + 3 * x)), .ref (ad (29 + 3 * y)), .int (nI l)] al (fun q a => q = zI (zPo (st 8) rc x y) ∧ a = al) := by
    intro l hl
    obtain ⟨-, -, -, -, -, ⟨s1, b1, e1⟩, ⟨t1, c1, f1⟩, -⟩ := okx
    obtain ⟨-, -, -, -, -, ⟨s2, b2, e2⟩, ⟨t2, c2, f2⟩, -⟩ := oky
    have r1 : rSt (rc x) = s1 := by unfold rSt; rw [e1, zI_toInt ⟨by omega, by omega⟩]
    have r2 : rSh (rc x) = t1 := by unfold rSh; rw [f1, zI_toInt ⟨by omega, by omega⟩]
    have r3 : rSt (rc y) = s2 := by unfold rSt; rw [e2, zI_toInt ⟨by omega, by omega⟩]
    have r4 : rSh (rc y) = t2 := by unfold rSh; rw [f2, zI_toInt ⟨by omega, by omega⟩]
    refine (c_placesOver G r ad ln al x y (by omega) (by omega) (R := st 8) (l := l) (s1 := s1) (h1 := t1) (s2 := s2) (h2 := t2) h8.2 (by omega) h8.1 b1 c1 b2 c2 (by rw [hrx.2.2.2.2.2.1]; exact e1) (by rw [hrx.2.2.2.2.2.2.1]; exact f1) (by rw [hry.2.2.2.2.2.1]; exact e2) (by rw [hry.2.2.2.2.2.2.1]; exact f2)).mono (fun q a hq => ?_)
    obtain ⟨rfl, rfl⟩ := hq
    refine ⟨?_, rfl⟩
    unfold zPo
    rw [hrx.2.2.2.2.1, hry.2.2.2.2.1, hrx.1, hry.1, r1, r2, r3, r4, ← hl]
    split <;> rfl
  have pd : zMi G yX8_placesDelay wsX8_placesDelay rmX8_placesDelay (zTC r) ad ln [.ref (ad (29 + 3 * x)), .ref (ad (29 + 3 * y)), .int (nI (zTm rc st x))] al (fun q a => q = nI (zPd rc st x y) ∧ a = al) := by
    refine (c_placesDelay G r ad ln al x y (by omega) (by omega) _).mono (fun q a hq => ?_)
    obtain ⟨rfl, rfl⟩ := hq
    refine ⟨?_, rfl⟩
    rw [hrx.1, hry.1]
    unfold zPd
    split
    · split <;> rfl
    · rfl
  have hrou : zMi G yX9_roundsOfUse wsX9_roundsOfUse rmX9_roundsOfUse (zTC r) ad ln [.int (nI x), .int (nI y)] al (fun q a => q = nI (zUon x y) ∧ a = al) := by
    have := c_roundsOfUse G r ad ln al (x := (x : Int)) (y := (y : Int)) ⟨by omega, by omega⟩ ⟨by omega, by omega⟩
    rw [← zI_n, ← zI_n] at this
    refine this.mono (fun q a hq => ?_)
    obtain ⟨rfl, rfl⟩ := hq
    refine ⟨?_, rfl⟩
    unfold zUon
    by_cases q : x < y
    · rw [if_pos q, if_pos (by omega)]
      rfl
    · rw [if_neg q, if_neg (by omega)]
      rfl
  have len1 : zUsX rc x y = true → zPair (st 8) rc st x y = if zPo (st 8) rc x y = (zUon x y : Int) then [(x, y, zUon x y, max (zTm rc st x) (zPd rc st x y))] else [(x, y, zUon x y, zTm rc st x)] ++ (if 0 ≤ zPo (st 8) rc x y then [(x, y, (zPo (st 8) rc x y).toNat, zPd rc st x y)] else []) := by
    intro hu
    unfold zPair
    by_cases q : zPo (st 8) rc x y = (zUon x y : Int)
    · rw [if_pos ⟨hu, q⟩, if_pos q]
    · rw [if_neg (fun z => q z.2), if_neg q, if_pos hu]
  -- it uses
  have yes : zUsX rc x y = true → ∀ (q8 q6 q9 : Int32), q6 = nI (zUon x y) → q8 = zI (zPo (st 8) rc x y) → q9 = nI (zPd rc st x y) → (¬ q6 = q8 → BX8_addPair_156 G Z r ad ln (cap' - cap) (8 * (cap' - cap)) 0 0 (by omega) (by omega) (nI x) (nI y) q8 q9 (nI (zTm rc st x)) q6 (nI y) (nI x) al) ∧ (q6 = q8 → BX8_addPair_140 G Z r ad ln (cap' - cap) (8 * (cap' - cap)) 0 0 (by omega) (by omega) (nI x) (nI y) (if nI (zTm rc st x) < q9 then q9 else nI (zTm rc st x)) q6 (nI y) (nI x) al) := by
    intro hu q8 q6 q9 e6 e8 e9
    subst e6
    subst e8
    subst e9
    have hp := len1 hu
    rw [zI_n (zUon x y), zI_eq ⟨by omega, by omega⟩ ⟨by omega, by omega⟩, ← zI_n (zUon x y)]
    refine ⟨fun z => ?_, fun z => ?_⟩
    · rw [if_neg (fun y => z y.symm)] at hp
      have hpl : (zPair (st 8) rc st x y).length = 1 + (if 0 ≤ zPo (st 8) rc x y then [(x, y, (zPo (st 8) rc x y).toNat, zPd rc st x y)] else ([] : List zWe)).length := by rw [hp, List.length_append]; rfl
      rw [hpl, zCpL_add] at hc
      have hc' : zCpL (zCp cap (L.length + 1)) (L.length + 1) (if 0 ≤ zPo (st 8) rc x y then [(x, y, (zPo (st 8) rc x y).toNat, zPd rc st x y)] else ([] : List zWe)).length = cap' := hc
      have ge1 : zCp cap (L.length + 1) ≤ cap' := by rw [← hc']; exact zCpL_ge _ _ _
      have ge0 := zCp_ge cap (L.length + 1)
      refine zb_callVgv (n := 4) X 12 (zTC_lt (by decide)) 8 [6, 4, 0, 15, 16, 17, 18, 19, 0, 0] rfl (C := RX8) (Tt := TX8) (N := 10) rfl (c_add G r ad ln al hw (by omega) (x := x) (y := y) (d := zUon x y) (t := zTm rc st x)) gX8_addPair_X8_add rfl (by decide +kernel) ⟨⟨Nat.le_of_ble_eq_true rfl, Nat.le_of_ble_eq_true rfl⟩, ?_, ?_⟩ rfl rfl (Nat.le_of_ble_eq_true rfl) dX8_addPair_156 (kc' := zCp cap (L.length + 1) - cap) (ks' := 8 * (zCp cap (L.length + 1) - cap)) (Nat.zero_add _) (Nat.zero_add _) (fun u hu2 => ?_)
      · show 0 + (zCp cap (L.length + 1) - cap) ≤ cap' - cap
        omega
      · show 0 + 8 * (zCp cap (L.length + 1) - cap) ≤ 8 * (cap' - cap)
        omega
      · obtain ⟨T', ad', ln', a'⟩ := u
        obtain ⟨rfl, u2, u3, u4, u5⟩ := hu2
        have e12 : ad' 12 = ad 12 := (u2 12 (by decide)).1
        rw [← e12]
        refine rest ad' ln' a' _ _ u2 u3 u4 u5 ge0 (by rw [List.length_append]; show L.length + 1 < 4608; omega) ?_ ?_
        · rw [hp, ← List.append_assoc]
        · rw [List.length_append]
          exact hc'
    · rw [if_pos z.symm] at hp
      have e5 : (if nI (zTm rc st x) < nI (zPd rc st x y) then nI (zPd rc st x y) else nI (zTm rc st x)) = nI (max (zTm rc st x) (zPd rc st x y)) := by
        by_cases q : zTm rc st x < zPd rc st x y
        · rw [if_pos ((nI_ltI (by omega) (by omega)).mpr q), Nat.max_eq_right (by omega)]
        · rw [if_neg (fun y => q ((nI_ltI (by omega) (by omega)).mp y)), Nat.max_eq_left (by omega)]
      rw [e5]
      have hpl : (zPair (st 8) rc st x y).length = 1 := by rw [hp]; rfl
      rw [hpl] at hc
      have := fin 140 dX8_addPair_140 dX8_addPair_143 ad ln al cap L (zUon x y) (max (zTm rc st x) (zPd rc st x y)) [] zGr.rf zFr.rf (fun _ _ => rfl) hw (Nat.le_refl _) (by omega) (by rw [hp]) hc
      rw [Nat.sub_self, Nat.mul_zero] at this
      exact this
  refine uX8_addPair_0 X (cap' - cap) (8 * (cap' - cap)) 0 0 (by omega) (by omega) (nI x) (nI y) (hR (zTC r) ad ln) al ?_
  unfold vcX8_addPair_0
  have v48x : vp_in (nI x) 48 := vp_in_nI (by omega) (by omega)
  have v48y : vp_in (nI y) 48 := vp_in_nI (by omega) (by omega)
  rw [nI_clamp (show x < 2147483648 by omega), nI_clamp (show y < 2147483648 by omega)]
  refine ⟨v48x, v48y, ?_, ?_⟩
  · rw [hrx.1, kx2]
    exact vp_in_nI (by omega) (by omega)
  have slr : ∀ s v : Int32, zOpOk s v → -1 ≤ (if s = 114 then zSvI n rc v.toNatClampNeg else -1) ∧ (if s = 114 then zSvI n rc v.toNatClampNeg else -1) < 48 := by
    intro s v ho
    split
    · rcases zSv_rng n rc v.toNatClampNeg with ⟨g1, g2⟩ | ⟨x', g1, g2, g3, g4⟩
      · unfold zSvI
        omega
      · have := g3 hn
        unfold zSvI
        omega
    · omega
  have sll := slr _ _ oky.2.2.2.2.2.2.2.1
  have srr := slr _ _ oky.2.2.2.2.2.2.2.2.1
  have order : nI y ≤ nI x ↔ ¬ x < y := by rw [nI_leI (by omega) (by omega)]; omega
  rw [htm, order]
  have u1 : ¬ x < y → (1 : Int32) = nI (zUon x y) := fun z => by unfold zUon; rw [if_neg z]; rfl
  have u0 : x < y → (0 : Int32) = nI (zUon x y) := fun z => by unfold zUon; rw [if_pos z]; rfl
  refine (q_source G r ad ln al hn _ (zOp_l r (by omega)) oky.2.2.2.2.2.2.2.1 hry.2.2.2.2.2.2.2.1 hry.2.2.2.2.2.2.2.2.1 h6).mono (fun q3 a3 hq => ?_)
  obtain ⟨rfl, e3⟩ := hq
  obtain rfl := e3.symm
  rw [zI_n x, zI_eq ⟨by omega, by omega⟩ ⟨by omega, by omega⟩, ← zI_n x]
  have slE : zSl n rc y = (if (rc y).2.2.2.2.2.2.1 = 114 then zSvI n rc (rc y).2.2.2.2.2.2.2.1.toNatClampNeg else -1) := rfl
  have srE : zSr2 n rc y = (if (rc y).2.2.2.2.2.2.2.2.1 = 114 then zSvI n rc (rc y).2.2.2.2.2.2.2.2.2.toNatClampNeg else -1) := rfl
  refine ⟨fun c3 => ?_, fun c3 => ?_⟩
  · have hu : zUsX rc x y = true := (h.us hx hy).mp (Or.inl c3)
    refine hrou.mono (fun q6 a6 hq => ?_)
    obtain ⟨rfl, e6⟩ := hq
    obtain rfl := e6.symm
    refine ⟨fun c6 => ?_, fun c6 => ?_⟩
    · rw [u1 c6]
      refine (po _ rfl).mono (fun q8 a8 hq => ?_)
      obtain ⟨rfl, e8⟩ := hq
      obtain rfl := e8.symm
      refine pd.mono (fun q9 a9 hq => ?_)
      obtain ⟨rfl, e9⟩ := hq
      obtain rfl := e9.symm
      exact yes hu _ _ _ rfl rfl rfl
    · rw [u0 (Decidable.byContradiction c6)]
      refine (po _ rfl).mono (fun q8 a8 hq => ?_)
      obtain ⟨rfl, e8⟩ := hq
      obtain rfl := e8.symm
      refine pd.mono (fun q9 a9 hq => ?_)
      obtain ⟨rfl, e9⟩ := hq
      obtain rfl := e9.symm
      exact yes hu _ _ _ rfl rfl rfl
  · refine (q_source G r ad ln al hn _ (zOp_r r (by omega)) oky.2.2.2.2.2.2.2.2.1 hry.2.2.2.2.2.2.2.2.2.1 hry.2.2.2.2.2.2.2.2.2.2 h6).mono (fun q4 a4 hq => ?_)
    obtain ⟨rfl, e4⟩ := hq
    obtain rfl := e4.symm
    rw [zI_n x, zI_eq ⟨by omega, by omega⟩ ⟨by omega, by omega⟩, ← zI_n x]
    refine ⟨fun c4 => ?_, fun c4 => ?_⟩
    · have hu : ¬ zUsX rc x y = true := fun z => ((h.us hx hy).mpr z).elim c3 c4
      have hp : zPair (st 8) rc st x y = (if 0 ≤ zPo (st 8) rc x y then [(x, y, (zPo (st 8) rc x y).toNat, zPd rc st x y)] else []) := by
        unfold zPair
        rw [if_neg (fun z => hu z.1), if_neg hu, List.nil_append]
      have hc' := hc
      rw [hp] at hc'
      refine ⟨fun c6 => ?_, fun c6 => ?_⟩
      · rw [u1 c6]
        refine (po _ rfl).mono (fun q8 a8 hq => ?_)
        obtain ⟨rfl, e8⟩ := hq
        obtain rfl := e8.symm
        refine pd.mono (fun q9 a9 hq => ?_)
        obtain ⟨rfl, e9⟩ := hq
        obtain rfl := e9.symm
        exact restF ad ln al cap L 0 0 _ _ (by omega) (by omega) zGr.rf zFr.rf (fun _ _ => rfl) hw (Nat.le_refl _) (by omega) (by rw [hp]) hc'
      · rw [u0 (Decidable.byContradiction c6)]
        refine (po _ rfl).mono (fun q8 a8 hq => ?_)
        obtain ⟨rfl, e8⟩ := hq
        obtain rfl := e8.symm
        refine pd.mono (fun q9 a9 hq => ?_)
        obtain ⟨rfl, e9⟩ := hq
        obtain rfl := e9.symm
        exact restF ad ln al cap L 0 0 _ _ (by omega) (by omega) zGr.rf zFr.rf (fun _ _ => rfl) hw (Nat.le_refl _) (by omega) (by rw [hp]) hc'
    · have hu : zUsX rc x y = true := (h.us hx hy).mp (Or.inr c4)
      refine hrou.mono (fun q6 a6 hq => ?_)
      obtain ⟨rfl, e6⟩ := hq
      obtain rfl := e6.symm
      refine ⟨fun c6 => ?_, fun c6 => ?_⟩
      · rw [u1 c6]
        refine (po _ rfl).mono (fun q8 a8 hq => ?_)
        obtain ⟨rfl, e8⟩ := hq
        obtain rfl := e8.symm
        refine pd.mono (fun q9 a9 hq => ?_)
        obtain ⟨rfl, e9⟩ := hq
        obtain rfl := e9.symm
        exact yes hu _ _ _ rfl rfl rfl
      · rw [u0 (Decidable.byContradiction c6)]
        refine (po _ rfl).mono (fun q8 a8 hq => ?_)
        obtain ⟨rfl, e8⟩ := hq
        obtain rfl := e8.symm
        refine pd.mono (fun q9 a9 hq => ?_)
        obtain ⟨rfl, e9⟩ := hq
        obtain rfl := e9.symm
        exact yes hu _ _ _ rfl rfl rfl
/-- all the waits, and what follows for the distance -/
def zLrn (a : Nat → Nat → Int32) (ln : Nat → Nat) (n : Nat) (rc : Nat → zRec) (st : Nat → Nat) (cap : Nat) : Prop := zWc a ln cap (zWL n rc st) ∧ a 12 8 = nI (zLu (fun x => rKd (rc x)) st n 4) ∧ a 12 9 = nI (zCi n rc st)
theorem zWc.wt {a : Nat → Nat → Int32} {ln : Nat → Nat} (h : zWc a ln cap (zWL n rc st)) (g : zGd n rc st) (h63 : ∀ i, i < (zWL n rc st).length → wO (zWL n rc st) i ≤ 63) : zWt a ln n (zWL n rc st).length (wF (zWL n rc st)) (wT (zWL n rc st)) (wO (zWL n rc st)) (wD (zWL n rc st)) := by
  obtain ⟨w1, w2, ⟨w3, w4, w5, w6⟩, w7, w8⟩ := h
  obtain ⟨m1, m2⟩ := zWL_ok g
  refine ⟨w1, m1, g.2.1, by omega, by omega, fun i hi => ⟨w8 i _ (wG hi), ?_⟩⟩
  obtain ⟨a, b, c, d, e⟩ := m2 i hi
  exact ⟨a, b, h63 i hi, d⟩
end PAIR
