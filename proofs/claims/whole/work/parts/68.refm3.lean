/-! THE REFERENCE: set, row, delay, lay -/
/-- a setting that can be -/
def zStOk (p v : Int32) : Prop := zIx p 9 ∧ ¬ v < 1 ∧ v ≤ zSL p.toNatClampNeg
def zStU (st : Nat → Nat) (m w : Nat) : Nat → Nat := fun j => if j = m then w else st j
theorem zStU_p {st : Nat → Nat} {m w j : Nat} (h : j = m) : zStU st m w j = w := if_pos h
theorem zStU_n {st : Nat → Nat} {m w j : Nat} (h : ¬ j = m) : zStU st m w j = st j := if_neg h
/-- what a row is asked for -/
noncomputable def zRwV (n : Nat) (rc : Nat → zRec) (st : Nat → Nat) (us : Nat → Nat → Bool) (D x k : Nat) : Int :=
  if k = 0 then zCy n rc st D x else if k = 1 then zHt n rc st D x else if k = 2 then (match lF n rc st us D with
    | some (_, off) => off x
    | none => 0) else if k = 3 then lB n rc st us D x else lE n rc st us D x
section REFM3
variable (G : zG) (ad ln : Nat → Nat) (al : Nat → Nat → Int32) {len : Nat} {ty : Nat → Int32} {st : Nat → Nat} {bg : Nat → Int32} {n : Nat} {rc : Nat → zRec} {re : Int32} {D : Nat} {ran : Bool} {rg ce : Nat → Int32}
theorem zIR.set {a a' : Nat → Nat → Int32} {st' : Nat → Nat} (h : zIR a ln len ty st bg n rc re 0 false rg ce) (hf : zFr [0, 11] a a') (h0 : ∀ j, (j < 18 ∨ 22 < j) → a' 0 j = a 0 j) (hs : zRst a' st') : zIR a' ln len ty st' bg n rc re 0 false rg ce := by
  obtain ⟨g1, g2, g3, g4, g5, g6, g7, g8, g9, g10, g11, g12⟩ := h
  refine ⟨?_, hs, ?_, g4.fr hf (h0 9 (by omega)) (by decide), g5, ?_, ?_, ?_, Or.inl rfl, ?_, (fun hr => by cases hr), g12⟩
  · rw [h0 11 (by omega), hf 10 (by decide)]
    exact g1
  · rw [hf 24 (by decide)]
    exact g3
  · rw [h0 46 (by omega)]
    exact g6
  · rw [h0 48 (by omega)]
    exact g7
  · rw [h0 33 (by omega)]
    exact g8
  · rw [h0 47 (by omega)]
    exact g10
theorem zRst.set {a : Nat → Nat → Int32} (h : zRst a st) {m w k j : Nat} (hm : m < 9) (hw : 1 ≤ w ∧ w ≤ 64 ∧ (m < 4 → w ≤ 20)) (hk : (m < 4 ∧ k = 11 ∧ j = m) ∨ (k = 0 ∧ ((m = 4 ∧ j = 20) ∨ (m = 5 ∧ j = 21) ∨ (m = 6 ∧ j = 22) ∨ (m = 7 ∧ j = 19) ∨ (m = 8 ∧ j = 18)))) : zRst (up2 a k j (nI w)) (zStU st m w) := by
  obtain ⟨h1, ⟨h4, h5, h6, h7, h8⟩, h9⟩ := h
  refine ⟨fun i hi => ?_, ⟨?_, ?_, ?_, ?_, ?_⟩, fun i hi => ?_⟩
  · by_cases e : i = m
    · subst e
      rw [zStU_p rfl]
      have : k = 11 ∧ j = i := by omega
      obtain ⟨rfl, rfl⟩ := this
      exact ⟨up2_self _ _ _ _, hw.1, hw.2.2 hi⟩
    · rw [zStU_n e, up2_ne _ _ (fun z => by omega)]
      exact h1 i hi
  · by_cases e : 4 = m
    · rw [zStU_p e]
      have : k = 0 ∧ j = 20 := by omega
      obtain ⟨rfl, rfl⟩ := this
      exact up2_self _ _ _ _
    · rw [zStU_n e, up2_ne _ _ (fun z => by omega)]
      exact h4
  · by_cases e : 5 = m
    · rw [zStU_p e]
      have : k = 0 ∧ j = 21 := by omega
      obtain ⟨rfl, rfl⟩ := this
      exact up2_self _ _ _ _
    · rw [zStU_n e, up2_ne _ _ (fun z => by omega)]
      exact h5
  · by_cases e : 6 = m
    · rw [zStU_p e]
      have : k = 0 ∧ j = 22 := by omega
      obtain ⟨rfl, rfl⟩ := this
      exact up2_self _ _ _ _
    · rw [zStU_n e, up2_ne _ _ (fun z => by omega)]
      exact h6
  · by_cases e : 7 = m
    · rw [zStU_p e]
      have : k = 0 ∧ j = 19 := by omega
      obtain ⟨rfl, rfl⟩ := this
      exact up2_self _ _ _ _
    · rw [zStU_n e, up2_ne _ _ (fun z => by omega)]
      exact h7
  · by_cases e : 8 = m
    · rw [zStU_p e]
      have : k = 0 ∧ j = 18 := by omega
      obtain ⟨rfl, rfl⟩ := this
      exact up2_self _ _ _ _
    · rw [zStU_n e, up2_ne _ _ (fun z => by omega)]
      exact h8
  · by_cases e : i = m
    · rw [zStU_p e]
      omega
    · rw [zStU_n e]
      exact h9 i hi
theorem r_set (h : zIR al ln len ty st bg n rc re D ran rg ce) (p v : Int32) : zMi G yX11_set wsX11_set rmX11_set zTR ad ln [.ref (ad 0), .int p, .int v] al (fun q a => (¬ zStOk p v → a 0 50 = 1 ∧ zIR a ln len ty st bg n rc re D ran rg ce) ∧ (zStOk p v → a 0 50 = 0 ∧ q = nI (st p.toNatClampNeg) ∧ zIR a ln len ty (zStU st p.toNatClampNeg v.toNatClampNeg) bg n rc re 0 false rg ce)) := by
  refine zMi.of (cc := cX11_set) (nL := 5) (rt := .int) (by decide) rfl (Nat.le_of_ble_eq_true rfl) (fun Z X hR => ?_)
  refine tX11_set_0 X _ _ hR al ?_
  generalize hP : (fun (q : Int32) (a : Nat → Nat → Int32) => (¬ zStOk p v → a 0 50 = 1 ∧ zIR a ln len ty st bg n rc re D ran rg ce) ∧ (zStOk p v → a 0 50 = 0 ∧ q = nI (st p.toNatClampNeg) ∧ zIR a ln len ty (zStU st p.toNatClampNeg v.toNatClampNeg) bg n rc re 0 false rg ce)) = P
  have no : ¬ zStOk p v → zMi G yX11_no wsX11_no rmX11_no zTR ad ln [.ref (ad 0), .int 1] (up2 al 0 50 0) P := by
    intro hb
    refine (r_no G ad ln _ 1).mono (fun q a hq => ?_)
    obtain ⟨-, rfl⟩ := hq
    rw [← hP]
    exact ⟨fun _ => ⟨up2_self _ _ _ _, (h.u50 ln 0).u50 ln 1⟩, fun z => absurd z hb⟩
  have ir := (h.u50 ln 0).aw ln
  -- within the limits
  have core : ∀ m : Nat, m < 9 → p = nI m → ∀ s0 : Int32, zSL m = s0 → vcX11_set_55 G ad ln p v P s0 (up2 al 0 50 0) := by
    intro m hm ep s0 es
    have em : p.toNatClampNeg = m := by rw [ep, nI_clamp (by omega)]
    have ixp : zIx p 9 := by
      rw [ep]
      refine ⟨?_, (nI_ltI (by omega) (by omega)).mpr hm⟩
      rw [show (0 : Int32) = nI 0 from rfl, nI_ltI (by omega) (by omega)]
      omega
    unfold vcX11_set_55 vcX11_set_66
    refine ⟨fun q => no (fun z => z.2.1 q), fun q => ⟨fun q2 => ?_, fun q2 => no (fun z => q2 (by rw [← es, ← em]; exact z.2.2))⟩⟩
    have ok : zStOk p v := ⟨ixp, q, by rw [em, es]; exact q2⟩
    have hw : ∃ w : Nat, v = nI w ∧ 1 ≤ w ∧ w ≤ 64 ∧ (m < 4 → w ≤ 20) := by
      have r := zR_of v
      have lim : ∀ m, m < 9 → zSL m ≤ 64 ∧ (m < 4 → zSL m ≤ 20) := by decide
      have l1 : v ≤ 64 := Int32.le_trans q2 (by rw [← es]; exact (lim m hm).1)
      have l2 : m < 4 → v ≤ 20 := fun hm4 => Int32.le_trans q2 (by rw [← es]; exact (lim m hm).2 hm4)
      rw [zI_of v, zI_1, zI_lt r ⟨by omega, by omega⟩] at q
      rw [zI_of v, show (64 : Int32) = zI 64 from rfl, zI_le r ⟨by omega, by omega⟩] at l1
      refine ⟨v.toInt.toNat, ?_, by omega, by omega, fun hm4 => ?_⟩
      · rw [zI_n, show ((v.toInt.toNat : Nat) : Int) = v.toInt by omega, ← zI_of]
      · have := l2 hm4
        rw [zI_of v, show (20 : Int32) = zI 20 from rfl, zI_le r ⟨by omega, by omega⟩] at this
        omega
    obtain ⟨w, ew, w1, w2, w3⟩ := hw
    refine (r_away G ad ln _).mono (fun a3 hq => ?_)
    subst hq
    have fin : ∀ (k j : Nat) (q : Int32), q = nI (st m) → ((m < 4 ∧ k = 11 ∧ j = m) ∨ (k = 0 ∧ ((m = 4 ∧ j = 20) ∨ (m = 5 ∧ j = 21) ∨ (m = 6 ∧ j = 22) ∨ (m = 7 ∧ j = 19) ∨ (m = 8 ∧ j = 18)))) → P q (up2 (up2 (up2 (up2 al 0 50 0) 0 33 0) 0 47 0) k j v) := by
      intro k j q hq hk
      rw [← hP]
      refine ⟨fun z => absurd ok z, fun _ => ⟨?_, ?_, ?_⟩⟩
      · rw [up2_ne _ _ (fun z => by omega), up2_ne _ _ (by decide), up2_ne _ _ (by decide), up2_self]
      · rw [hq, em]
      · have ev : v.toNatClampNeg = w := by rw [ew, nI_clamp (by omega)]
        rw [em, ev, ew]
        refine ir.set ln (a' := up2 _ k j (nI w)) ?_ (fun i hi => up2_ne _ _ (fun z => by omega)) (ir.2.1.set (m := m) (w := w) hm ⟨w1, w2, w3⟩ hk)
        intro i hi
        rw [up2_name _ _ _ (fun z => hi (by rcases hk with ⟨-, rfl, -⟩ | ⟨rfl, -⟩ <;> rw [z] <;> decide))]
    obtain ⟨t1, ⟨t4, t5, t6, t7, t8⟩, t9⟩ := ir.2.1
    rw [ep]
    have c9 : m = 0 ∨ m = 1 ∨ m = 2 ∨ m = 3 ∨ m = 4 ∨ m = 5 ∨ m = 6 ∨ m = 7 ∨ m = 8 := by omega
    rcases c9 with rfl | rfl | rfl | rfl | rfl | rfl | rfl | rfl | rfl
    · exact ⟨fun z => absurd z (by decide), fun _ => ⟨fun z => absurd z (by decide), fun _ => ⟨fun z => absurd z (by decide), fun _ => ⟨fun z => absurd z (by decide), fun _ => ⟨fun z => absurd z (by decide), fun _ => ⟨zvn (j := 0) (by omega) (by omega), zvn (j := 0) (by omega) (by omega), fin 11 0 _ (t1 0 (by omega)).1 (by omega)⟩⟩⟩⟩⟩⟩
    · exact ⟨fun z => absurd z (by decide), fun _ => ⟨fun z => absurd z (by decide), fun _ => ⟨fun z => absurd z (by decide), fun _ => ⟨fun z => absurd z (by decide), fun _ => ⟨fun z => absurd z (by decide), fun _ => ⟨zvn (j := 1) (by omega) (by omega), zvn (j := 1) (by omega) (by omega), fin 11 1 _ (t1 1 (by omega)).1 (by omega)⟩⟩⟩⟩⟩⟩
    · exact ⟨fun z => absurd z (by decide), fun _ => ⟨fun z => absurd z (by decide), fun _ => ⟨fun z => absurd z (by decide), fun _ => ⟨fun z => absurd z (by decide), fun _ => ⟨fun z => absurd z (by decide), fun _ => ⟨zvn (j := 2) (by omega) (by omega), zvn (j := 2) (by omega) (by omega), fin 11 2 _ (t1 2 (by omega)).1 (by omega)⟩⟩⟩⟩⟩⟩
    · exact ⟨fun z => absurd z (by decide), fun _ => ⟨fun z => absurd z (by decide), fun _ => ⟨fun z => absurd z (by decide), fun _ => ⟨fun z => absurd z (by decide), fun _ => ⟨fun z => absurd z (by decide), fun _ => ⟨zvn (j := 3) (by omega) (by omega), zvn (j := 3) (by omega) (by omega), fin 11 3 _ (t1 3 (by omega)).1 (by omega)⟩⟩⟩⟩⟩⟩
    · exact ⟨fun _ => fin 0 20 _ t4 (by omega), fun z => absurd rfl z⟩
    · exact ⟨fun z => absurd z (by decide), fun _ => ⟨fun _ => fin 0 21 _ t5 (by omega), fun z => absurd rfl z⟩⟩
    · exact ⟨fun z => absurd z (by decide), fun _ => ⟨fun z => absurd z (by decide), fun _ => ⟨fun _ => fin 0 22 _ t6 (by omega), fun z => absurd rfl z⟩⟩⟩
    · exact ⟨fun z => absurd z (by decide), fun _ => ⟨fun z => absurd z (by decide), fun _ => ⟨fun z => absurd z (by decide), fun _ => ⟨fun _ => fin 0 19 _ t7 (by omega), fun z => absurd rfl z⟩⟩⟩⟩
    · exact ⟨fun z => absurd z (by decide), fun _ => ⟨fun z => absurd z (by decide), fun _ => ⟨fun z => absurd z (by decide), fun _ => ⟨fun z => absurd z (by decide), fun _ => ⟨fun _ => fin 0 18 _ t8 (by omega), fun z => absurd rfl z⟩⟩⟩⟩⟩
  unfold vcX11_set_0 vcX11_set_15
  have le9 : p ≤ 8 ↔ p < nI 9 := zInt_le (m := 8) (by omega)
  refine ⟨fun q => no (fun z => z.1.1 q), fun q => ⟨fun q2 => ?_, fun q2 => no (fun z => q2 (le9.mpr z.1.2))⟩⟩
  obtain ⟨e1, e2⟩ := zInt_rng (by omega) q (le9.mp q2)
  generalize hm : p.toNatClampNeg = m at e1 e2
  refine ⟨fun q3 => ⟨fun q4 => ⟨fun q5 => core m e2 e1 64 ?_, fun q5 => core m e2 e1 16 ?_⟩, fun q4 => core m e2 e1 8 ?_⟩, fun q3 => core m e2 e1 20 ?_⟩
  · rw [e1, show (7 : Int32) = nI 7 from rfl, nI_leI (by omega) (by omega)] at q4
    rw [e1, show (7 : Int32) = nI 7 from rfl, nI_eq (by omega) (by omega)] at q5
    have : m = 8 := by omega
    subst this
    rfl
  · rw [e1, show (7 : Int32) = nI 7 from rfl, nI_eq (by omega) (by omega)] at q5
    subst q5
    rfl
  · rw [e1, show (7 : Int32) = nI 7 from rfl, nI_leI (by omega) (by omega)] at q4
    rw [e1, show (4 : Int32) = nI 4 from rfl, nI_leI (by omega) (by omega)] at q3
    rcases (show m = 4 ∨ m = 5 ∨ m = 6 by omega) with rfl | rfl | rfl <;> rfl
  · rw [e1, show (4 : Int32) = nI 4 from rfl, nI_leI (by omega) (by omega)] at q3
    rcases (show m = 0 ∨ m = 1 ∨ m = 2 ∨ m = 3 by omega) with rfl | rfl | rfl | rfl <;> rfl
theorem r_row_ (h : zIR al ln len ty st bg n rc re D ran rg ce) (p v : Int32) : zMi G yX11_row_ wsX11_row_ rmX11_row_ zTR ad ln [.ref (ad 0), .int p, .int v] al (fun q a => zIR a ln len ty st bg n rc re D ran rg ce ∧ (D = 0 → a 0 50 = 1) ∧ (D ≠ 0 → ¬ zIx p n → a 0 50 = 2) ∧ (D ≠ 0 → zIx p n → ¬ zIx v 5 → a 0 50 = 3) ∧ (D ≠ 0 → zIx p n → zIx v 5 → a 0 50 = 0 ∧ q = zI (zRwV n rc st (zUsC n rc) D p.toNatClampNeg v.toNatClampNeg))) := by
  refine zMi.of (cc := cX11_row_) (nL := 3) (rt := .int) (by decide) rfl (Nat.le_of_ble_eq_true rfl) (fun Z X hR => ?_)
  refine tX11_row__0 X _ _ hR al ?_
  generalize hP : (fun (q : Int32) (a : Nat → Nat → Int32) => zIR a ln len ty st bg n rc re D ran rg ce ∧ (D = 0 → a 0 50 = 1) ∧ (D ≠ 0 → ¬ zIx p n → a 0 50 = 2) ∧ (D ≠ 0 → zIx p n → ¬ zIx v 5 → a 0 50 = 3) ∧ (D ≠ 0 → zIx p n → zIx v 5 → a 0 50 = 0 ∧ q = zI (zRwV n rc st (zUsC n rc) D p.toNatClampNeg v.toNatClampNeg))) = P
  have h33 : al 0 33 = nI D := h.2.2.2.2.2.2.2.1
  have h9 : al 0 9 = nI n := h.2.2.2.1.1
  have hn := h.2.2.2.1.2.1
  have hD : D ≤ 200 := by
    rcases h.2.2.2.2.2.2.2.2.1 with e | ⟨-, e, -⟩
    · omega
    · rcases zLyF_rng n rc st (zUsC n rc) (201 - zD0 n rc st) (zD0 n rc st) with z | z
      · have : D = 0 := by rw [e]; exact z
        omega
      · have : D = zLyF n rc st (zUsC n rc) (201 - zD0 n rc st) (zD0 n rc st) := e
        omega
  unfold vcX11_row__0 vcX11_row__30
  rw [h33, show (0 : Int32) = nI 0 from rfl, nI_eq (by omega) (by omega), ← show (0 : Int32) = nI 0 from rfl, h9]
  refine ⟨fun d => ?_, fun d => (r_no G ad ln _ 1).mono (fun q a hq => ?_)⟩
  · have two : ¬ zIx p n → zMi G yX11_no wsX11_no rmX11_no zTR ad ln [.ref (ad 0), .int 2] (up2 al 0 50 0) P := by
      intro hb
      refine (r_no G ad ln _ 2).mono (fun q a hq => ?_)
      obtain ⟨-, rfl⟩ := hq
      rw [← hP]
      exact ⟨(h.u50 ln 0).u50 ln 2, fun z => absurd z d, fun _ _ => up2_self _ _ _ _, fun _ z => absurd z hb, fun _ z => absurd z hb⟩
    refine ⟨fun q => two (fun z => z.1 q), fun q => ⟨fun q2 => ?_, fun q2 => two (fun z => q2 z.2)⟩⟩
    have ix : zIx p n := ⟨q, q2⟩
    obtain ⟨e1, e2⟩ := zInt_rng (by omega) ix.1 ix.2
    have v48 : vp_in p 48 := by rw [e1]; exact vp_in_nI (by omega) (by omega)
    obtain ⟨-, eD, hl⟩ := h.2.2.2.2.2.2.2.2.1.resolve_left d
    obtain ⟨l1, l2, l3, l4, sz, off, l5, l6, l7, l8⟩ := hl
    generalize hx : p.toNatClampNeg = x at e2
    have fin : ∀ (k : Nat) (q : Int32), k < 5 → v = nI k → q = zI (zRwV n rc st (zUsC n rc) D x k) → P q (up2 al 0 50 0) := by
      intro k q hk hv hq
      rw [← hP]
      refine ⟨h.u50 ln 0, fun z => absurd z d, fun _ z => absurd ix z, fun _ _ z => absurd ?_ z, fun _ _ _ => ⟨up2_self _ _ _ _, ?_⟩⟩
      · rw [hv]
        refine ⟨?_, (nI_ltI (by omega) (by omega)).mpr hk⟩
        rw [show (0 : Int32) = nI 0 from rfl, nI_ltI (by omega) (by omega)]
        omega
      · rw [hx, hv, nI_clamp (by omega)]
        exact hq
    obtain ⟨a17, a19, a20, a21⟩ := l3 x e2
    refine ⟨fun z => ⟨v48, fin 0 _ (by omega) z ?_⟩, fun z0 => ⟨fun z => ⟨v48, fin 1 _ (by omega) z ?_⟩, fun z1 => ⟨fun z => ⟨v48, fin 2 _ (by omega) z ?_⟩, fun z2 => ⟨fun z => ⟨v48, fin 3 _ (by omega) z ?_⟩, fun z3 => ⟨fun z => ⟨v48, fin 4 _ (by omega) z ?_⟩, fun z4 => ?_⟩⟩⟩⟩⟩
    · exact a17
    · exact a19
    · rw [l8 x e2]
      unfold zRwV
      rw [if_neg (by omega), if_neg (by omega), if_pos rfl, l5]
    · exact a20
    · exact a21
    · refine (r_no G ad ln _ 3).mono (fun q a hq => ?_)
      obtain ⟨-, rfl⟩ := hq
      rw [← hP]
      have nv : ¬ zIx v 5 := fun z => by
        obtain ⟨e3, e4⟩ := zInt_rng (by omega) z.1 z.2
        generalize v.toNatClampNeg = k at e3 e4
        rcases (show k = 0 ∨ k = 1 ∨ k = 2 ∨ k = 3 ∨ k = 4 by omega) with rfl | rfl | rfl | rfl | rfl
        · exact z0 e3
        · exact z1 e3
        · exact z2 e3
        · exact z3 e3
        · exact z4 e3
      exact ⟨(h.u50 ln 0).u50 ln 3, fun z => absurd z d, fun _ z => absurd ix z, fun _ _ _ => up2_self _ _ _ _, fun _ _ z => absurd z nv⟩
  · obtain ⟨-, rfl⟩ := hq
    rw [← hP]
    exact ⟨(h.u50 ln 0).u50 ln 1, fun _ => up2_self _ _ _ _, fun z => absurd d z, fun z => absurd d z, fun z => absurd d z⟩
theorem r_delay (h : zIR al ln len ty st bg n rc re D ran rg ce) (p v w : Int32) : zMi G yX11_delay wsX11_delay rmX11_delay zTR ad ln [.ref (ad 0), .int p, .int v, .int w] al (fun q a => zIR a ln len ty st bg n rc re D ran rg ce ∧ (¬ (zIx p n ∧ zIx v n) → a 0 50 = 1) ∧ (zIx p n ∧ zIx v n → match zFnd (wF (zWL n rc st)) (wT (zWL n rc st)) (wO (zWL n rc st)) p v w (zWL n rc st).length 0 with
    | some i => a 0 50 = 0 ∧ q = nI (wD (zWL n rc st) i)
    | none => a 0 50 = 2)) := by
  refine zMi.of (cc := cX11_delay) (nL := 5) (rt := .int) (by decide) rfl (Nat.le_of_ble_eq_true rfl) (fun Z X hR => ?_)
  generalize hP : (fun (q : Int32) (a : Nat → Nat → Int32) => zIR a ln len ty st bg n rc re D ran rg ce ∧ (¬ (zIx p n ∧ zIx v n) → a 0 50 = 1) ∧ (zIx p n ∧ zIx v n → match zFnd (wF (zWL n rc st)) (wT (zWL n rc st)) (wO (zWL n rc st)) p v w (zWL n rc st).length 0 with
    | some i => a 0 50 = 0 ∧ q = nI (wD (zWL n rc st) i)
    | none => a 0 50 = 2)) = P at hR
  have h9 : al 0 9 = nI n := h.2.2.2.1.1
  have hn := h.2.2.2.1.2.1
  refine uX11_delay_0 X _ _ _ hR al ?_
  unfold vcX11_delay_0 vcX11_delay_29
  have one : ¬ (zIx p n ∧ zIx v n) → zMi G yX11_no wsX11_no rmX11_no zTR ad ln [.ref (ad 0), .int 1] (up2 al 0 50 0) P := by
    intro hb
    refine (r_no G ad ln _ 1).mono (fun q a hq => ?_)
    obtain ⟨-, rfl⟩ := hq
    rw [← hP]
    exact ⟨(h.u50 ln 0).u50 ln 1, fun _ => up2_self _ _ _ _, fun z => absurd z hb⟩
  rw [h9]
  refine ⟨fun q => one (fun z => z.1.1 q), fun q => ⟨fun q2 => one (fun z => Int32.not_lt.mpr q2 z.1.2), fun q2 => ⟨fun q3 => one (fun z => z.2.1 q3), fun q3 => ⟨fun q4 => ?_, fun q4 => one (fun z => q4 z.2.2)⟩⟩⟩⟩
  have ix : zIx p n ∧ zIx v n := ⟨⟨q, Int32.not_le.mp q2⟩, ⟨q3, q4⟩⟩
  obtain ⟨e1, e2⟩ := zInt_rng (by omega) ix.1.1 ix.1.2
  have hn0 : 0 < n := by omega
  have gd : zGd n rc st := ⟨hn0, hn, fun x hx => (h.2.2.2.1.2.2 x hx).2, fun j hj => (h.2.1.1 j hj).2, h.2.1.2.2⟩
  have ir := h.u50 ln 0
  refine (r_findWaits G ad ln _ ir.2.2.2.1 ir.2.1).mono (fun a5 hq => ?_)
  obtain ⟨f5, j5, w5⟩ := hq
  have ir5 : zIR a5 ln len ty st bg n rc re D ran rg ce := ir.fr ln f5 (fun j j1 _ => j5 j j1) (by decide)
  have t5 : a5 0 50 = 0 := by rw [j5 50 (by decide), up2_self]
  obtain ⟨m1, m2⟩ := zWL_ok gd
  have w5' : zWr a5 (zWL n rc st) := w5
  generalize hW : zWL n rc st = W at hP w5' m1 m2
  have loop : ∀ (f i : Nat), i + f = W.length → zFnd (wF W) (wT W) (wO W) p v w f i = zFnd (wF W) (wT W) (wO W) p v w W.length 0 → BX11_delay_42 G Z ad ln p v w (nI i) a5 := by
    intro f
    induction f with
    | zero =>
      intro i hi e
      refine uX11_delay_42 X _ _ _ hR _ a5 ?_
      unfold vcX11_delay_42
      have : i = W.length := by omega
      subst this
      rw [w5'.1]
      refine ⟨fun _ => (r_no G ad ln _ 2).mono (fun q a hq => ?_), fun z => absurd (Int32.le_refl _) z⟩
      obtain ⟨-, rfl⟩ := hq
      rw [← hP]
      refine ⟨ir5.u50 ln 2, fun z => absurd ix z, fun _ => ?_⟩
      rw [← e]
      exact up2_self _ _ _ _
    | succ f ih =>
      intro i hi e
      refine uX11_delay_42 X _ _ _ hR _ a5 ?_
      unfold vcX11_delay_42 vcX11_delay_92
      have hg : W[i]? = some (wF W i, wT W i, wO W i, wD W i) := wG (by omega)
      obtain ⟨g1, g2, g3, g4⟩ := w5'.2 i _ hg
      have v46 : vp_in (nI i) 4608 := vp_in_nI (by omega) (by omega)
      rw [w5'.1, nI_leI (by omega) (by omega), nI_clamp (by omega), nI_1, g1, g2, g3, g4]
      have sk : ¬ (nI (wF W i) = p ∧ nI (wT W i) = v ∧ nI (wO W i) = w) → BX11_delay_42 G Z ad ln p v w (nI (i + 1)) a5 := by
        intro hb
        refine ih (i + 1) (by omega) ?_
        rw [← e, zFnd, if_neg hb]
      refine ⟨fun z => absurd z (by omega), fun _ => ⟨v46, fun z => sk (fun y => z y.1), fun z1 => ⟨v46, fun z => sk (fun y => z y.2.1), fun z2 => ⟨v46, fun z => sk (fun y => z y.2.2), fun z3 => ⟨v46, ?_⟩⟩⟩⟩⟩
      rw [← hP]
      refine ⟨ir5, fun z => absurd ix z, fun _ => ?_⟩
      rw [← e, zFnd, if_pos ⟨z1, z2, z3⟩]
      exact ⟨t5, rfl⟩
  exact loop W.length 0 (by omega) rfl
theorem r_lay (h : zIR al ln len ty st bg n rc re D ran rg ce) : zMi G yX11_lay wsX11_lay rmX11_lay zTR ad ln [.ref (ad 0)] al (fun q a => (n = 0 → a 0 50 = 1 ∧ zIR a ln len ty st bg n rc re D ran rg ce) ∧ (n ≠ 0 → a 0 50 = 0 ∧ q = nI (zLy n rc st (zUsC n rc)) ∧ zIR a ln len ty st bg n rc re (zLy n rc st (zUsC n rc)) ran rg ce)) := by
  refine zMi.of (cc := cX11_lay) (nL := 1) (rt := .int) (by decide) rfl (Nat.le_of_ble_eq_true rfl) (fun Z X hR => ?_)
  refine tX11_lay_0 X hR al ?_
  unfold vcX11_lay_0
  have h46 : al 0 46 = (if n = 0 then 0 else 1) := h.2.2.2.2.2.1
  rw [h46]
  by_cases q : n = 0
  · rw [if_pos q]
    refine ⟨fun z => absurd rfl z, fun _ => (r_no G ad ln _ 1).mono (fun q2 a hq => ?_)⟩
    obtain ⟨-, rfl⟩ := hq
    exact ⟨fun _ => ⟨up2_self _ _ _ _, (h.u50 ln 0).u50 ln 1⟩, fun z => absurd q z⟩
  · rw [if_neg q]
    refine ⟨fun _ => ?_, fun z => absurd z (by decide)⟩
    have ir := h.u50 ln 0
    refine (r_layAll G ad ln _ (us := zUsC n rc) ir.2.2.2.1 ir.2.1 (by omega) (zUsC_ok h.2.2.2.2.1 h.2.2.2.1.2.1 (fun x hx => (h.2.2.2.1.2.2 x hx).2))).mono (fun q2 a hq => ?_)
    obtain ⟨f, j, wr, e33, hl⟩ := hq
    refine ⟨fun z => absurd z q, fun _ => ⟨?_, e33, ?_⟩⟩
    · rw [j 50 (by decide) (by decide) (by decide) (by decide) (by decide) (by decide), up2_self]
    · obtain ⟨g1, g2, g3, g4, g5, g6, g7, g8, g9, g10, g11, g12⟩ := ir
      have hno : ∀ k, k ∈ zLGn → k = 0 ∨ (12 ≤ k ∧ k ≤ 15) ∨ (17 ≤ k ∧ k ≤ 23) ∨ (29 ≤ k ∧ k < 77) := by decide
      have no : ∀ k, ¬ (k = 0 ∨ (12 ≤ k ∧ k ≤ 15) ∨ (17 ≤ k ∧ k ≤ 23) ∨ (29 ≤ k ∧ k < 77)) → a k = up2 al 0 50 0 k := fun k hk => f k (fun z => hk (hno k z))
      have e0 : ∀ i, i ≠ 28 → i ≠ 33 → i ≠ 34 → i ≠ 35 → i ≠ 40 → i ≠ 41 → a 0 i = up2 al 0 50 0 0 i := j
      refine ⟨?_, g2.fr (no 11 (by omega)) (fun i _ _ => e0 i (by omega) (by omega) (by omega) (by omega) (by omega) (by omega)), ?_, g4.fr f (e0 9 (by omega) (by omega) (by omega) (by omega) (by omega) (by omega)) (by decide), g5, ?_, ?_, e33, ?_, ?_, ?_, g12⟩
      · rw [e0 11 (by omega) (by omega) (by omega) (by omega) (by omega) (by omega), no 10 (by omega)]
        exact g1
      · rw [no 24 (by omega)]
        exact g3
      · rw [e0 46 (by omega) (by omega) (by omega) (by omega) (by omega) (by omega)]
        exact g6
      · rw [e0 48 (by omega) (by omega) (by omega) (by omega) (by omega) (by omega)]
        exact g7
      · by_cases z : zLy n rc st (zUsC n rc) = 0
        · exact Or.inl z
        · exact Or.inr ⟨by omega, rfl, hl z⟩
      · rw [e0 47 (by omega) (by omega) (by omega) (by omega) (by omega) (by omega)]
        exact g10
      · intro hr
        refine ⟨fun i hi => ?_, fun q i hq hi => ?_⟩
        · rw [no 25 (by omega)]
          exact (g11 hr).1 i hi
        · rw [no (77 + q) (by omega)]
          exact (g11 hr).2 q i hq hi
end REFM3
