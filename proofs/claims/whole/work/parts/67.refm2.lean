/-! THE REFERENCE: feed, set, begin, register, cell, row -/
/-- a byte of a word -/
def zWb (v : Int32) (k : Nat) : Int32 := ((v >>> (((24 : Int32) - (8 : Int32) * nI k) &&& 31)).toInt8.toInt32).toInt8.toInt32
theorem zBt_i8 (v : Int32) : zBt (v.toInt8.toInt32) := by
  unfold zBt
  have h1 := v.toInt8.le_toInt
  have h2 := v.toInt8.toInt_lt
  rw [Int8.toInt_toInt32]
  constructor <;> omega
/-- the tape with one word more -/
def zTw1 (ty : Nat → Int32) (f : Nat) (v : Int32) : Nat → Int32 := fun j => if f ≤ j ∧ j < f + 4 then zWb v (j - f) else ty j
section REFM2
variable (G : zG) (ad ln : Nat → Nat) (al : Nat → Nat → Int32) {len : Nat} {ty : Nat → Int32} {st : Nat → Nat} {bg : Nat → Int32} {n : Nat} {rc : Nat → zRec} {re : Int32} {D : Nat} {ran : Bool} {rg ce : Nat → Int32}
theorem r_word_ {f : Nat} (hf : f + 4 ≤ 4096) (v : Int32) : zMv G yX11_word_ wsX11_word_ rmX11_word_ zTR ad ln [.ref (ad 0), .int v, .int (nI f)] al (fun a => zFr [10] al a ∧ ∀ j, a 10 j = zTw1 (al 10) f v j) := by
  refine zMv.of (cc := cX11_word_) (nL := 4) (by decide) rfl (Nat.le_of_ble_eq_true rfl) (fun Z X hR => ?_)
  have loop : ∀ (g k : Nat) (a : Nat → Nat → Int32), k + g = 4 → zFr [10] al a → (∀ j, a 10 j = if f ≤ j ∧ j < f + k then zWb v (j - f) else al 10 j) → BX11_word__2 G Z ad ln v (nI f) (nI k) a := by
    intro g
    induction g with
    | zero =>
      intro k a hk hfr ha
      refine uX11_word__2 X _ _ hR _ a ?_
      unfold vcX11_word__2
      have : k = 4 := by omega
      subst this
      exact ⟨fun _ => ⟨hfr, ha⟩, fun z => absurd (by decide) z⟩
    | succ g ih =>
      intro k a hk hfr ha
      refine uX11_word__2 X _ _ hR _ a ?_
      unfold vcX11_word__2
      have e : nI f + nI k = nI (f + k) := by
        rw [zI_n, zI_n, zI_n, zI_add]
        congr 1
      rw [e, nI_clamp (by omega), show (4 : Int32) = nI 4 from rfl, nI_leI (by omega) (by omega), nI_1]
      refine ⟨fun z => absurd z (by omega), fun _ => ⟨vp_in_nI (by omega) (by omega), ih (k + 1) _ (by omega) (hfr.up (by decide) _ _) (fun j => ?_)⟩⟩
      by_cases q : j = f + k
      · subst q
        rw [up2_self, if_pos (by omega), show f + k - f = k by omega]
        rfl
      · rw [up2_ne _ _ (fun z => q z.2), ha j]
        by_cases q2 : f ≤ j ∧ j < f + k
        · rw [if_pos q2, if_pos (by omega)]
        · rw [if_neg q2, if_neg (by omega)]
  refine uX11_word__0 X _ _ hR al ?_
  unfold vcX11_word__0
  exact loop 4 0 al (by omega) zFr.rf (fun j => by rw [if_neg (by omega)])
/-- the tape with five words more -/
def zFd (ty : Nat → Int32) (f : Nat) (p1 p2 p3 p4 p5 : Int32) : Nat → Int32 := zTw1 (zTw1 (zTw1 (zTw1 (zTw1 ty f p1) (f + 4) p2) (f + 8) p3) (f + 12) p4) (f + 16) p5
theorem zTw1_bt {ty : Nat → Int32} {f : Nat} {v : Int32} {len : Nat} (h : ∀ j, j < len → zBt (ty j)) : ∀ j, (j < len ∨ (f ≤ j ∧ j < f + 4)) → zBt (zTw1 ty f v j) := by
  intro j hj
  unfold zTw1
  split
  · exact zBt_i8 _
  · rename_i z
    exact h j (hj.resolve_right z)
theorem zTw1_co {ty ty' : Nat → Int32} {f len : Nat} {v : Int32} (h : ∀ j, j < len → ty j = ty' j) : ∀ j, (j < len ∨ (f ≤ j ∧ j < f + 4)) → zTw1 ty f v j = zTw1 ty' f v j := by
  intro j hj
  unfold zTw1
  split
  · rfl
  · rename_i z
    exact h j (hj.resolve_right z)
theorem zIR.tape {a a' : Nat → Nat → Int32} {len' : Nat} {ty' : Nat → Int32} (h : zIR a ln len ty st bg n rc re D ran rg ce) (hf : zFr [0, 10] a a') (h0 : ∀ j, j ≠ 11 → j ≠ 50 → a' 0 j = a 0 j) (h11 : a' 0 11 = nI len' ∧ len' ≤ 4096) (h10 : ∀ j, j < len' → a' 10 j = ty' j ∧ zBt (ty' j)) : zIR a' ln len' ty' st bg n rc re D ran rg ce := by
  obtain ⟨g1, g2, g3, g4, g5, g6, g7, g8, g9, g10, g11, g12⟩ := h
  refine ⟨⟨h11.1, h11.2, h10⟩, g2.fr (hf 11 (by decide)) (fun j _ _ => h0 j (by omega) (by omega)), ?_, g4.fr hf (h0 9 (by omega) (by omega)) (by decide), g5, ?_, ?_, ?_, ?_, ?_, ?_, g12⟩
  · rw [hf 24 (by decide)]
    exact g3
  · rw [h0 46 (by omega) (by omega)]
    exact g6
  · rw [h0 48 (by omega) (by omega)]
    exact g7
  · rw [h0 33 (by omega) (by omega)]
    exact g8
  · exact g9.imp id (fun ⟨k1, k2, k3⟩ => ⟨k1, k2, k3.fr (fun j hj => h0 j (by omega) (by omega)) (hf 17 (by decide)) (hf 19 (by decide)) (hf 20 (by decide)) (hf 21 (by decide)) (hf 22 (by decide))⟩)
  · rw [h0 47 (by omega) (by omega)]
    exact g10
  · intro hr
    refine ⟨fun i hi => ?_, fun q i hq hi => ?_⟩
    · rw [hf 25 (by decide)]
      exact (g11 hr).1 i hi
    · rw [hf (77 + q) (by simp; omega)]
      exact (g11 hr).2 q i hq hi
theorem r_feed (h : zIR al ln len ty st bg n rc re D ran rg ce) (p1 p2 p3 p4 p5 : Int32) : zMi G yX11_feed wsX11_feed rmX11_feed zTR ad ln [.ref (ad 0), .int p1, .int p2, .int p3, .int p4, .int p5] al (fun q a => (4096 < len + 20 → a 0 50 = 1 ∧ zIR a ln len ty st bg n rc re D ran rg ce) ∧ (len + 20 ≤ 4096 → a 0 50 = 0 ∧ q = nI (len + 20) ∧ zIR a ln (len + 20) (zFd ty len p1 p2 p3 p4 p5) st bg n rc re D ran rg ce)) := by
  refine zMi.of (cc := cX11_feed) (nL := 6) (rt := .int) (by decide) rfl (Nat.le_of_ble_eq_true rfl) (fun Z X hR => ?_)
  refine tX11_feed_0 X _ _ _ _ _ hR al ?_
  unfold vcX11_feed_0
  have h0 := h
  obtain ⟨⟨h1, hl, ht⟩, -⟩ := h
  have pl : ∀ c : Nat, c ≤ 4096 → nI len + nI c = nI (len + c) := by
    intro c hc
    rw [zI_n, zI_n, zI_n, zI_add]
    congr 1
  rw [h1, show (20 : Int32) = nI 20 from rfl, pl 20 (by omega), show (4096 : Int32) = nI 4096 from rfl, nI_leI (by omega) (by omega)]
  refine ⟨fun q => ?_, fun q => ?_⟩
  · refine (r_word_ G ad ln (up2 al 0 50 0) (f := len) (by omega) p1).mono (fun a2 hq2 => ?_)
    have e2 : a2 0 11 = nI len := by rw [hq2.1 0 (by decide), up2_ne _ _ (by decide)]; exact h1
    rw [e2, show (4 : Int32) = nI 4 from rfl, pl 4 (by omega)]
    refine (r_word_ G ad ln a2 (f := len + 4) (by omega) p2).mono (fun a3 hq3 => ?_)
    have e3 : a3 0 11 = nI len := by rw [hq3.1 0 (by decide)]; exact e2
    rw [e3, show (8 : Int32) = nI 8 from rfl, pl 8 (by omega)]
    refine (r_word_ G ad ln a3 (f := len + 8) (by omega) p3).mono (fun a4 hq4 => ?_)
    have e4 : a4 0 11 = nI len := by rw [hq4.1 0 (by decide)]; exact e3
    rw [e4, show (12 : Int32) = nI 12 from rfl, pl 12 (by omega)]
    refine (r_word_ G ad ln a4 (f := len + 12) (by omega) p4).mono (fun a5 hq5 => ?_)
    have e5 : a5 0 11 = nI len := by rw [hq5.1 0 (by decide)]; exact e4
    rw [e5, show (16 : Int32) = nI 16 from rfl, pl 16 (by omega)]
    refine (r_word_ G ad ln a5 (f := len + 16) (by omega) p5).mono (fun a6 hq6 => ?_)
    have e6 : a6 0 11 = nI len := by rw [hq6.1 0 (by decide)]; exact e5
    rw [e6, pl 20 (by omega)]
    have fr : zFr [10] (up2 al 0 50 0) a6 := (((hq2.1.tr hq3.1).tr hq4.1).tr hq5.1).tr hq6.1
    refine ⟨fun z => absurd z (by omega), fun _ => ⟨?_, rfl, ?_⟩⟩
    · rw [up2_ne _ _ (by decide), fr 0 (by decide), up2_self]
    · refine h0.tape ln (a' := up2 a6 0 11 (nI (len + 20))) ?_ ?_ ⟨up2_self _ _ _ _, by omega⟩ (fun j hj => ?_)
      · intro k hk
        rw [up2_name _ _ _ (fun z => hk (by rw [z]; decide)), fr k (fun z => hk (by simp at z; rw [z]; decide)), up2_name _ _ _ (fun z => hk (by rw [z]; decide))]
      · intro j j1 j2
        rw [up2_ne _ _ (fun z => j1 z.2), fr 0 (by decide), up2_ne _ _ (fun z => j2 z.2)]
      · rw [up2_name _ _ _ (by decide), hq6.2 j]
        have a2e : a2 10 = zTw1 (al 10) len p1 := by
          funext j
          rw [hq2.2 j, up2_name _ _ _ (by decide)]
        have a3e : a3 10 = zTw1 (a2 10) (len + 4) p2 := by
          funext j
          rw [hq3.2 j]
        have a4e : a4 10 = zTw1 (a3 10) (len + 8) p3 := by
          funext j
          rw [hq4.2 j]
        have a5e : a5 10 = zTw1 (a4 10) (len + 12) p4 := by
          funext j
          rw [hq5.2 j]
        rw [a5e, a4e, a3e, a2e]
        have b0 : ∀ j, j < len → zBt (ty j) := fun j hj => (ht j hj).2
        have c0 : ∀ j, j < len → al 10 j = ty j := fun j hj => (ht j hj).1
        have c1 : ∀ j, j < len + 4 → zTw1 (al 10) len p1 j = zTw1 ty len p1 j := fun j hj => zTw1_co c0 j (by omega)
        have b1 : ∀ j, j < len + 4 → zBt (zTw1 ty len p1 j) := fun j hj => zTw1_bt b0 j (by omega)
        have c2 : ∀ j, j < len + 8 → zTw1 (zTw1 (al 10) len p1) (len + 4) p2 j = zTw1 (zTw1 ty len p1) (len + 4) p2 j := fun j hj => zTw1_co c1 j (by omega)
        have b2 : ∀ j, j < len + 8 → zBt (zTw1 (zTw1 ty len p1) (len + 4) p2 j) := fun j hj => zTw1_bt b1 j (by omega)
        have c3 : ∀ j, j < len + 12 → zTw1 (zTw1 (zTw1 (al 10) len p1) (len + 4) p2) (len + 8) p3 j = zTw1 (zTw1 (zTw1 ty len p1) (len + 4) p2) (len + 8) p3 j := fun j hj => zTw1_co c2 j (by omega)
        have b3 : ∀ j, j < len + 12 → zBt (zTw1 (zTw1 (zTw1 ty len p1) (len + 4) p2) (len + 8) p3 j) := fun j hj => zTw1_bt b2 j (by omega)
        have c4 : ∀ j, j < len + 16 → zTw1 (zTw1 (zTw1 (zTw1 (al 10) len p1) (len + 4) p2) (len + 8) p3) (len + 12) p4 j = zTw1 (zTw1 (zTw1 (zTw1 ty len p1) (len + 4) p2) (len + 8) p3) (len + 12) p4 j := fun j hj => zTw1_co c3 j (by omega)
        have b4 : ∀ j, j < len + 16 → zBt (zTw1 (zTw1 (zTw1 (zTw1 ty len p1) (len + 4) p2) (len + 8) p3) (len + 12) p4 j) := fun j hj => zTw1_bt b3 j (by omega)
        exact ⟨zTw1_co c4 j (by omega), zTw1_bt b4 j (by omega)⟩
  · refine (r_no G ad ln _ 1).mono (fun q2 a hq => ⟨fun _ => ?_, fun z => absurd z q⟩)
    obtain ⟨-, rfl⟩ := hq
    exact ⟨up2_self _ _ _ _, (h0.u50 ln 0).u50 ln 1⟩
theorem zInt_rng {p : Int32} {m : Nat} (hm : m < 2147483648) (h1 : ¬ p < 0) (h2 : p < nI m) : p = nI p.toNatClampNeg ∧ p.toNatClampNeg < m := by
  have r := zR_of p
  rw [zI_of p, zI_0, zI_lt r ⟨by omega, by omega⟩] at h1
  rw [zI_of p, zI_n, zI_lt r ⟨by omega, by omega⟩] at h2
  have e : p.toNatClampNeg = p.toInt.toNat := by
    rw [zI_of p, zI_clamp r, zI_toInt r]
  refine ⟨?_, by omega⟩
  rw [e, zI_n, show ((p.toInt.toNat : Nat) : Int) = p.toInt by omega, ← zI_of]
theorem zInt_le {p : Int32} {m : Nat} (hm : m < 2147483647) : p ≤ nI m ↔ p < nI (m + 1) := by
  have r := zR_of p
  rw [zI_of p, zI_n, zI_n, zI_lt r ⟨by omega, by omega⟩, zI_le r ⟨by omega, by omega⟩]
  omega
/-- which index is within 0 .. m - 1 -/
def zIx (p : Int32) (m : Nat) : Prop := ¬ p < 0 ∧ p < nI m
theorem r_begin (h : zIR al ln len ty st bg n rc re D ran rg ce) (p v : Int32) : zMi G yX11_begin wsX11_begin rmX11_begin zTR ad ln [.ref (ad 0), .int p, .int v] al (fun q a => (¬ zIx p 32 → a 0 50 = 1 ∧ zIR a ln len ty st bg n rc re D ran rg ce) ∧ (zIx p 32 → a 0 50 = 0 ∧ q = bg p.toNatClampNeg ∧ zIR a ln len ty st (fu bg p.toNatClampNeg v) n rc re D false rg ce)) := by
  refine zMi.of (cc := cX11_begin) (nL := 4) (rt := .int) (by decide) rfl (Nat.le_of_ble_eq_true rfl) (fun Z X hR => ?_)
  refine tX11_begin_0 X _ _ hR al ?_
  unfold vcX11_begin_0 vcX11_begin_15
  have no : ¬ zIx p 32 → zMi G yX11_no wsX11_no rmX11_no zTR ad ln [.ref (ad 0), .int 1] (up2 al 0 50 0) (fun q a => (¬ zIx p 32 → a 0 50 = 1 ∧ zIR a ln len ty st bg n rc re D ran rg ce) ∧ (zIx p 32 → a 0 50 = 0 ∧ q = bg p.toNatClampNeg ∧ zIR a ln len ty st (fu bg p.toNatClampNeg v) n rc re D false rg ce)) := by
    intro hb
    refine (r_no G ad ln _ 1).mono (fun q a hq => ⟨fun _ => ?_, fun z => absurd z hb⟩)
    obtain ⟨-, rfl⟩ := hq
    exact ⟨up2_self _ _ _ _, (h.u50 ln 0).u50 ln 1⟩
  have le32 : p ≤ 31 ↔ p < nI 32 := zInt_le (m := 31) (by omega)
  refine ⟨fun q => no (fun z => z.1 q), fun q => ⟨fun q2 => ?_, fun q2 => no (fun z => q2 (le32.mpr z.2))⟩⟩
  have ix : zIx p 32 := ⟨q, le32.mp q2⟩
  obtain ⟨e1, e2⟩ := zInt_rng (by omega) ix.1 ix.2
  have v32 : vp_in p 32 := by rw [e1]; exact vp_in_nI e2 (by omega)
  refine ⟨v32, v32, fun z => absurd ix z, fun _ => ⟨?_, h.2.2.1 _ e2, ?_⟩⟩
  · rw [up2_ne _ _ (by decide), up2_name _ _ _ (by decide), up2_self]
  · generalize p.toNatClampNeg = m at e2
    obtain ⟨g1, g2, g3, g4, g5, g6, g7, g8, g9, g10, g11, g12⟩ := h
    have f : zFr [0, 24] al (up2 (up2 (up2 al 0 50 0) 24 m v) 0 47 0) := ((zFr.rf.up (by decide) _ _).up (by decide) _ _).up (by decide) _ _
    have e0 : ∀ j, j ≠ 47 → j ≠ 50 → up2 (up2 (up2 al 0 50 0) 24 m v) 0 47 0 0 j = al 0 j := fun j j1 j2 => by rw [up2_ne _ _ (fun z => j1 z.2), up2_name _ _ _ (by decide), up2_ne _ _ (fun z => j2 z.2)]
    refine ⟨?_, g2.fr (f 11 (by decide)) (fun j _ _ => e0 j (by omega) (by omega)), fun i hi => ?_, g4.fr f (e0 9 (by omega) (by omega)) (by decide), g5, ?_, ?_, ?_, ?_, up2_self _ _ _ _, (fun hr => by cases hr), g12⟩
    · rw [e0 11 (by omega) (by omega), f 10 (by decide)]
      exact g1
    · rw [up2_name _ _ _ (by decide)]
      by_cases e : i = m
      · subst e
        rw [up2_self, fu_self]
      · rw [up2_ne _ _ (fun z => e z.2), up2_name _ _ _ (by decide), fu_ne _ _ e]
        exact g3 i hi
    · rw [e0 46 (by omega) (by omega)]
      exact g6
    · rw [e0 48 (by omega) (by omega)]
      exact g7
    · rw [e0 33 (by omega) (by omega)]
      exact g8
    · exact g9.imp id (fun ⟨k1, k2, k3⟩ => ⟨k1, k2, k3.fr (fun j hj => e0 j (by omega) (by omega)) (f 17 (by decide)) (f 19 (by decide)) (f 20 (by decide)) (f 21 (by decide)) (f 22 (by decide))⟩)
theorem r_register (h : zIR al ln len ty st bg n rc re D ran rg ce) (p : Int32) : zMi G yX11_register wsX11_register rmX11_register zTR ad ln [.ref (ad 0), .int p] al (fun q a => zIR a ln len ty st bg n rc re D ran rg ce ∧ (ran = false → a 0 50 = 1) ∧ (ran = true → ¬ zIx p 32 → a 0 50 = 2) ∧ (ran = true → zIx p 32 → a 0 50 = 0 ∧ q = rg p.toNatClampNeg)) := by
  refine zMi.of (cc := cX11_register) (nL := 2) (rt := .int) (by decide) rfl (Nat.le_of_ble_eq_true rfl) (fun Z X hR => ?_)
  refine tX11_register_0 X _ hR al ?_
  unfold vcX11_register_0 vcX11_register_28 vcX11_register_42
  have h47 : al 0 47 = zb ran := h.2.2.2.2.2.2.2.2.2.1
  have hrg := h.2.2.2.2.2.2.2.2.2.2.1
  have le32 : p ≤ 31 ↔ p < nI 32 := zInt_le (m := 31) (by omega)
  rw [h47]
  have two : ran = true → ¬ zIx p 32 → zMi G yX11_no wsX11_no rmX11_no zTR ad ln [.ref (ad 0), .int 2] (up2 al 0 50 0) (fun q a => zIR a ln len ty st bg n rc re D ran rg ce ∧ (ran = false → a 0 50 = 1) ∧ (ran = true → ¬ zIx p 32 → a 0 50 = 2) ∧ (ran = true → zIx p 32 → a 0 50 = 0 ∧ q = rg p.toNatClampNeg)) := by
    intro hr hb
    refine (r_no G ad ln _ 2).mono (fun q a hq => ?_)
    obtain ⟨-, rfl⟩ := hq
    exact ⟨(h.u50 ln 0).u50 ln 2, (fun z => by rw [hr] at z; cases z), fun _ _ => up2_self _ _ _ _, fun _ z => absurd z hb⟩
  rcases Bool.eq_false_or_eq_true ran with hr | hr
  rotate_left
  · have hz : zb ran = 0 := by rw [hr]; rfl
    rw [hz]
    refine ⟨fun z => absurd rfl z, fun _ => (r_no G ad ln _ 1).mono (fun q a hq => ?_)⟩
    obtain ⟨-, rfl⟩ := hq
    exact ⟨(h.u50 ln 0).u50 ln 1, fun _ => up2_self _ _ _ _, (fun z => by rw [hr] at z; cases z), (fun z => by rw [hr] at z; cases z)⟩
  · have hz : zb ran = 1 := by rw [hr]; rfl
    rw [hz]
    refine ⟨fun _ => ⟨fun q => two hr (fun z => z.1 q), fun q => ⟨fun q2 => ?_, fun q2 => two hr (fun z => q2 (le32.mpr z.2))⟩⟩, fun z => absurd z (by decide)⟩
    have ix : zIx p 32 := ⟨q, le32.mp q2⟩
    obtain ⟨e1, e2⟩ := zInt_rng (by omega) ix.1 ix.2
    exact ⟨by rw [e1]; exact vp_in_nI e2 (by omega), h.u50 ln 0, (fun z => by rw [hr] at z; cases z), fun _ z => absurd ix z, fun _ _ => ⟨up2_self _ _ _ _, (hrg hr).1 _ e2⟩⟩
theorem r_cell (h : zIR al ln len ty st bg n rc re D ran rg ce) (p v : Int32) : zMi G yX11_cell wsX11_cell rmX11_cell zTR ad ln [.ref (ad 0), .int p, .int v] al (fun q a => zIR a ln len ty st bg n rc re D ran rg ce ∧ (ran = false → a 0 50 = 1) ∧ (ran = true → ¬ (zIx p 4 ∧ zIx v 1024) → a 0 50 = 2) ∧ (ran = true → zIx p 4 ∧ zIx v 1024 → a 0 50 = 0 ∧ q = ce (p.toNatClampNeg * 1024 + v.toNatClampNeg))) := by
  refine zMi.of (cc := cX11_cell) (nL := 3) (rt := .int) (by decide) rfl (Nat.le_of_ble_eq_true rfl) (fun Z X hR => ?_)
  refine tX11_cell_0 X _ _ hR al ?_
  unfold vcX11_cell_0 vcX11_cell_38 vcX11_cell_54
  have h47 : al 0 47 = zb ran := h.2.2.2.2.2.2.2.2.2.1
  have hrg := h.2.2.2.2.2.2.2.2.2.2.1
  have le4 : p ≤ 3 ↔ p < nI 4 := zInt_le (m := 3) (by omega)
  have le1 : v ≤ 1023 ↔ v < nI 1024 := zInt_le (m := 1023) (by omega)
  rw [h47]
  have two : ran = true → ¬ (zIx p 4 ∧ zIx v 1024) → zMi G yX11_no wsX11_no rmX11_no zTR ad ln [.ref (ad 0), .int 2] (up2 al 0 50 0) (fun q a => zIR a ln len ty st bg n rc re D ran rg ce ∧ (ran = false → a 0 50 = 1) ∧ (ran = true → ¬ (zIx p 4 ∧ zIx v 1024) → a 0 50 = 2) ∧ (ran = true → zIx p 4 ∧ zIx v 1024 → a 0 50 = 0 ∧ q = ce (p.toNatClampNeg * 1024 + v.toNatClampNeg))) := by
    intro hr hb
    refine (r_no G ad ln _ 2).mono (fun q a hq => ?_)
    obtain ⟨-, rfl⟩ := hq
    exact ⟨(h.u50 ln 0).u50 ln 2, (fun z => by rw [hr] at z; cases z), fun _ _ => up2_self _ _ _ _, fun _ z => absurd z hb⟩
  rcases Bool.eq_false_or_eq_true ran with hr | hr
  rotate_left
  · have hz : zb ran = 0 := by rw [hr]; rfl
    rw [hz]
    refine ⟨fun z => absurd rfl z, fun _ => (r_no G ad ln _ 1).mono (fun q a hq => ?_)⟩
    obtain ⟨-, rfl⟩ := hq
    exact ⟨(h.u50 ln 0).u50 ln 1, fun _ => up2_self _ _ _ _, (fun z => by rw [hr] at z; cases z), (fun z => by rw [hr] at z; cases z)⟩
  · have hz : zb ran = 1 := by rw [hr]; rfl
    rw [hz]
    refine ⟨fun _ => ⟨fun q => two hr (fun z => z.1.1 q), fun q => ⟨fun q2 => two hr (fun z => Int32.not_lt.mpr (le4.mpr z.1.2) q2), fun q2 => ⟨fun q3 => two hr (fun z => z.2.1 q3), fun q3 => ⟨fun q4 => ?_, fun q4 => two hr (fun z => q4 (le1.mpr z.2.2))⟩⟩⟩⟩, fun z => absurd z (by decide)⟩
    have ix : zIx p 4 := ⟨q, le4.mp (Int32.not_lt.mp q2)⟩
    have iv : zIx v 1024 := ⟨q3, le1.mp q4⟩
    obtain ⟨e1, e2⟩ := zInt_rng (by omega) ix.1 ix.2
    obtain ⟨d1, d2⟩ := zInt_rng (by omega) iv.1 iv.2
    refine ⟨by rw [e1]; exact vp_in_nI e2 (by omega), by rw [d1]; exact vp_in_nI d2 (by omega), h.u50 ln 0, (fun z => by rw [hr] at z; cases z), fun _ z => absurd ⟨ix, iv⟩ z, fun _ _ => ⟨up2_self _ _ _ _, ?_⟩⟩
    rw [up2_name _ _ _ (by omega)]
    exact (hrg hr).2 _ _ e2 d2
end REFM2
