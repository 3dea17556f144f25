/-! THE STATE that class and reference share: the tape's length and bytes, settings, begins, the loop, the reason, the distance, what a run left -/
def zSl (n : Nat) (rc : Nat → zRec) (y : Nat) : Int := if (rc y).2.2.2.2.2.2.1 = 114 then zSvI n rc (rc y).2.2.2.2.2.2.2.1.toNatClampNeg else -1
def zSr2 (n : Nat) (rc : Nat → zRec) (y : Nat) : Int := if (rc y).2.2.2.2.2.2.2.2.1 = 114 then zSvI n rc (rc y).2.2.2.2.2.2.2.2.2.toNatClampNeg else -1
def zUsC (n : Nat) (rc : Nat → zRec) : Nat → Nat → Bool := zUsS (zSl n rc) (zSr2 n rc)
section STATE0
variable {n : Nat} {rc : Nat → zRec} {st : Nat → Nat}
theorem zSvI_is (hu : zUq n rc) (hn : n ≤ 48) {x r : Nat} (hx : x < n) (hr : r < 32) : zSvI n rc r = (x : Int) ↔ (rc x).2.2.1 = nI r := by
  refine ⟨fun h => ?_, fun h => ?_⟩
  · rcases zSv_rng n rc r with ⟨g1, g2⟩ | ⟨x', g1, g2, g3, g4⟩
    · unfold zSvI at h
      omega
    · have := g3 hn
      unfold zSvI at h
      have e : x' = x := by omega
      rw [← e]
      exact g4
  · unfold zSvI
    rw [zSv_is hu hn hr hx h, zI_n, zI_toInt ⟨by omega, by omega⟩]
theorem zUs_one (hu : zUq n rc) (hn : n ≤ 48) {x : Nat} (hx : x < n) {s v : Int32} (ho : zOpOk s v) : ((if s = 114 then zSvI n rc v.toNatClampNeg else -1) = (x : Int)) ↔ (s = 114 ∧ v = (rc x).2.2.1) := by
  by_cases q : s = 114
  · rw [if_pos q]
    obtain ⟨o1, o2, o3⟩ := ho.v q
    rw [zSvI_is hu hn hx o1, ← o2]
    exact ⟨fun h => ⟨q, h.symm⟩, fun h => h.2.symm⟩
  · rw [if_neg q]
    exact ⟨fun h => by omega, fun h => absurd h.1 q⟩
theorem zUsC_ok (hu : zUq n rc) (hn : n ≤ 48) (hk : ∀ x, x < n → zRecOk (rc x)) : ∀ x y, x < n → y < n → zUsC n rc x y = zUsX rc x y := by
  intro x y hx hy
  have ok := hk y hy
  have okx := hk x hx
  have l := zUs_one hu hn hx ok.2.2.2.2.2.2.2.1
  have r := zUs_one hu hn hx ok.2.2.2.2.2.2.2.2.1
  unfold zUsC zUsS zUsX zUsR zSl zSr2
  by_cases q : 0 ≤ (rc x).2.2.1
  · rw [decide_eq_true q, Bool.true_and]
    congr 1
    exact propext ⟨fun h => h.imp (fun h => l.mp h) (fun h => r.mp h), fun h => h.imp (fun h => l.mpr h) (fun h => r.mpr h)⟩
  · rw [decide_eq_false q, Bool.false_and]
    refine decide_eq_false (fun h => ?_)
    have bad : ∀ s v : Int32, zOpOk s v → s = 114 → v = (rc x).2.2.1 → False := by
      intro s v ho hs hv
      obtain ⟨o1, o2, o3⟩ := ho.v hs
      refine q ?_
      rw [← hv, o2, show (0 : Int32) = nI 0 from rfl, nI_leI (by omega) (by omega)]
      omega
    rcases h with h | h
    · have := l.mp h
      exact bad _ _ ok.2.2.2.2.2.2.2.1 this.1 this.2
    · have := r.mp h
      exact bad _ _ ok.2.2.2.2.2.2.2.2.1 this.1 this.2
end STATE0
/-- a byte, as an int -/
def zBt (v : Int32) : Prop := -128 ≤ v.toInt ∧ v.toInt < 128
/-- the reference holds the state -/
def zIR (a : Nat → Nat → Int32) (ln : Nat → Nat) (len : Nat) (ty : Nat → Int32) (st : Nat → Nat) (bg : Nat → Int32) (n : Nat) (rc : Nat → zRec) (re : Int32) (D : Nat) (ran : Bool) (rg ce : Nat → Int32) : Prop :=
  (a 0 11 = nI len ∧ len ≤ 4096 ∧ ∀ j, j < len → a 10 j = ty j ∧ zBt (ty j)) ∧ zRst a st ∧ (∀ i, i < 32 → a 24 i = bg i) ∧ zRr a n rc ∧ zUq n rc ∧ a 0 46 = (if n = 0 then 0 else 1) ∧ a 0 48 = re ∧ a 0 33 = nI D ∧ (D = 0 ∨ (0 < n ∧ D = zLy n rc st (zUsC n rc) ∧ zRl a n rc st (zUsC n rc) D)) ∧ a 0 47 = zb ran ∧ (ran = true → zRCr a (rg, ce)) ∧ ln 28 < 2147483648
section REFM
variable (G : zG) (ad ln : Nat → Nat) (al : Nat → Nat → Int32) {len : Nat} {ty : Nat → Int32} {st : Nat → Nat} {bg : Nat → Int32} {n : Nat} {rc : Nat → zRec} {re : Int32} {D : Nat} {ran : Bool} {rg ce : Nat → Int32}
theorem zRl.fr {a a' : Nat → Nat → Int32} {n : Nat} {rc : Nat → zRec} {st : Nat → Nat} {us : Nat → Nat → Bool} {D : Nat} (h : zRl a n rc st us D) (h0 : ∀ j, j = 34 ∨ j = 35 ∨ j = 40 ∨ j = 41 → a' 0 j = a 0 j) (h17 : a' 17 = a 17) (h19 : a' 19 = a 19) (h20 : a' 20 = a 20) (h21 : a' 21 = a 21) (h22 : a' 22 = a 22) : zRl a' n rc st us D := by
  unfold zRl
  rw [h0 34 (by omega), h0 35 (by omega), h0 40 (by omega), h0 41 (by omega), h17, h19, h20, h21, h22]
  exact h
/-- what does not touch what the state speaks of -/
theorem zIR.fr {l : List Nat} {a a' : Nat → Nat → Int32} (h : zIR a ln len ty st bg n rc re D ran rg ce) (hf : zFr l a a') (h0 : ∀ j, j ≠ 28 → j ≠ 50 → a' 0 j = a 0 j) (hl : ∀ k, k ∈ l → k = 0 ∨ k = 12 ∨ k = 13 ∨ k = 14 ∨ k = 15 ∨ k = 16 ∨ (29 ≤ k ∧ k < 77)) : zIR a' ln len ty st bg n rc re D ran rg ce := by
  obtain ⟨h1, h2, h3, h4, h5, h6, h7, h8, h9, h10, h11, h12⟩ := h
  have no : ∀ k, ¬ (k = 0 ∨ k = 12 ∨ k = 13 ∨ k = 14 ∨ k = 15 ∨ k = 16 ∨ (29 ≤ k ∧ k < 77)) → a' k = a k := fun k hk => hf k (fun z => hk (hl k z))
  refine ⟨?_, h2.fr (no 11 (by omega)) (fun j _ _ => h0 j (by omega) (by omega)), ?_, h4.fr hf (h0 9 (by omega) (by omega)) (fun k hk => by have := hl k hk; omega), h5, ?_, ?_, ?_, ?_, ?_, fun hr => ?_, h12⟩
  · rw [h0 11 (by omega) (by omega), no 10 (by omega)]
    exact h1
  · rw [no 24 (by omega)]
    exact h3
  · rw [h0 46 (by omega) (by omega)]
    exact h6
  · rw [h0 48 (by omega) (by omega)]
    exact h7
  · rw [h0 33 (by omega) (by omega)]
    exact h8
  · refine h9.imp id (fun ⟨g1, g2, g3⟩ => ⟨g1, g2, g3.fr (fun j hj => h0 j (by omega) (by omega)) (no 17 (by omega)) (no 19 (by omega)) (no 20 (by omega)) (no 21 (by omega)) (no 22 (by omega))⟩)
  · rw [h0 47 (by omega) (by omega)]
    exact h10
  · have := h11 hr
    refine ⟨fun i hi => ?_, fun q i hq hi => ?_⟩
    · rw [no 25 (by omega)]
      exact this.1 i hi
    · rw [no (77 + q) (by omega)]
      exact this.2 q i hq hi
theorem zIR.u50 {a : Nat → Nat → Int32} (h : zIR a ln len ty st bg n rc re D ran rg ce) (v : Int32) : zIR (up2 a 0 50 v) ln len ty st bg n rc re D ran rg ce :=
  h.fr ln (l := [0]) (zFr.rf.up (by decide) _ _) (fun j _ hj => up2_ne _ _ (fun z => hj z.2)) (by decide)
theorem r_no (v : Int32) : zMi G yX11_no wsX11_no rmX11_no zTR ad ln [.ref (ad 0), .int v] al (fun q a => q = 0 ∧ a = up2 al 0 50 v) := by
  refine zMi.of (cc := cX11_no) (nL := 2) (rt := .int) (by decide) rfl (Nat.le_of_ble_eq_true rfl) (fun Z X hR => ?_)
  refine tX11_no_0 X _ hR al ?_
  unfold vcX11_no_0
  exact ⟨rfl, rfl⟩
theorem r_thrown : zMi G yX11_thrown wsX11_thrown rmX11_thrown zTR ad ln [.ref (ad 0)] al (fun q a => q = al 0 50 ∧ a = al) := by
  refine zMi.of (cc := cX11_thrown) (nL := 1) (rt := .int) (by decide) rfl (Nat.le_of_ble_eq_true rfl) (fun Z X hR => ?_)
  refine tX11_thrown_0 X hR al ?_
  unfold vcX11_thrown_0
  exact ⟨rfl, rfl⟩
theorem r_away : zMv G yX11_away wsX11_away rmX11_away zTR ad ln [.ref (ad 0)] al (fun a => a = up2 (up2 al 0 33 0) 0 47 0) := by
  refine zMv.of (cc := cX11_away) (nL := 1) (by decide) rfl (Nat.le_of_ble_eq_true rfl) (fun Z X hR => ?_)
  refine tX11_away_0 X hR al ?_
  unfold vcX11_away_0
  rfl
/-- after away: neither laid nor run -/
theorem zIR.aw {a : Nat → Nat → Int32} (h : zIR a ln len ty st bg n rc re D ran rg ce) : zIR (up2 (up2 a 0 33 0) 0 47 0) ln len ty st bg n rc re 0 false rg ce := by
  obtain ⟨h1, h2, h3, h4, h5, h6, h7, h8, h9, h10, h11, h12⟩ := h
  have f : zFr [0] a (up2 (up2 a 0 33 0) 0 47 0) := (zFr.rf.up (by decide) _ _).up (by decide) _ _
  have e0 : ∀ j, j ≠ 33 → j ≠ 47 → up2 (up2 a 0 33 0) 0 47 0 0 j = a 0 j := fun j j1 j2 => by rw [up2_ne _ _ (fun z => j2 z.2), up2_ne _ _ (fun z => j1 z.2)]
  refine ⟨?_, h2.fr (f 11 (by decide)) (fun j _ _ => e0 j (by omega) (by omega)), ?_, h4.fr f (e0 9 (by omega) (by omega)) (by decide), h5, ?_, ?_, ?_, Or.inl rfl, up2_self _ _ _ _, (fun hr => by cases hr), h12⟩
  · rw [e0 11 (by omega) (by omega), f 10 (by decide)]
    exact h1
  · rw [f 24 (by decide)]
    exact h3
  · rw [e0 46 (by omega) (by omega)]
    exact h6
  · rw [e0 48 (by omega) (by omega)]
    exact h7
  · rw [up2_ne _ _ (by decide), up2_self]
    rfl
theorem r_end (h : zIR al ln len ty st bg n rc re D ran rg ce) (p : Int32) : zMi G yX11_end wsX11_end rmX11_end zTR ad ln [.ref (ad 0), .int p] al (fun q a => (p < 0 ∨ ¬ p ≤ nI len → a 0 50 = 1 ∧ zIR a ln len ty st bg n rc re D ran rg ce) ∧ (¬ (p < 0 ∨ ¬ p ≤ nI len) → a 0 50 = 0 ∧ q = p ∧ zIR a ln p.toNatClampNeg ty st bg n rc re D ran rg ce)) := by
  refine zMi.of (cc := cX11_end) (nL := 2) (rt := .int) (by decide) rfl (Nat.le_of_ble_eq_true rfl) (fun Z X hR => ?_)
  refine tX11_end_0 X _ hR al ?_
  unfold vcX11_end_0 vcX11_end_17
  have no : p < 0 ∨ ¬ p ≤ nI len → zMi G yX11_no wsX11_no rmX11_no zTR ad ln [.ref (ad 0), .int 1] (up2 al 0 50 0) (fun q a => (p < 0 ∨ ¬ p ≤ nI len → a 0 50 = 1 ∧ zIR a ln len ty st bg n rc re D ran rg ce) ∧ (¬ (p < 0 ∨ ¬ p ≤ nI len) → a 0 50 = 0 ∧ q = p ∧ zIR a ln p.toNatClampNeg ty st bg n rc re D ran rg ce)) := by
    intro hb
    refine (r_no G ad ln _ 1).mono (fun q a hq => ⟨fun _ => ?_, fun z => absurd hb z⟩)
    obtain ⟨-, rfl⟩ := hq
    exact ⟨up2_self _ _ _ _, (h.u50 ln 0).u50 ln 1⟩
  have h0 := h
  obtain ⟨h1, h2, h3, h4, h5, h6, h7, h8, h9, h10, h11, h12⟩ := h
  rw [h1.1]
  refine ⟨fun q => no (Or.inl q), fun q => ⟨fun q2 => ⟨fun z => absurd z (fun z => z.elim q (fun z => z q2)), fun _ => ⟨?_, rfl, ?_⟩⟩, fun q2 => no (Or.inr q2)⟩⟩
  · rw [up2_ne _ _ (by decide), up2_self]
  · have hp : p = nI p.toNatClampNeg ∧ p.toNatClampNeg ≤ len := by
      have r := zR_of p
      rw [zI_of p, zI_0, zI_lt r ⟨by omega, by omega⟩] at q
      rw [zI_of p, zI_n, zI_le r ⟨by omega, by omega⟩] at q2
      have e : p.toNatClampNeg = p.toInt.toNat := by
        rw [zI_of p, zI_clamp r, zI_toInt r]
      refine ⟨?_, by omega⟩
      rw [e, zI_n, show ((p.toInt.toNat : Nat) : Int) = p.toInt by omega, ← zI_of]
    generalize hm : p.toNatClampNeg = m at hp
    have g := (h0.u50 ln 0)
    obtain ⟨g1, g2, g3, g4, g5, g6, g7, g8, g9, g10, g11, g12⟩ := g
    have f : zFr [0] (up2 al 0 50 0) (up2 (up2 al 0 50 0) 0 11 p) := zFr.rf.up (by decide) _ _
    have e0 : ∀ j, j ≠ 11 → up2 (up2 al 0 50 0) 0 11 p 0 j = up2 al 0 50 0 0 j := fun j j1 => up2_ne _ _ (fun z => j1 z.2)
    refine ⟨⟨?_, by omega, fun j hj => ?_⟩, g2.fr (f 11 (by decide)) (fun j _ _ => e0 j (by omega)), ?_, g4.fr f (e0 9 (by omega)) (by decide), g5, ?_, ?_, ?_, ?_, ?_, ?_, g12⟩
    · rw [up2_self]
      exact hp.1
    · rw [f 10 (by decide)]
      exact g1.2.2 j (by omega)
    · rw [f 24 (by decide)]
      exact g3
    · rw [e0 46 (by omega)]
      exact g6
    · rw [e0 48 (by omega)]
      exact g7
    · rw [e0 33 (by omega)]
      exact g8
    · exact g9.imp id (fun ⟨k1, k2, k3⟩ => ⟨k1, k2, k3.fr (fun j hj => e0 j (by omega)) (f 17 (by decide)) (f 19 (by decide)) (f 20 (by decide)) (f 21 (by decide)) (f 22 (by decide))⟩)
    · rw [e0 47 (by omega)]
      exact g10
    · intro hr
      refine ⟨fun i hi => ?_, fun q i hq hi => ?_⟩
      · rw [f 25 (by decide)]
        exact (g11 hr).1 i hi
      · rw [f (77 + q) (by simp)]
        exact (g11 hr).2 q i hq hi
end REFM
