/-! THE CLASS: its public methods over the shared state -/
/-- a loop that is laid, in the class -/
def zCld (a : Nat → Nat → Int32) (n : Nat) (rc : Nat → zRec) (st : Nat → Nat) (D : Nat) : Prop := a 18 7 = nI (zFl n rc st D).2.1 ∧ a 18 8 = zI (zGt n rc st D) ∧ (∀ x, x < n → a 19 x = zI (zCy n rc st D x) ∧ a 17 x = zI (zHt n rc st D x) ∧ a 23 x = zI (lB n rc st (zUsC n rc) D x) ∧ a 24 x = zI (lE n rc st (zUsC n rc) D x)) ∧ a 22 11 = zI (lNd n rc st (zUsC n rc) D) ∧ ∃ sz off, lF n rc st (zUsC n rc) D = some (sz, off) ∧ (1 ≤ sz ∧ sz ≤ 128) ∧ a 22 12 = nI sz ∧ ∀ x, x < n → a 25 x = zI (off x)
/-- the class holds the state: r, has it a Runner; cap, the room of its waits; wk, lk, does it know waits and laying -/
def zIC (r : Bool) (a : Nat → Nat → Int32) (ln : Nat → Nat) (cap : Nat) (wk lk : Bool) (len : Nat) (ty : Nat → Int32) (st : Nat → Nat) (bg : Nat → Int32) (n : Nat) (rc : Nat → zRec) (re : Int32) (D : Nat) (ran : Bool) (rg ce : Nat → Int32) : Prop :=
  (a 0 1 = nI len ∧ len ≤ 4096 ∧ ∀ j, j < len → a 1 j = ty j ∧ zBt (ty j)) ∧ zCl a n rc st ∧ (∀ i, i < 32 → a 3 i = bg i) ∧ (a 0 10 = re ∧ a 0 11 = zb wk ∧ a 0 12 = zb lk ∧ a 0 13 = nI D ∧ a 0 14 = zb ran) ∧ (∃ L, zWc a ln cap L) ∧ (wk = true → 0 < n ∧ zLrn a ln n rc st cap) ∧ ((lk = true → wk = true ∧ D = zLy n rc st (zUsC n rc)) ∧ (lk = false → D = 0)) ∧ (D ≠ 0 → zCld a n rc st D) ∧ (ran = true → r = true ∧ (∀ i, i < 32 → a 175 i = rg i) ∧ ∀ i, i < 4096 → a 174 i = ce i)
theorem zWc.fr {a a' : Nat → Nat → Int32} {ln : Nat → Nat} {cap : Nat} {L : List zWe} (h : zWc a ln cap L) (h12 : a' 12 2 = a 12 2) (h13 : a' 13 = a 13) (h14 : a' 14 = a 14) (h15 : a' 15 = a 15) (h16 : a' 16 = a 16) : zWc a' ln cap L := by
  unfold zWc
  rw [h12, h13, h14, h15, h16]
  exact h
theorem zLrn.fr {a a' : Nat → Nat → Int32} {ln : Nat → Nat} {cap n : Nat} {rc : Nat → zRec} {st : Nat → Nat} (h : zLrn a ln n rc st cap) (h12 : a' 12 = a 12) (h13 : a' 13 = a 13) (h14 : a' 14 = a 14) (h15 : a' 15 = a 15) (h16 : a' 16 = a 16) : zLrn a' ln n rc st cap := by
  unfold zLrn
  rw [h12]
  exact ⟨h.1.fr (by rw [h12]) h13 h14 h15 h16, h.2⟩
theorem zCld.fr {l : List Nat} {a a' : Nat → Nat → Int32} {n : Nat} {rc : Nat → zRec} {st : Nat → Nat} {D : Nat} (h : zCld a n rc st D) (hf : zFr l a a') (hl : 17 ∉ l ∧ 18 ∉ l ∧ 19 ∉ l ∧ 22 ∉ l ∧ 23 ∉ l ∧ 24 ∉ l ∧ 25 ∉ l) : zCld a' n rc st D := by
  obtain ⟨h1, h2, h3, h4, h5, h6, h7⟩ := hl
  unfold zCld
  rw [hf 17 h1, hf 18 h2, hf 19 h3, hf 22 h4, hf 23 h5, hf 24 h6, hf 25 h7]
  exact h
section CLS
variable (G : zG) (r : Bool) (ad ln : Nat → Nat) (al : Nat → Nat → Int32) {cap : Nat} {wk lk : Bool} {len : Nat} {ty : Nat → Int32} {st : Nat → Nat} {bg : Nat → Int32} {n : Nat} {rc : Nat → zRec} {re : Int32} {D : Nat} {ran : Bool} {rg ce : Nat → Int32}
/-- what lies below 0, 1 and 3 -/
theorem zIC.low {a a' : Nat → Nat → Int32} (h : zIC r a ln cap wk lk len ty st bg n rc re D ran rg ce) (hf : zFr [0, 1, 3] a a') : zCl a' n rc st ∧ (∃ L, zWc a' ln cap L) ∧ (wk = true → 0 < n ∧ zLrn a' ln n rc st cap) ∧ (D ≠ 0 → zCld a' n rc st D) ∧ (ran = true → r = true ∧ (∀ i, i < 32 → a' 175 i = rg i) ∧ ∀ i, i < 4096 → a' 174 i = ce i) := by
  obtain ⟨g1, g2, g3, g4, ⟨L, g5⟩, g6, g7, g8, g9⟩ := h
  refine ⟨g2.fr hf (by decide), ⟨L, g5.fr (by rw [hf 12 (by decide)]) (hf 13 (by decide)) (hf 14 (by decide)) (hf 15 (by decide)) (hf 16 (by decide))⟩, fun w => ⟨(g6 w).1, (g6 w).2.fr (hf 12 (by decide)) (hf 13 (by decide)) (hf 14 (by decide)) (hf 15 (by decide)) (hf 16 (by decide))⟩, fun d => (g8 d).fr hf (by decide), fun w => ?_⟩
  rw [hf 175 (by decide), hf 174 (by decide)]
  exact g9 w
theorem zIC.gd {a : Nat → Nat → Int32} (h : zIC r a ln cap wk lk len ty st bg n rc re D ran rg ce) (hn : n ≠ 0) : zGd n rc st := h.2.1.gd (by omega)
theorem zIC.dle {a : Nat → Nat → Int32} (h : zIC r a ln cap wk lk len ty st bg n rc re D ran rg ce) : D ≤ 200 ∧ (D ≠ 0 → n ≠ 0 ∧ lk = true ∧ D = zLy n rc st (zUsC n rc)) := by
  obtain ⟨g1, g2, g3, g4, g5, g6, g7, g8, g9⟩ := h
  have key : D ≠ 0 → n ≠ 0 ∧ lk = true ∧ D = zLy n rc st (zUsC n rc) := fun d => by
    have hl : lk = true := by
      cases lk with
      | false => exact absurd (g7.2 rfl) d
      | true => rfl
    obtain ⟨w, e⟩ := g7.1 hl
    have := (g6 w).1
    exact ⟨by omega, hl, e⟩
  refine ⟨?_, key⟩
  by_cases d : D = 0
  · omega
  · obtain ⟨n0, hl, e⟩ := key d
    have := (zLy_ok (us := zUsC n rc) (g2.gd (by omega)) (by rw [← e]; exact d)).1
    omega
theorem c_appendBytes {f : Nat} (hf : f + 4 ≤ 4096) (h1 : al 0 1 = nI f) (v : Int32) : zMv G yX9_appendBytes wsX9_appendBytes rmX9_appendBytes (zTC r) ad ln [.ref (ad 0), .int v] al (fun a => zFr [0, 1] al a ∧ (∀ j, j ≠ 1 → a 0 j = al 0 j) ∧ a 0 1 = nI (f + 4) ∧ ∀ j, a 1 j = zTw1 (al 1) f v j) := by
  refine zMv.of (cc := cX9_appendBytes) (nL := 3) (by decide) rfl (Nat.le_of_ble_eq_true rfl) (fun Z X hR => ?_)
  have loop : ∀ (g k : Nat) (a : Nat → Nat → Int32), k + g = 4 → zFr [0, 1] al a → (∀ j, j ≠ 1 → a 0 j = al 0 j) → a 0 1 = nI (f + k) → (∀ j, a 1 j = if f ≤ j ∧ j < f + k then zWb v (j - f) else al 1 j) → BX9_appendBytes_3 G Z r ad ln v (24 - 8 * nI k) a := by
    intro g
    induction g with
    | zero =>
      intro k a hk hfr h0 h01 ha
      refine uX9_appendBytes_3 X _ hR _ a ?_
      unfold vcX9_appendBytes_3 vcX9_appendBytes_46
      have : k = 4 := by omega
      subst this
      exact ⟨fun _ => ⟨hfr, h0, h01, ha⟩, fun z => absurd (by decide) z⟩
    | succ g ih =>
      intro k a hk hfr h0 h01 ha
      refine uX9_appendBytes_3 X _ hR _ a ?_
      unfold vcX9_appendBytes_3
      have e : (24 - 8 * nI k) + (-8 : Int32) = 24 - 8 * nI (k + 1) := by
        rw [zI_n, zI_n, show (8 : Int32) = zI 8 from rfl, show (24 : Int32) = zI 24 from rfl, zI_mul, zI_sub, zI_neg, zI_add, zI_mul, zI_sub]
        congr 1
        omega
      have hneg : ¬ (24 - 8 * nI k) < 0 := by
        rw [zI_n, show (8 : Int32) = zI 8 from rfl, show (24 : Int32) = zI 24 from rfl, zI_mul, zI_sub, zI_0, zI_lt ⟨by omega, by omega⟩ ⟨by omega, by omega⟩]
        omega
      rw [h01, nI_clamp (by omega), show (4096 : Int32) = nI 4096 from rfl, nI_leI (by omega) (by omega), e, nI_1]
      refine ⟨fun z => absurd z hneg, fun _ => ⟨fun z => absurd z (by omega), fun _ => ⟨vp_in_nI (by omega) (by omega), ih (k + 1) _ (by omega) ((hfr.up (by decide) _ _).up (by decide) _ _) (fun j hj => ?_) (up2_self _ _ _ _) (fun j => ?_)⟩⟩⟩
      · rw [up2_ne _ _ (fun z => hj z.2), up2_name _ _ _ (by decide)]
        exact h0 j hj
      · rw [up2_name _ _ _ (by decide)]
        by_cases q : j = f + k
        · subst q
          rw [up2_self, if_pos (by omega), show f + k - f = k by omega]
          rfl
        · rw [up2_ne _ _ (fun z => q z.2), ha j]
          by_cases q2 : f ≤ j ∧ j < f + k
          · rw [if_pos q2, if_pos (by omega)]
          · rw [if_neg q2, if_neg (by omega)]
  refine uX9_appendBytes_0 X _ hR al ?_
  unfold vcX9_appendBytes_0
  exact loop 4 0 al (by omega) zFr.rf (fun _ _ => rfl) h1 (fun j => by rw [if_neg (by omega)])
theorem c_forgetPlan : zMv G yX9_forgetPlan wsX9_forgetPlan rmX9_forgetPlan (zTC r) ad ln [.ref (ad 0)] al (fun a => a = up2 (up2 (up2 (up2 al 0 11 0) 0 12 0) 0 13 0) 0 14 0) := by
  refine zMv.of (cc := cX9_forgetPlan) (nL := 1) (by decide) rfl (Nat.le_of_ble_eq_true rfl) (fun Z X hR => ?_)
  refine tX9_forgetPlan_0 X hR al ?_
  unfold vcX9_forgetPlan_0
  rfl
/-- the same world, other ints -/
abbrev zSame (r : Bool) (ad ln : Nat → Nat) (u : zU) : Prop := u.1 = zTC r ∧ u.2.1 = ad ∧ u.2.2.1 = ln
theorem zIC.tape {a a' : Nat → Nat → Int32} {len' : Nat} {ty' : Nat → Int32} (h : zIC r a ln cap wk lk len ty st bg n rc re D ran rg ce) (hf : zFr [0, 1] a a') (h0 : ∀ j, j ≠ 1 → a' 0 j = a 0 j) (h1 : a' 0 1 = nI len' ∧ len' ≤ 4096) (ht : ∀ j, j < len' → a' 1 j = ty' j ∧ zBt (ty' j)) : zIC r a' ln cap wk lk len' ty' st bg n rc re D ran rg ce := by
  obtain ⟨l1, l2, l3, l4, l5⟩ := h.low r ln (hf.mono (by decide))
  obtain ⟨g1, g2, g3, g4, g5, g6, g7, g8, g9⟩ := h
  refine ⟨⟨h1.1, h1.2, ht⟩, l1, ?_, ?_, l2, l3, g7, l4, l5⟩
  · rw [hf 3 (by decide)]
    exact g3
  · rw [h0 10 (by decide), h0 11 (by decide), h0 12 (by decide), h0 13 (by decide), h0 14 (by decide)]
    exact g4
theorem c_feed (h : zIC r al ln cap wk lk len ty st bg n rc re D ran rg ce) (p1 p2 p3 p4 p5 : Int32) : zXi G yX9_feed wsX9_feed (rmX9_feed 1 6) (zTC r, ad, ln, al) [.ref (ad 0), .int p1, .int p2, .int p3, .int p4, .int p5] (fun q u => zSame r ad ln u ∧ len + 20 ≤ 4096 ∧ q = nI (len + 20) ∧ zIC r u.2.2.2 ln cap wk lk (len + 20) (zFd ty len p1 p2 p3 p4 p5) st bg n rc re D ran rg ce) (fun E u => E = "java/lang/IndexOutOfBoundsException" ∧ 4096 < len + 20 ∧ zSame r ad ln u ∧ zIC r u.2.2.2 ln cap wk lk len ty st bg n rc re D ran rg ce) := by
  refine zXi.of (cc := cX9_feed) (nL := 6) (rt := .int) (by decide) rfl rfl (Nat.le_of_ble_eq_true rfl) (fun Z X hEZ hR hT => ?_)
  refine uX9_feed_0 X 1 6 0 0 (by omega) (by omega) _ _ _ _ _ (hR (zTC r) ad ln) al ?_
  unfold vcX9_feed_0
  have h0 := h
  obtain ⟨⟨h1, hl, ht⟩, -⟩ := h
  rw [h1, show (4076 : Int32) = nI 4076 from rfl, nI_leI (by omega) (by omega)]
  refine ⟨fun q => ?_, fun q => zt_feed_10 hT ⟨⟨Nat.le_of_ble_eq_true rfl, Nat.le_of_ble_eq_true rfl⟩, Nat.le_of_ble_eq_true rfl, Nat.le_of_ble_eq_true rfl⟩ ⟨rfl, by omega, ⟨rfl, rfl, rfl⟩, h0⟩⟩
  refine (c_appendBytes G r ad ln al (f := len) (by omega) h1 p1).mono (fun a2 hq2 => ?_)
  refine (c_appendBytes G r ad ln a2 (f := len + 4) (by omega) hq2.2.2.1 p2).mono (fun a3 hq3 => ?_)
  refine (c_appendBytes G r ad ln a3 (f := len + 8) (by omega) hq3.2.2.1 p3).mono (fun a4 hq4 => ?_)
  refine (c_appendBytes G r ad ln a4 (f := len + 12) (by omega) hq4.2.2.1 p4).mono (fun a5 hq5 => ?_)
  refine (c_appendBytes G r ad ln a5 (f := len + 16) (by omega) hq5.2.2.1 p5).mono (fun a6 hq6 => ?_)
  refine ⟨⟨rfl, rfl, rfl⟩, by omega, hq6.2.2.1, ?_⟩
  refine h0.tape r ln (a' := a6) ((((hq2.1.tr hq3.1).tr hq4.1).tr hq5.1).tr hq6.1) (fun j hj => by rw [hq6.2.1 j hj, hq5.2.1 j hj, hq4.2.1 j hj, hq3.2.1 j hj, hq2.2.1 j hj]) ⟨hq6.2.2.1, by omega⟩ (fun j hj => ?_)
  rw [hq6.2.2.2 j]
  have a2e : a2 1 = zTw1 (al 1) len p1 := funext hq2.2.2.2
  have a3e : a3 1 = zTw1 (a2 1) (len + 4) p2 := funext hq3.2.2.2
  have a4e : a4 1 = zTw1 (a3 1) (len + 8) p3 := funext hq4.2.2.2
  have a5e : a5 1 = zTw1 (a4 1) (len + 12) p4 := funext hq5.2.2.2
  rw [a5e, a4e, a3e, a2e]
  have b0 : ∀ j, j < len → zBt (ty j) := fun j hj => (ht j hj).2
  have c0 : ∀ j, j < len → al 1 j = ty j := fun j hj => (ht j hj).1
  have c1 : ∀ j, j < len + 4 → zTw1 (al 1) len p1 j = zTw1 ty len p1 j := fun j hj => zTw1_co c0 j (by omega)
  have b1 : ∀ j, j < len + 4 → zBt (zTw1 ty len p1 j) := fun j hj => zTw1_bt b0 j (by omega)
  have c2 : ∀ j, j < len + 8 → zTw1 (zTw1 (al 1) len p1) (len + 4) p2 j = zTw1 (zTw1 ty len p1) (len + 4) p2 j := fun j hj => zTw1_co c1 j (by omega)
  have b2 : ∀ j, j < len + 8 → zBt (zTw1 (zTw1 ty len p1) (len + 4) p2 j) := fun j hj => zTw1_bt b1 j (by omega)
  have c3 : ∀ j, j < len + 12 → zTw1 (zTw1 (zTw1 (al 1) len p1) (len + 4) p2) (len + 8) p3 j = zTw1 (zTw1 (zTw1 ty len p1) (len + 4) p2) (len + 8) p3 j := fun j hj => zTw1_co c2 j (by omega)
  have b3 : ∀ j, j < len + 12 → zBt (zTw1 (zTw1 (zTw1 ty len p1) (len + 4) p2) (len + 8) p3 j) := fun j hj => zTw1_bt b2 j (by omega)
  have c4 : ∀ j, j < len + 16 → zTw1 (zTw1 (zTw1 (zTw1 (al 1) len p1) (len + 4) p2) (len + 8) p3) (len + 12) p4 j = zTw1 (zTw1 (zTw1 (zTw1 ty len p1) (len + 4) p2) (len + 8) p3) (len + 12) p4 j := fun j hj => zTw1_co c3 j (by omega)
  have b4 : ∀ j, j < len + 16 → zBt (zTw1 (zTw1 (zTw1 (zTw1 ty len p1) (len + 4) p2) (len + 8) p3) (len + 12) p4 j) := fun j hj => zTw1_bt b3 j (by omega)
  exact ⟨zTw1_co c4 j (by omega), zTw1_bt b4 j (by omega)⟩
theorem c_end (h : zIC r al ln cap wk lk len ty st bg n rc re D ran rg ce) (p : Int32) : zXi G yX9_end wsX9_end (rmX9_end 1 6) (zTC r, ad, ln, al) [.ref (ad 0), .int p] (fun q u => zSame r ad ln u ∧ ¬ (p < 0 ∨ ¬ p ≤ nI len) ∧ q = p ∧ zIC r u.2.2.2 ln cap wk lk p.toNatClampNeg ty st bg n rc re D ran rg ce) (fun E u => E = "java/lang/IllegalArgumentException" ∧ (p < 0 ∨ ¬ p ≤ nI len) ∧ zSame r ad ln u ∧ zIC r u.2.2.2 ln cap wk lk len ty st bg n rc re D ran rg ce) := by
  refine zXi.of (cc := cX9_end) (nL := 2) (rt := .int) (by decide) rfl rfl (Nat.le_of_ble_eq_true rfl) (fun Z X hEZ hR hT => ?_)
  refine uX9_end_0 X 1 6 0 0 (by omega) (by omega) _ (hR (zTC r) ad ln) al ?_
  unfold vcX9_end_0
  have h0 := h
  obtain ⟨⟨h1, hl, ht⟩, -⟩ := h
  have thr : (p < 0 ∨ ¬ p ≤ nI len) → BX9_end_12 G Z r ad ln 1 6 0 0 (by omega) (by omega) p al := fun hb => zt_end_12 hT ⟨⟨Nat.le_of_ble_eq_true rfl, Nat.le_of_ble_eq_true rfl⟩, Nat.le_of_ble_eq_true rfl, Nat.le_of_ble_eq_true rfl⟩ ⟨rfl, hb, ⟨rfl, rfl, rfl⟩, h0⟩
  rw [h1]
  refine ⟨fun q => thr (Or.inl q), fun q => ⟨fun q2 => ⟨⟨rfl, rfl, rfl⟩, fun z => z.elim q (fun z => z q2), rfl, ?_⟩, fun q2 => thr (Or.inr q2)⟩⟩
  have hp : p = nI p.toNatClampNeg ∧ p.toNatClampNeg < len + 1 := zInt_rng (by omega) q ((zInt_le (by omega)).mp q2)
  refine h0.tape r ln (a' := up2 al 0 1 p) (zFr.rf.up (by decide) _ _) (fun j hj => up2_ne _ _ (fun z => hj z.2)) ⟨(up2_self _ _ _ _).trans hp.1, by omega⟩ (fun j hj => ?_)
  rw [up2_name _ _ _ (by decide)]
  exact ht j (by omega)
theorem c_begin (h : zIC r al ln cap wk lk len ty st bg n rc re D ran rg ce) (p v : Int32) : zXi G yX9_begin wsX9_begin (rmX9_begin 1 6) (zTC r, ad, ln, al) [.ref (ad 0), .int p, .int v] (fun q u => zSame r ad ln u ∧ zIx p 32 ∧ q = bg p.toNatClampNeg ∧ zIC r u.2.2.2 ln cap wk lk len ty st (fu bg p.toNatClampNeg v) n rc re D false rg ce) (fun E u => E = "java/lang/IllegalArgumentException" ∧ ¬ zIx p 32 ∧ zSame r ad ln u ∧ zIC r u.2.2.2 ln cap wk lk len ty st bg n rc re D ran rg ce) := by
  refine zXi.of (cc := cX9_begin) (nL := 4) (rt := .int) (by decide) rfl rfl (Nat.le_of_ble_eq_true rfl) (fun Z X hEZ hR hT => ?_)
  refine uX9_begin_0 X 1 6 0 0 (by omega) (by omega) _ _ (hR (zTC r) ad ln) al ?_
  unfold vcX9_begin_0
  have thr : ¬ zIx p 32 → BX9_begin_10 G Z r ad ln 1 6 0 0 (by omega) (by omega) p v al := fun hb => zt_begin_10 hT ⟨⟨Nat.le_of_ble_eq_true rfl, Nat.le_of_ble_eq_true rfl⟩, Nat.le_of_ble_eq_true rfl, Nat.le_of_ble_eq_true rfl⟩ ⟨rfl, hb, ⟨rfl, rfl, rfl⟩, h⟩
  refine ⟨fun q => thr (fun z => z.1 q), fun q => ⟨fun q2 => ?_, fun q2 => thr (fun z => q2 z.2)⟩⟩
  have ix : zIx p 32 := ⟨q, q2⟩
  obtain ⟨e1, e2⟩ := zInt_rng (by omega) ix.1 ix.2
  have v32 : vp_in p 32 := by rw [e1]; exact vp_in_nI e2 (by omega)
  refine ⟨v32, v32, ⟨rfl, rfl, rfl⟩, ix, h.2.2.1 _ e2, ?_⟩
  show zIC r (up2 (up2 al 3 p.toNatClampNeg v) 0 14 0) ln cap wk lk len ty st (fu bg p.toNatClampNeg v) n rc re D false rg ce
  generalize p.toNatClampNeg = m at e2
  have f : zFr [0, 1, 3] al (up2 (up2 al 3 m v) 0 14 0) := (zFr.rf.up (by decide) _ _).up (by decide) _ _
  have e0 : ∀ j, j ≠ 14 → up2 (up2 al 3 m v) 0 14 0 0 j = al 0 j := fun j j1 => by rw [up2_ne _ _ (fun z => j1 z.2), up2_name _ _ _ (by decide)]
  obtain ⟨l1, l2, l3, l4, l5⟩ := h.low r ln f
  obtain ⟨g1, g2, g3, g4, g5, g6, g7, g8, g9⟩ := h
  refine ⟨?_, l1, fun i hi => ?_, ?_, l2, l3, g7, l4, (fun hr => by cases hr)⟩
  · rw [e0 1 (by decide), up2_name _ _ _ (by decide), up2_name _ _ _ (by decide)]
    exact g1
  · rw [up2_name _ _ _ (by decide)]
    by_cases e : i = m
    · subst e
      rw [up2_self, fu_self]
    · rw [up2_ne _ _ (fun z => e z.2), fu_ne _ _ e]
      exact g3 i hi
  · rw [e0 10 (by decide), e0 11 (by decide), e0 12 (by decide), e0 13 (by decide)]
    exact ⟨g4.1, g4.2.1, g4.2.2.1, g4.2.2.2.1, up2_self _ _ _ _⟩
theorem c_set (h : zIC r al ln cap wk lk len ty st bg n rc re D ran rg ce) (p v : Int32) : zXi G yX9_set wsX9_set (rmX9_set 1 6) (zTC r, ad, ln, al) [.ref (ad 0), .int p, .int v] (fun q u => zSame r ad ln u ∧ zStOk p v ∧ q = nI (st p.toNatClampNeg) ∧ zIC r u.2.2.2 ln cap false false len ty (zStU st p.toNatClampNeg v.toNatClampNeg) bg n rc re 0 false rg ce) (fun E u => E = "java/lang/IllegalArgumentException" ∧ ¬ zStOk p v ∧ zSame r ad ln u ∧ zIC r u.2.2.2 ln cap wk lk len ty st bg n rc re D ran rg ce) := by
  refine zXi.of (cc := cX9_set) (nL := 4) (rt := .int) (by decide) rfl rfl (Nat.le_of_ble_eq_true rfl) (fun Z X hEZ hR hT => ?_)
  refine uX9_set_0 X 1 6 0 0 (by omega) (by omega) _ _ (hR (zTC r) ad ln) al ?_
  unfold vcX9_set_0
  have thr : ¬ zStOk p v → BX9_set_10 G Z r ad ln 1 6 0 0 (by omega) (by omega) p v al := fun hb => zt_set_10 hT ⟨⟨Nat.le_of_ble_eq_true rfl, Nat.le_of_ble_eq_true rfl⟩, Nat.le_of_ble_eq_true rfl, Nat.le_of_ble_eq_true rfl⟩ ⟨rfl, hb, ⟨rfl, rfl, rfl⟩, h⟩
  have thr2 : ¬ zStOk p v → BX9_set_34 G Z r ad ln 1 6 0 0 (by omega) (by omega) p v al := fun hb => zt_set_34 hT ⟨⟨Nat.le_of_ble_eq_true rfl, Nat.le_of_ble_eq_true rfl⟩, Nat.le_of_ble_eq_true rfl, Nat.le_of_ble_eq_true rfl⟩ ⟨rfl, hb, ⟨rfl, rfl, rfl⟩, h⟩
  refine ⟨fun q => thr (fun z => z.1.1 q), fun q => ⟨fun q2 => ⟨fun q3 => thr2 (fun z => z.2.1 q3), fun q3 => ?_⟩, fun q2 => thr (fun z => q2 z.1.2)⟩⟩
  have ix : zIx p 9 := ⟨q, q2⟩
  obtain ⟨e1, e2⟩ := zInt_rng (by omega) ix.1 ix.2
  have v9 : vp_in p 9 := by rw [e1]; exact vp_in_nI e2 (by omega)
  refine ⟨v9, fun q4 => ⟨v9, v9, ?_⟩, fun q4 => thr2 (fun z => q4 z.2.2)⟩
  have ok : zStOk p v := ⟨ix, q3, q4⟩
  refine (c_forgetPlan G r ad ln _).mono (fun a6 hq => ?_)
  subst hq
  have hq9 := h.2.1.2.1 _ e2
  refine ⟨⟨rfl, rfl, rfl⟩, ok, hq9.1, ?_⟩
  show zIC r (up2 (up2 (up2 (up2 (up2 al 2 p.toNatClampNeg v) 0 11 0) 0 12 0) 0 13 0) 0 14 0) ln cap false false len ty (zStU st p.toNatClampNeg v.toNatClampNeg) bg n rc re 0 false rg ce
  generalize hm : p.toNatClampNeg = m at e1 e2 q4
  have hw : ∃ w : Nat, v = nI w ∧ 1 ≤ w ∧ w ≤ 64 ∧ (m < 4 → w ≤ 20) := by
    have r := zR_of v
    have lim : ∀ m, m < 9 → zSL m ≤ 64 ∧ (m < 4 → zSL m ≤ 20) := by decide
    have l1 : v ≤ 64 := Int32.le_trans q4 (lim m e2).1
    have l2 : m < 4 → v ≤ 20 := fun hm4 => Int32.le_trans q4 ((lim m e2).2 hm4)
    rw [zI_of v, zI_1, zI_lt r ⟨by omega, by omega⟩] at q3
    rw [zI_of v, show (64 : Int32) = zI 64 from rfl, zI_le r ⟨by omega, by omega⟩] at l1
    refine ⟨v.toInt.toNat, ?_, by omega, by omega, fun hm4 => ?_⟩
    · rw [zI_n, show ((v.toInt.toNat : Nat) : Int) = v.toInt by omega, ← zI_of]
    · have := l2 hm4
      rw [zI_of v, show (20 : Int32) = zI 20 from rfl, zI_le r ⟨by omega, by omega⟩] at this
      omega
  obtain ⟨w, ew, w1, w2, w3⟩ := hw
  have ev : v.toNatClampNeg = w := by rw [ew, nI_clamp (by omega)]
  rw [ev]
  generalize hA : up2 (up2 (up2 (up2 (up2 al 2 m v) 0 11 0) 0 12 0) 0 13 0) 0 14 0 = A
  have f : zFr [0, 2] al A := by rw [← hA]; exact ((((zFr.rf.up (by decide) _ _).up (by decide) _ _).up (by decide) _ _).up (by decide) _ _).up (by decide) _ _
  have e0 : ∀ j, j < 11 → A 0 j = al 0 j := fun j j1 => by rw [← hA, up2_ne _ _ (fun z => by omega), up2_ne _ _ (fun z => by omega), up2_ne _ _ (fun z => by omega), up2_ne _ _ (fun z => by omega), up2_name _ _ _ (by decide)]
  have e11 : A 0 11 = 0 := by rw [← hA, up2_ne _ _ (by decide), up2_ne _ _ (by decide), up2_ne _ _ (by decide), up2_self]
  have e12 : A 0 12 = 0 := by rw [← hA, up2_ne _ _ (by decide), up2_ne _ _ (by decide), up2_self]
  have e13 : A 0 13 = 0 := by rw [← hA, up2_ne _ _ (by decide), up2_self]
  have e14 : A 0 14 = 0 := by rw [← hA, up2_self]
  have A2 : A 2 = up2 al 2 m v 2 := by rw [← hA, up2_name _ _ _ (by decide), up2_name _ _ _ (by decide), up2_name _ _ _ (by decide), up2_name _ _ _ (by decide)]
  obtain ⟨g1, ⟨c1, c2, c3, c4, c5⟩, g3, g4, ⟨L, g5⟩, g6, g7, g8, g9⟩ := h
  refine ⟨?_, ⟨c1.fr f (by decide) (by decide), fun j hj => ?_, fun j hj => ?_, ?_, c5⟩, ?_, ⟨?_, e11, e12, e13, e14⟩, ⟨L, g5.fr (by rw [f 12 (by decide)]) (f 13 (by decide)) (f 14 (by decide)) (f 15 (by decide)) (f 16 (by decide))⟩, (fun w => by cases w), ⟨(fun w => by cases w), fun _ => rfl⟩, fun d => absurd rfl d, (fun w => by cases w)⟩
  · rw [e0 1 (by omega), f 1 (by decide)]
    exact g1
  · rw [A2]
    by_cases e : j = m
    · subst e
      rw [up2_self, zStU_p rfl]
      exact ⟨ew, w1, w2⟩
    · rw [up2_ne _ _ (fun z => e z.2), zStU_n e]
      exact c2 j hj
  · by_cases e : j = m
    · rw [zStU_p e]
      exact ⟨w1, w3 (by omega)⟩
    · rw [zStU_n e]
      exact c3 j hj
  · rw [f 6 (by decide)]
    exact c4
  · rw [f 3 (by decide)]
    exact g3
  · rw [e0 10 (by omega)]
    exact g4.1
theorem c_row (h : zIC r al ln cap wk lk len ty st bg n rc re D ran rg ce) (p v : Int32) : zXi G yX9_row wsX9_row (rmX9_row 1 6) (zTC r, ad, ln, al) [.ref (ad 0), .int p, .int v] (fun q u => zSame r ad ln u ∧ u.2.2.2 = al ∧ (D ≠ 0 ∧ zIx p n ∧ zIx v 5) ∧ q = zI (zRwV n rc st (zUsC n rc) D p.toNatClampNeg v.toNatClampNeg)) (fun E u => zSame r ad ln u ∧ u.2.2.2 = al ∧ ((D = 0 ∧ E = "java/lang/IllegalStateException") ∨ (D ≠ 0 ∧ ¬ zIx p n ∧ E = "java/lang/IndexOutOfBoundsException") ∨ (D ≠ 0 ∧ zIx p n ∧ ¬ zIx v 5 ∧ E = "java/lang/IllegalArgumentException"))) := by
  refine zXi.of (cc := cX9_row) (nL := 3) (rt := .int) (by decide) rfl rfl (Nat.le_of_ble_eq_true rfl) (fun Z X hEZ hR hT => ?_)
  refine uX9_row_0 X 1 6 0 0 (by omega) (by omega) _ _ (hR (zTC r) ad ln) al ?_
  unfold vcX9_row_0
  have rm6 : (6 ≤ (rmX9_row 1 6).frames ∧ 82 ≤ (rmX9_row 1 6).locals) ∧ 0 + 1 ≤ (rmX9_row 1 6).cells ∧ 0 + 6 ≤ (rmX9_row 1 6).slots := ⟨⟨Nat.le_of_ble_eq_true rfl, Nat.le_of_ble_eq_true rfl⟩, Nat.le_of_ble_eq_true rfl, Nat.le_of_ble_eq_true rfl⟩
  obtain ⟨hD, hD2⟩ := h.dle r ln
  have h13 : al 0 13 = nI D := h.2.2.2.1.2.2.2.1
  have h41 : al 4 1 = nI n := h.2.1.1.1
  have hn := h.2.1.1.2.1
  rw [h13, h41, show (0 : Int32) = nI 0 from rfl, nI_eq (by omega) (by omega), ← show (0 : Int32) = nI 0 from rfl]
  refine ⟨fun d => ?_, fun d => zt_row_7 hT rm6 ⟨⟨rfl, rfl, rfl⟩, rfl, Or.inl ⟨d, rfl⟩⟩⟩
  have two : ¬ zIx p n → BX9_row_32 G Z r ad ln 1 6 0 0 (by omega) (by omega) p v al := fun hb => zt_row_32 hT rm6 ⟨⟨rfl, rfl, rfl⟩, rfl, Or.inr (Or.inl ⟨d, hb, rfl⟩)⟩
  refine ⟨fun q => two (fun z => z.1 q), fun q => ⟨fun q2 => ?_, fun q2 => two (fun z => q2 z.2)⟩⟩
  have ix : zIx p n := ⟨q, q2⟩
  obtain ⟨e1, e2⟩ := zInt_rng (by omega) ix.1 ix.2
  have v48 : vp_in p 48 := by rw [e1]; exact vp_in_nI (by omega) (by omega)
  obtain ⟨l1, l2, l3, l4, sz, off, l5, l6, l7, l8⟩ := h.2.2.2.2.2.2.2.1 d
  generalize hx : p.toNatClampNeg = x at e2
  have fin : ∀ (k : Nat) (q : Int32), k < 5 → v = nI k → q = zI (zRwV n rc st (zUsC n rc) D x k) → zSame r ad ln (zTC r, ad, ln, al) ∧ (zTC r, ad, ln, al).2.2.2 = al ∧ (D ≠ 0 ∧ zIx p n ∧ zIx v 5) ∧ q = zI (zRwV n rc st (zUsC n rc) D x v.toNatClampNeg) := by
    intro k q hk hv hq
    refine ⟨⟨rfl, rfl, rfl⟩, rfl, ⟨d, ix, ?_⟩, by rw [hv, nI_clamp (by omega)]; exact hq⟩
    rw [hv]
    refine ⟨?_, (nI_ltI (by omega) (by omega)).mpr hk⟩
    rw [show (0 : Int32) = nI 0 from rfl, nI_ltI (by omega) (by omega)]
    omega
  obtain ⟨a19, a17, a23, a24⟩ := l3 x e2
  refine ⟨fun z => ⟨v48, fin 0 _ (by omega) z a19⟩, fun z0 => ⟨fun z => ⟨v48, fin 1 _ (by omega) z a17⟩, fun z1 => ⟨fun z => ⟨v48, fin 2 _ (by omega) z ?_⟩, fun z2 => ⟨fun z => ⟨v48, fin 3 _ (by omega) z a23⟩, fun z3 => ⟨fun z => ⟨v48, fin 4 _ (by omega) z a24⟩, fun z4 => ?_⟩⟩⟩⟩⟩
  · rw [l8 x e2]
    unfold zRwV
    rw [if_neg (by omega), if_neg (by omega), if_pos rfl, l5]
  · have nv : ¬ zIx v 5 := fun z => by
      obtain ⟨e3, e4⟩ := zInt_rng (by omega) z.1 z.2
      generalize v.toNatClampNeg = k at e3 e4
      rcases (show k = 0 ∨ k = 1 ∨ k = 2 ∨ k = 3 ∨ k = 4 by omega) with rfl | rfl | rfl | rfl | rfl
      · exact z0 e3
      · exact z1 e3
      · exact z2 e3
      · exact z3 e3
      · exact z4 e3
    exact zt_row_126 hT rm6 ⟨⟨rfl, rfl, rfl⟩, rfl, Or.inr (Or.inr ⟨d, ix, nv, rfl⟩)⟩
end CLS
