-- needs: 21
/-! THE SIGNS OF A TEXT: by i: the byte at i, -1 behind the end -/
def zBy (al : Nat → Nat → Int32) (n i : Nat) : Int32 := if i < n then al 1 i &&& 255 else -1
def zDig (b : Int32) : Bool := decide (48 ≤ b) && decide (b ≤ 57)
/-- over blanks and remarks -/
def zSkp (ty : Nat → Int32) : Nat → Bool → Nat → Nat
  | 0, _, a => a
  | f + 1, rem, a => if ty a = 59 then zSkp ty f true (a + 1) else if ty a = 10 then zSkp ty f false (a + 1) else if rem = false ∧ ¬ ty a = 9 ∧ ¬ ty a = 13 ∧ ¬ ty a = 32 then a else zSkp ty f rem (a + 1)
/-- a number: its value, at most 1001, and where it ends -/
def zNum (ty : Nat → Int32) : Nat → Nat → Nat → Nat × Nat
  | 0, a, v => (v, a)
  | f + 1, a, v => if zDig (ty a) = true then zNum ty f (a + 1) (min (v * 10 + (ty a).toNatClampNeg - 48) 1001) else (v, a)
def zD (ty : Nat → Int32) (a : Nat) : Nat := (ty a).toNatClampNeg - 48
/-- sign, value, where it ends: a register -/
def zReg (ty : Nat → Int32) (a : Nat) : Int32 × Nat × Nat :=
  if zDig (ty (a + 1)) = true then (if zDig (ty (a + 2)) = true then (if zD ty (a + 1) * 10 + zD ty (a + 2) < 32 then 114 else -2, zD ty (a + 1) * 10 + zD ty (a + 2), a + 3) else (114, zD ty (a + 1), a + 2)) else (-2, 0, a + 1)
/-- sign and length of what is neither number, register nor array -/
def zMark (ty : Nat → Int32) (a : Nat) : Int32 × Nat :=
  if ty a = 60 then (if ty (a + 1) = 60 then (256, 2) else (60, 1))
  else if ty a = 62 then (if ty (a + 1) = 62 then (257, 2) else (-2, 0))
  else if ty a = 109 then (if ty (a + 1) = 105 ∧ ty (a + 2) = 110 then (258, 3) else if ty (a + 1) = 97 ∧ ty (a + 2) = 120 then (259, 3) else (-2, 0))
  else if ty a = 38 ∨ ty a = 40 ∨ ty a = 41 ∨ ty a = 42 ∨ ty a = 43 ∨ ty a = 45 ∨ ty a = 61 ∨ ty a = 91 ∨ ty a = 93 ∨ ty a = 94 ∨ ty a = 105 ∨ ty a = 124 then (ty a, 1) else (-2, 0)
/-- sign, value, where it ends, of the sign that begins at a; f: how many bytes from there on -/
def zTok (ty : Nat → Int32) (f a : Nat) : Int32 × Nat × Nat :=
  if ty a < 0 then (-1, 0, a)
  else if zDig (ty a) = true then (if (zNum ty f a 0).1 ≤ 1000 then 48 else -2, zNum ty f a 0)
  else if ty a = 114 then zReg ty a
  else if 97 ≤ ty a ∧ ty a ≤ 100 then (97, (ty a).toNatClampNeg - 97, a + 1)
  else ((zMark ty a).1, 0, a + (zMark ty a).2)
theorem up2_same {al : Nat → Nat → Int32} {k j : Nat} {v : Int32} (h : al k j = v) : up2 al k j v = al := by
  funext a b
  by_cases q : a = k ∧ b = j
  · obtain ⟨rfl, rfl⟩ := q
    rw [up2_self, h]
  · rw [up2_ne al v q]
theorem up2_up2 (al : Nat → Nat → Int32) (k j : Nat) (v w : Int32) : up2 (up2 al k j v) k j w = up2 al k j w := by
  funext a b
  by_cases q : a = k ∧ b = j
  · obtain ⟨rfl, rfl⟩ := q
    rw [up2_self, up2_self]
  · rw [up2_ne _ w q, up2_ne _ v q, up2_ne _ w q]
theorem up2_comm (al : Nat → Nat → Int32) {k j k' j' : Nat} (v w : Int32) (h : ¬ (k = k' ∧ j = j')) : up2 (up2 al k j v) k' j' w = up2 (up2 al k' j' w) k j v := by
  funext a b
  by_cases q : a = k ∧ b = j
  · obtain ⟨rfl, rfl⟩ := q
    rw [up2_ne _ w h, up2_self, up2_self]
  · by_cases q' : a = k' ∧ b = j'
    · obtain ⟨rfl, rfl⟩ := q'
      rw [up2_self, up2_ne _ v q, up2_self]
    · rw [up2_ne _ w q', up2_ne _ v q, up2_ne _ v q, up2_ne _ w q']
theorem zBy_up {al : Nat → Nat → Int32} {n k j : Nat} {v : Int32} (h : k ≠ 1) : zBy (up2 al k j v) n = zBy al n := by
  funext i
  unfold zBy
  rw [up2_name al j v (show (1 : Nat) ≠ k from fun e => h e.symm)]
theorem zand255 (x : Int32) : ∃ m : Nat, m < 256 ∧ x &&& 255 = nI m := pk_andE x 8 (by decide)
theorem zBy_of (al : Nat → Nat → Int32) (n i : Nat) : (zBy al n i = -1 ∧ n ≤ i) ∨ ∃ m : Nat, m < 256 ∧ zBy al n i = nI m ∧ i < n := by
  unfold zBy
  by_cases h : i < n
  · rw [if_pos h]
    obtain ⟨m, h1, h2⟩ := zand255 (al 1 i)
    exact Or.inr ⟨m, h1, h2, h⟩
  · rw [if_neg h]
    exact Or.inl ⟨rfl, by omega⟩
theorem zDig_n {m : Nat} (hm : m < 256) : zDig (nI m) = true ↔ 48 ≤ m ∧ m ≤ 57 := by
  unfold zDig
  rw [Bool.and_eq_true, decide_eq_true_iff, decide_eq_true_iff, show (48 : Int32) = nI 48 from rfl, show (57 : Int32) = nI 57 from rfl, nI_leI (by omega) (by omega), nI_leI (by omega) (by omega)]
theorem zDig_by {al : Nat → Nat → Int32} {n i : Nat} (h : zDig (zBy al n i) = true) : ∃ m : Nat, 48 ≤ m ∧ m ≤ 57 ∧ zBy al n i = nI m ∧ i < n := by
  rcases zBy_of al n i with ⟨e, -⟩ | ⟨m, h1, e, h2⟩
  · rw [e] at h
    exact absurd h (by decide)
  · rw [e, zDig_n h1] at h
    exact ⟨m, h.1, h.2, e, h2⟩
section SIGNS
variable (G : zG) (r : Bool) (ad ln : Nat → Nat) (al : Nat → Nat → Int32)
theorem c_byteAt {n i : Nat} (h1 : al 8 1 = nI n) (hn : n ≤ 4096) (hi : i < 2147483648) : zMi G yX5_byteAt wsX5_byteAt rmX5_byteAt (zTC r) ad ln [.ref (ad 8), .int (nI i)] al (fun q a => q = zBy al n i ∧ a = al) := by
  refine zMi.of (cc := cX5_byteAt) (nL := 2) (rt := .int) (by decide) rfl (Nat.le_of_ble_eq_true rfl) (fun Z X hR => ?_)
  refine tX5_byteAt_0 X _ hR al ?_
  unfold vcX5_byteAt_0 vcX5_byteAt_34 vcX5_byteAt_35
  rw [h1, nI_leI (by omega) (by omega), nI_leI (by omega) (by omega), nI_clamp (by omega)]
  refine ⟨fun h => absurd h (nI_pos (by omega)), fun _ => ⟨fun h => ⟨?_, rfl⟩, fun h => ⟨fun h' => ?_, fun h' => ⟨vp_in_nI (by omega) (by omega), ?_, rfl⟩⟩⟩⟩
  · rw [zBy, if_neg (by omega)]
  · omega
  · rw [zBy, if_pos (by omega)]
theorem c_isDigit (b : Int32) : zMi G yX5_isDigit wsX5_isDigit rmX5_isDigit (zTC r) ad ln [.int b] al (fun q a => q = zb (zDig b) ∧ a = al) := by
  refine zMi.of (cc := cX5_isDigit) (nL := 1) (rt := .boolean) (by decide) rfl (Nat.le_of_ble_eq_true rfl) (fun Z X hR => ?_)
  refine tX5_isDigit_0 X _ hR al ?_
  unfold vcX5_isDigit_0 vcX5_isDigit_16 vcX5_isDigit_17 zDig
  refine ⟨fun h => ⟨rfl, ?_, rfl⟩, fun h => ⟨fun h' => ⟨rfl, ?_, rfl⟩, fun h' => ⟨rfl, ?_, rfl⟩⟩⟩
  · rw [decide_eq_false (Int32.not_le.mpr h)]
    rfl
  · rw [decide_eq_false (Int32.not_le.mpr h'), Bool.and_false]
    rfl
  · rw [decide_eq_true (Int32.not_lt.mp h), decide_eq_true (Int32.not_lt.mp h')]
    rfl
theorem c_pass (p1 p2 : Int32) : zMi G yX5_pass wsX5_pass rmX5_pass (zTC r) ad ln [.ref (ad 8), .int p1, .int p2] al (fun q a => q = p2 ∧ a = up2 al 8 2 (al 8 2 + p1)) := by
  refine zMi.of (cc := cX5_pass) (nL := 3) (rt := .int) (by decide) rfl (Nat.le_of_ble_eq_true rfl) (fun Z X hR => ?_)
  refine tX5_pass_0 X _ _ hR al ?_
  unfold vcX5_pass_0
  exact ⟨rfl, rfl⟩
theorem zb_0 {b : Bool} : zb b = 0 ↔ b = false := by cases b <;> simp [zb]
theorem c_skipBlanks {n a : Nat} (h1 : al 8 1 = nI n) (hn : n ≤ 4096) (h2 : al 8 2 = nI a) (ha : a ≤ n) : zMv G yX5_skipBlanks wsX5_skipBlanks rmX5_skipBlanks (zTC r) ad ln [.ref (ad 8)] al (fun a' => a' = up2 al 8 2 (nI (zSkp (zBy al n) (n - a) false a))) := by
  refine zMv.of (cc := cX5_skipBlanks) (nL := 3) (by decide) rfl (Nat.le_of_ble_eq_true rfl) (fun Z X hR => ?_)
  generalize ht : zSkp (zBy al n) (n - a) false a = tgt at hR
  have loop : ∀ (f c : Nat) (rem : Bool), n - c = f → c ≤ n → zSkp (zBy al n) f rem c = tgt → BX5_skipBlanks_2 G Z r ad ln (zb rem) (up2 al 8 2 (nI c)) := by
    intro f
    induction f with
    | zero =>
      intro c rem hf hc e
      refine uX5_skipBlanks_2 X hR _ _ ?_
      unfold vcX5_skipBlanks_2
      rw [up2_self, up2_ne al _ (show ¬ (8 = 8 ∧ 1 = 2) by omega), h1, nI_leI (by omega) (by omega)]
      refine ⟨fun _ => ?_, fun h => absurd (by omega) h⟩
      rw [← e]
      rfl
    | succ f ih =>
      intro c rem hf hc e
      refine uX5_skipBlanks_2 X hR _ _ ?_
      unfold vcX5_skipBlanks_2 vcX5_skipBlanks_67
      rw [up2_self, up2_ne al _ (show ¬ (8 = 8 ∧ 1 = 2) by omega), h1, nI_leI (by omega) (by omega)]
      refine ⟨fun h => absurd h (by omega), fun _ => ?_⟩
      refine (c_byteAt G r ad ln (up2 al 8 2 (nI c)) (n := n) (i := c) (by rw [up2_ne al _ (show ¬ (8 = 8 ∧ 1 = 2) by omega), h1]) hn (by omega)).mono (fun q a2 hq => ?_)
      obtain ⟨rfl, rfl⟩ := hq
      rw [zBy_up (show (8 : Nat) ≠ 1 by omega), up2_self, nI_1, up2_up2]
      have hs : ∀ rem', zSkp (zBy al n) f rem' (c + 1) = tgt → BX5_skipBlanks_2 G Z r ad ln (zb rem') (up2 al 8 2 (nI (c + 1))) := fun rem' h => ih (c + 1) rem' (by omega) (by omega) h
      rw [zSkp] at e
      by_cases c59 : zBy al n c = 59
      · rw [if_pos c59] at e
        exact ⟨fun h => absurd c59 h, fun _ => hs true e⟩
      rw [if_neg c59] at e
      by_cases c10 : zBy al n c = 10
      · rw [if_pos c10] at e
        exact ⟨fun _ => ⟨fun h => absurd c10 h, fun _ => hs false e⟩, fun h => absurd h c59⟩
      rw [if_neg c10] at e
      refine ⟨fun _ => ⟨fun _ => ⟨fun hrem => ?_, fun hrem => ?_⟩, fun h => absurd h c10⟩, fun h => absurd h c59⟩
      · rw [if_neg (fun q => hrem (by rw [q.1]; rfl))] at e
        exact hs rem e
      · rw [zb_0] at hrem
        subst hrem
        by_cases c9 : zBy al n c = 9
        · rw [if_neg (fun q => q.2.1 c9)] at e
          exact ⟨fun _ => hs false e, fun h => absurd c9 h⟩
        by_cases c13 : zBy al n c = 13
        · rw [if_neg (fun q => q.2.2.1 c13)] at e
          exact ⟨fun h => absurd h c9, fun _ => ⟨fun _ => hs false e, fun h => absurd c13 h⟩⟩
        by_cases c32 : zBy al n c = 32
        · rw [if_neg (fun q => q.2.2.2 c32)] at e
          exact ⟨fun h => absurd h c9, fun _ => ⟨fun h => absurd h c13, fun _ => ⟨fun _ => hs false e, fun h => absurd c32 h⟩⟩⟩
        rw [if_pos ⟨rfl, c9, c13, c32⟩] at e
        refine ⟨fun h => absurd h c9, fun _ => ⟨fun h => absurd h c13, fun _ => ⟨fun h => absurd h c32, fun _ => ?_⟩⟩⟩
        rw [e]
  refine uX5_skipBlanks_0 X hR al ?_
  unfold vcX5_skipBlanks_0
  have := loop (n - a) a false rfl ha ht
  rw [up2_same h2] at this
  exact this
theorem c_cutNumber {n a k : Nat} (h1 : al 8 1 = nI n) (hn : n ≤ 4096) (h2 : al 8 2 = nI a) (ha : a ≤ n) (hk : k < 577) : zMi G yX5_cutNumber wsX5_cutNumber rmX5_cutNumber (zTC r) ad ln [.ref (ad 8), .int (nI k)] al (fun q a' => q = (if (zNum (zBy al n) (n - a) a 0).1 ≤ 1000 then 48 else -2) ∧ a' = up2 (up2 al 8 2 (nI (zNum (zBy al n) (n - a) a 0).2)) 11 k (nI (zNum (zBy al n) (n - a) a 0).1)) := by
  refine zMi.of (cc := cX5_cutNumber) (nL := 3) (rt := .int) (by decide) rfl (Nat.le_of_ble_eq_true rfl) (fun Z X hR => ?_)
  generalize ht : zNum (zBy al n) (n - a) a 0 = tgt at hR
  have fin : ∀ (v c : Nat), v ≤ 1001 → (v, c) = tgt → vcX5_cutNumber_63 G r ad ln (nI k) (BX5_cutNumber_2 G Z r ad ln (nI k)) (fun q a' => q = (if tgt.1 ≤ 1000 then 48 else -2) ∧ a' = up2 (up2 al 8 2 (nI tgt.2)) 11 k (nI tgt.1)) (nI v) (up2 al 8 2 (nI c)) := by
    intro v c hv e
    subst e
    unfold vcX5_cutNumber_63 vcX5_cutNumber_84
    rw [nI_clamp (by omega), show (1000 : Int32) = nI 1000 from rfl, nI_leI (by omega) (by omega)]
    refine ⟨vp_in_nI hk (by omega), fun h => ⟨?_, rfl⟩, fun h => ⟨?_, rfl⟩⟩
    · rw [if_pos h]
    · rw [if_neg h]
  have loop : ∀ (f c v : Nat), n - c = f → c ≤ n → v ≤ 1001 → zNum (zBy al n) f c v = tgt → BX5_cutNumber_2 G Z r ad ln (nI k) (nI v) (up2 al 8 2 (nI c)) := by
    intro f
    induction f with
    | zero =>
      intro c v hf hc hv e
      refine uX5_cutNumber_2 X _ hR _ _ ?_
      unfold vcX5_cutNumber_2
      rw [up2_self, up2_ne al _ (show ¬ (8 = 8 ∧ 1 = 2) by omega), h1, nI_leI (by omega) (by omega)]
      exact ⟨fun _ => fin v c hv e, fun h => absurd (by omega) h⟩
    | succ f ih =>
      intro c v hf hc hv e
      refine uX5_cutNumber_2 X _ hR _ _ ?_
      unfold vcX5_cutNumber_2
      have hb := c_byteAt G r ad ln (up2 al 8 2 (nI c)) (n := n) (i := c) (by rw [up2_ne al _ (show ¬ (8 = 8 ∧ 1 = 2) by omega), h1]) hn (by omega)
      rw [up2_self, up2_ne al _ (show ¬ (8 = 8 ∧ 1 = 2) by omega), h1, nI_leI (by omega) (by omega)]
      refine ⟨fun h => absurd h (by omega), fun _ => ?_⟩
      refine hb.mono (fun q a2 hq => ?_)
      obtain ⟨rfl, rfl⟩ := hq
      refine (c_isDigit G r ad ln _ _).mono (fun q a3 hq => ?_)
      obtain ⟨rfl, rfl⟩ := hq
      rw [zBy_up (show (8 : Nat) ≠ 1 by omega), zb_0]
      rw [zNum] at e
      refine ⟨fun hd => ?_, fun hd => ?_⟩
      · rw [if_neg (by rw [hd]; decide)] at e
        exact fin v c hv e
      · have hd' : zDig (zBy al n c) = true := by
          cases h : zDig (zBy al n c)
          · exact absurd h hd
          · rfl
        rw [if_pos hd'] at e
        obtain ⟨m, hm1, hm2, em, hcn⟩ := zDig_by hd'
        rw [up2_self]
        refine hb.mono (fun q a5 hq => ?_)
        obtain ⟨rfl, rfl⟩ := hq
        rw [zBy_up (show (8 : Nat) ≠ 1 by omega), em, up2_self, nI_1, up2_up2]
        rw [em, nI_clamp (by omega)] at e
        have ev : (if (1001 : Int32) < nI v * 10 + nI m - 48 then (1001 : Int32) else nI v * 10 + nI m - 48) = nI (min (v * 10 + m - 48) 1001) := by
          rw [show (10 : Int32) = nI 10 from rfl, show (48 : Int32) = nI 48 from rfl, show (1001 : Int32) = nI 1001 from rfl, pk_mul, nI_add, pk_sub (by omega)]
          by_cases h : 1001 < v * 10 + m - 48
          · rw [if_pos ((nI_ltI (by omega) (by omega)).mpr h), Nat.min_eq_right (by omega)]
          · rw [if_neg (fun q => h ((nI_ltI (by omega) (by omega)).mp q)), Nat.min_eq_left (by omega)]
        rw [ev]
        exact ih (c + 1) _ (by omega) (by omega) (Nat.min_le_right _ _) e
  refine uX5_cutNumber_0 X _ hR al ?_
  unfold vcX5_cutNumber_0
  have := loop (n - a) a 0 rfl ha (by omega) ht
  rw [up2_same h2] at this
  exact this
end SIGNS
