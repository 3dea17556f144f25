-- needs: 23
/-! THE SIGNS OF A TEXT, one behind another -/
def zPl0 (ty : Nat → Int32) (n a : Nat) : Nat := zSkp ty (n - a) false a
def zPos (ty : Nat → Int32) (n : Nat) : Nat → Nat
  | 0 => 0
  | k + 1 => (zTok ty (n - zPl0 ty n (zPos ty n k)) (zPl0 ty n (zPos ty n k))).2.2
def zPl (ty : Nat → Int32) (n k : Nat) : Nat := zPl0 ty n (zPos ty n k)
def zSg (ty : Nat → Int32) (n k : Nat) : Int32 := (zTok ty (n - zPl ty n k) (zPl ty n k)).1
def zVl (ty : Nat → Int32) (n k : Nat) : Nat := (zTok ty (n - zPl ty n k) (zPl ty n k)).2.1
/-- the end, or what can stand nowhere -/
abbrev zTerm (s : Int32) : Prop := s = -1 ∨ s = -2
/-- what lies outside of these names is as it was -/
def zFr (l : List Nat) (al al' : Nat → Nat → Int32) : Prop := ∀ a, a ∉ l → al' a = al a
theorem zFr.rf {l : List Nat} {al : Nat → Nat → Int32} : zFr l al al := fun _ _ => rfl
theorem zFr.tr {l : List Nat} {a b c : Nat → Nat → Int32} (h1 : zFr l a b) (h2 : zFr l b c) : zFr l a c := fun k hk => (h2 k hk).trans (h1 k hk)
theorem zFr.up {l : List Nat} {al al' : Nat → Nat → Int32} (h : zFr l al al') {k : Nat} (hk : k ∈ l) (j : Nat) (v : Int32) : zFr l al (up2 al' k j v) := fun a ha => (up2_name al' j v (fun (e : a = k) => ha (by rw [e]; exact hk))).trans (h a ha)
theorem zFr.mono {l l' : List Nat} {al al' : Nat → Nat → Int32} (h : zFr l al al') (hl : ∀ k ∈ l, k ∈ l') : zFr l' al al' := fun a ha => h a (fun q => ha (hl a q))
theorem zBy_fr {l : List Nat} {al al' : Nat → Nat → Int32} (h : zFr l al al') (h1 : 1 ∉ l) (n : Nat) : zBy al' n = zBy al n := by
  funext i
  unfold zBy
  rw [h 1 h1]
theorem zSkp_le (ty : Nat → Int32) : ∀ (f : Nat) (rem : Bool) (a : Nat), a ≤ zSkp ty f rem a ∧ zSkp ty f rem a ≤ a + f
  | 0, _, a => ⟨Nat.le_refl _, Nat.le_refl _⟩
  | f + 1, rem, a => by
    unfold zSkp
    have h1 := zSkp_le ty f true (a + 1)
    have h2 := zSkp_le ty f false (a + 1)
    have h3 := zSkp_le ty f rem (a + 1)
    by_cases c1 : ty a = 59
    · rw [if_pos c1]; omega
    rw [if_neg c1]
    by_cases c2 : ty a = 10
    · rw [if_pos c2]; omega
    rw [if_neg c2]
    by_cases c3 : rem = false ∧ ¬ ty a = 9 ∧ ¬ ty a = 13 ∧ ¬ ty a = 32
    · rw [if_pos c3]; omega
    · rw [if_neg c3]; omega
theorem zNum_le (ty : Nat → Int32) : ∀ (f a v : Nat), v ≤ 1001 → a ≤ (zNum ty f a v).2 ∧ (zNum ty f a v).2 ≤ a + f ∧ (zNum ty f a v).1 ≤ 1001
  | 0, a, v, hv => ⟨Nat.le_refl _, Nat.le_refl _, hv⟩
  | f + 1, a, v, hv => by
    unfold zNum
    by_cases c1 : zDig (ty a) = true
    · rw [if_pos c1]
      have := zNum_le ty f (a + 1) (min (v * 10 + (ty a).toNatClampNeg - 48) 1001) (Nat.min_le_right _ _)
      omega
    · rw [if_neg c1]
      exact ⟨Nat.le_refl _, Nat.le_add_right _ _, hv⟩
theorem zBy_lt {al : Nat → Nat → Int32} {n i : Nat} (h : ¬ zBy al n i < 0) : i < n := by
  rcases zBy_of al n i with ⟨e, -⟩ | ⟨m, -, -, h2⟩
  · rw [e] at h
    exact absurd (by decide) h
  · exact h2
theorem zBy_eq_lt {al : Nat → Nat → Int32} {n i : Nat} {c : Int32} (h : zBy al n i = c) (hc : ¬ c < 0) : i < n := zBy_lt (by rw [h]; exact hc)
theorem zTok_le (al : Nat → Nat → Int32) {n a : Nat} (ha : a ≤ n) : (zTok (zBy al n) (n - a) a).2.2 ≤ n ∧ (zTok (zBy al n) (n - a) a).2.1 ≤ 1001 := by
  unfold zTok
  by_cases c1 : zBy al n a < 0
  · rw [if_pos c1]
    exact ⟨ha, by show 0 ≤ 1001; omega⟩
  rw [if_neg c1]
  have han := zBy_lt c1
  by_cases c2 : zDig (zBy al n a) = true
  · rw [if_pos c2]
    have := zNum_le (zBy al n) (n - a) a 0 (by omega)
    exact ⟨by show (zNum _ _ _ _).2 ≤ n; omega, by show (zNum _ _ _ _).1 ≤ 1001; omega⟩
  rw [if_neg c2]
  have hd9 : ∀ c, zDig (zBy al n c) = true → zD (zBy al n) c ≤ 9 ∧ c < n := by
    intro c hd
    obtain ⟨m, hm1, hm2, em, hc⟩ := zDig_by hd
    rw [zD, em, nI_clamp (by omega)]
    omega
  by_cases c3 : zBy al n a = 114
  · rw [if_pos c3]
    unfold zReg
    by_cases d1 : zDig (zBy al n (a + 1)) = true
    · rw [if_pos d1]
      have := hd9 _ d1
      by_cases d2 : zDig (zBy al n (a + 2)) = true
      · rw [if_pos d2]
        have := hd9 _ d2
        exact ⟨by show a + 3 ≤ n; omega, by show _ * 10 + _ ≤ 1001; omega⟩
      · rw [if_neg d2]
        exact ⟨by show a + 2 ≤ n; omega, by show zD _ _ ≤ 1001; omega⟩
    · rw [if_neg d1]
      exact ⟨by show a + 1 ≤ n; omega, by show 0 ≤ 1001; omega⟩
  rw [if_neg c3]
  by_cases c4 : 97 ≤ zBy al n a ∧ zBy al n a ≤ 100
  · rw [if_pos c4]
    refine ⟨by show a + 1 ≤ n; omega, ?_⟩
    show (zBy al n a).toNatClampNeg - 97 ≤ 1001
    rcases zBy_of al n a with ⟨e, h⟩ | ⟨m, hm, e, -⟩
    · omega
    · rw [e, nI_clamp (by omega)]
      omega
  rw [if_neg c4]
  refine ⟨?_, by show 0 ≤ 1001; omega⟩
  show a + (zMark (zBy al n) a).2 ≤ n
  unfold zMark
  by_cases e1 : zBy al n a = 60
  · rw [if_pos e1]
    by_cases e2 : zBy al n (a + 1) = 60
    · rw [if_pos e2]
      have := zBy_eq_lt e2 (by decide)
      show a + 2 ≤ n; omega
    · rw [if_neg e2]
      show a + 1 ≤ n; omega
  rw [if_neg e1]
  by_cases e3 : zBy al n a = 62
  · rw [if_pos e3]
    by_cases e2 : zBy al n (a + 1) = 62
    · rw [if_pos e2]
      have := zBy_eq_lt e2 (by decide)
      show a + 2 ≤ n; omega
    · rw [if_neg e2]
      show a + 0 ≤ n; omega
  rw [if_neg e3]
  by_cases e4 : zBy al n a = 109
  · rw [if_pos e4]
    by_cases e5 : zBy al n (a + 1) = 105 ∧ zBy al n (a + 2) = 110
    · rw [if_pos e5]
      have := zBy_eq_lt e5.2 (by decide)
      show a + 3 ≤ n; omega
    rw [if_neg e5]
    by_cases e6 : zBy al n (a + 1) = 97 ∧ zBy al n (a + 2) = 120
    · rw [if_pos e6]
      have := zBy_eq_lt e6.2 (by decide)
      show a + 3 ≤ n; omega
    · rw [if_neg e6]
      show a + 0 ≤ n; omega
  rw [if_neg e4]
  split
  · show a + 1 ≤ n; omega
  · show a + 0 ≤ n; omega
theorem zPos_le (al : Nat → Nat → Int32) (n : Nat) : ∀ k, zPos (zBy al n) n k ≤ n ∧ zPl (zBy al n) n k ≤ n
  | 0 => by
    have h0 : zPos (zBy al n) n 0 ≤ n := Nat.zero_le n
    have := zSkp_le (zBy al n) (n - zPos (zBy al n) n 0) false (zPos (zBy al n) n 0)
    exact ⟨h0, by show zSkp _ _ _ _ ≤ n; omega⟩
  | k + 1 => by
    have ih := zPos_le al n k
    have h0 : zPos (zBy al n) n (k + 1) ≤ n := (zTok_le al ih.2).1
    have := zSkp_le (zBy al n) (n - zPos (zBy al n) n (k + 1)) false (zPos (zBy al n) n (k + 1))
    exact ⟨h0, by show zSkp _ _ _ _ ≤ n; omega⟩
/-- the first m signs of the text lie in the arrays -/
def zCut (al0 al : Nat → Nat → Int32) (n m : Nat) : Prop := ∀ k, k < m → al 9 k = zSg (zBy al0 n) n k ∧ al 10 k = nI (zPl (zBy al0 n) n k) ∧ al 11 k = nI (zVl (zBy al0 n) n k)
theorem zCut.add {al0 al al' : Nat → Nat → Int32} {n m : Nat} (h : zCut al0 al n m) (ho : ∀ k, k < m → al' 9 k = al 9 k ∧ al' 10 k = al 10 k ∧ al' 11 k = al 11 k) (h1 : al' 9 m = zSg (zBy al0 n) n m) (h2 : al' 10 m = nI (zPl (zBy al0 n) n m)) (h3 : al' 11 m = nI (zVl (zBy al0 n) n m)) : zCut al0 al' n (m + 1) := by
  intro k hk
  by_cases e : k = m
  · subst e
    exact ⟨h1, h2, h3⟩
  · have := h k (by omega)
    have o := ho k (by omega)
    rw [o.1, o.2.1, o.2.2]
    exact this
theorem c_cut (G : zG) (r : Bool) (ad ln : Nat → Nat) (al : Nat → Nat → Int32) {n : Nat} (hn : n ≤ 4096) : zMv G yX5_cut wsX5_cut rmX5_cut (zTC r) ad ln [.ref (ad 8), .int (nI n)] al (fun a' => zFr [8, 9, 10, 11] al a' ∧ ∃ m, m ≤ 577 ∧ zCut al a' n m ∧ (∀ k, k + 1 < m → ¬ zTerm (zSg (zBy al n) n k)) ∧ (m < 577 → 0 < m ∧ zTerm (zSg (zBy al n) n (m - 1)))) := by
  refine zMv.of (cc := cX5_cut) (nL := 3) (by decide) rfl (Nat.le_of_ble_eq_true rfl) (fun Z X hR => ?_)
  generalize hty : zBy al n = ty at hR
  have loop : ∀ (f m : Nat) (a1 : Nat → Nat → Int32), 577 - m = f → m ≤ 577 → zFr [8, 9, 10, 11] al a1 → a1 8 1 = nI n → a1 8 2 = nI (zPos ty n m) → zCut al a1 n m → (∀ k, k < m → ¬ zTerm (zSg ty n k)) → BX5_cut_12 G Z r ad ln (nI n) (nI m) a1 := by
    intro f
    induction f with
    | zero =>
      intro m a1 hf hm hfr h1 h2 hc hn2
      refine uX5_cut_12 X (nI n) hR _ _ ?_
      unfold vcX5_cut_12
      rw [show (577 : Int32) = nI 577 from rfl, nI_leI (by omega) (by omega)]
      exact ⟨fun _ => ⟨hfr, m, hm, hc, fun k hk => hn2 k (by omega), fun h => absurd h (by omega)⟩, fun h => absurd (by omega) h⟩
    | succ f ih =>
      intro m a1 hf hm hfr h1 h2 hc hn2
      have hby : zBy a1 n = ty := by rw [zBy_fr hfr (by decide), hty]
      have hpos := zPos_le al n m
      rw [hty] at hpos
      refine uX5_cut_12 X (nI n) hR _ _ ?_
      unfold vcX5_cut_12 vcX5_cut_72
      rw [show (577 : Int32) = nI 577 from rfl, nI_leI (by omega) (by omega)]
      refine ⟨fun h => absurd h (by omega), fun _ => ?_⟩
      refine (c_skipBlanks G r ad ln a1 h1 hn h2 hpos.1).mono (fun a2 e2 => ?_)
      rw [hby] at e2
      have epl : zSkp ty (n - zPos ty n m) false (zPos ty n m) = zPl ty n m := rfl
      rw [epl] at e2
      have hv577 : vp_in (nI m) 577 := vp_in_nI (by omega) (by omega)
      refine ⟨hv577, hv577, ?_⟩
      subst e2
      rw [up2_self, nI_clamp (by omega)]
      have hfr2 : zFr [8, 9, 10, 11] al (up2 (up2 (up2 a1 8 2 (nI (zPl ty n m))) 10 m (nI (zPl ty n m))) 11 m 0) := ((hfr.up (by decide) _ _).up (by decide) _ _).up (by decide) _ _
      have hby2 : zBy (up2 (up2 (up2 a1 8 2 (nI (zPl ty n m))) 10 m (nI (zPl ty n m))) 11 m 0) n = ty := by rw [zBy_fr hfr2 (by decide), hty]
      refine (c_cutOne G r ad ln _ (n := n) (a := zPl ty n m) (k := m) (by
        rw [up2_ne _ _ (show ¬ (8 = 11 ∧ 1 = m) by omega), up2_ne _ _ (show ¬ (8 = 10 ∧ 1 = m) by omega), up2_ne _ _ (show ¬ (8 = 8 ∧ 1 = 2) by omega), h1]) hn (by
        rw [up2_ne _ _ (show ¬ (8 = 11 ∧ 2 = m) by omega), up2_ne _ _ (show ¬ (8 = 10 ∧ 2 = m) by omega), up2_self]) hpos.2 (by omega) (up2_self _ _ _ _)).mono (fun q a3 hq => ?_)
      rw [hby2] at hq
      obtain ⟨hq1, hq2⟩ := hq
      have esg : q = zSg ty n m := hq1
      have e3 : a3 = up2 (up2 (up2 (up2 (up2 a1 8 2 (nI (zPl ty n m))) 10 m (nI (zPl ty n m))) 11 m 0) 8 2 (nI (zPos ty n (m + 1)))) 11 m (nI (zVl ty n m)) := hq2
      subst esg
      have hfr3 : zFr [8, 9, 10, 11] al (up2 a3 9 m (zSg ty n m)) := by
        rw [e3]
        exact (((hfr2.up (by decide) _ _).up (by decide) _ _).up (by decide) _ _)
      have hcut : zCut al (up2 a3 9 m (zSg ty n m)) n (m + 1) := by
        refine hc.add (fun k hk => ?_) ?_ ?_ ?_
        · rw [e3]
          refine ⟨?_, ?_, ?_⟩ <;> simp only [up2] <;> simp [show ¬ k = m by omega]
        · rw [up2_self, hty]
        · rw [e3, hty]
          simp only [up2]
          simp
        · rw [e3, hty]
          simp only [up2]
          simp
      refine ⟨hv577, hv577, fun h => ⟨hfr3, m + 1, by omega, hcut, fun k hk => ?_, fun _ => ⟨by omega, ?_⟩⟩, fun h => ⟨hv577, fun h' => ?_, fun h' => ⟨hfr3, m + 1, by omega, hcut, fun k hk => ?_, fun _ => ⟨by omega, ?_⟩⟩⟩⟩
      · exact hn2 k (by omega)
      · exact Or.inl h
      · rw [nI_1]
        refine ih (m + 1) _ (by omega) (by omega) hfr3 ?_ ?_ hcut (fun k hk => ?_)
        · rw [e3]
          simp only [up2]
          simp [h1]
        · rw [e3]
          simp only [up2]
          simp
        · by_cases e : k = m
          · subst e
            exact fun q => q.elim h h'
          · exact hn2 k (by omega)
      · exact hn2 k (by omega)
      · exact Or.inr h'
  refine uX5_cut_0 X (nI n) hR al ?_
  unfold vcX5_cut_0
  refine loop 577 0 _ rfl (by omega) ((zFr.rf.up (by decide) _ _).up (by decide) _ _) ?_ ?_ (fun k hk => absurd hk (by omega)) (fun k hk => absurd hk (by omega))
  · rw [up2_ne _ _ (show ¬ (8 = 8 ∧ 1 = 2) by omega), up2_self]
  · rw [up2_self]
    rfl
