-- needs: 29
/-! who sets a register -/
def zSet (tg : Nat → Int32) : Nat → Nat → Int32
  | 0, _ => -1
  | n + 1, r => if tg n = nI r then nI n else zSet tg n r
/-- the first that sets a register again -/
def zTw (tg : Nat → Int32) : Nat → Option Nat
  | 0 => none
  | n + 1 => match zTw tg n with
    | some x => some x
    | none => if 0 ≤ tg n ∧ 0 ≤ zSet tg n (tg n).toNatClampNeg then some n else none
theorem zSet_rng (tg : Nat → Int32) : ∀ (n r : Nat), zSet tg n r = -1 ∨ ∃ x : Nat, x < n ∧ zSet tg n r = nI x ∧ tg x = nI r
  | 0, _ => Or.inl rfl
  | n + 1, r => by
    unfold zSet
    by_cases q : tg n = nI r
    · rw [if_pos q]
      exact Or.inr ⟨n, by omega, rfl, q⟩
    · rw [if_neg q]
      rcases zSet_rng tg n r with h | ⟨x, h1, h2⟩
      · exact Or.inl h
      · exact Or.inr ⟨x, by omega, h2⟩
theorem zTw_lt (tg : Nat → Int32) : ∀ (n x : Nat), zTw tg n = some x → x < n
  | 0, x, e => by cases e
  | n + 1, x, e => by
    unfold zTw at e
    cases hz : zTw tg n with
    | some y =>
      rw [hz] at e
      injection e with e
      have := zTw_lt tg n y hz
      omega
    | none =>
      rw [hz] at e
      simp only at e
      by_cases q : 0 ≤ tg n ∧ 0 ≤ zSet tg n (tg n).toNatClampNeg
      · rw [if_pos q] at e
        injection e with e
        omega
      · rw [if_neg q] at e
        cases e
theorem zTw_mono (tg : Nat → Int32) (m x : Nat) (h : zTw tg m = some x) : ∀ f, zTw tg (m + f) = some x
  | 0 => h
  | f + 1 => by
    show zTw tg (m + f + 1) = some x
    unfold zTw
    rw [zTw_mono tg m x h f]
section TEXT
variable (G : zG) (r : Bool) (ad ln : Nat → Nat) (al : Nat → Nat → Int32) {n : Nat}
theorem c_noteSetters {tg : Nat → Int32} (hn : n ≤ 48) (ht : ∀ x, x < n → al (29 + 3 * x) 2 = tg x ∧ (tg x = -1 ∨ ∃ t : Nat, t < 32 ∧ tg x = nI t)) : zMi G yX0_noteSetters wsX0_noteSetters rmX0_noteSetters (zTC r) ad ln [.ref (ad 4), .int (nI n)] al (fun q a => zFr [6] al a ∧ match zTw tg n with
    | some x => q = al (29 + 3 * x) 3
    | none => q = -1 ∧ ∀ j, j < 32 → a 6 j = zSet tg n j) := by
  refine zMi.of (cc := cX0_noteSetters) (nL := 4) (rt := .int) (by decide) rfl (Nat.le_of_ble_eq_true rfl) (fun Z X hR => ?_)
  generalize hP : (fun (q : Int32) (a : Nat → Nat → Int32) => zFr [6] al a ∧ match zTw tg n with
    | some x => q = al (29 + 3 * x) 3
    | none => q = -1 ∧ ∀ j, j < 32 → a 6 j = zSet tg n j) = P at hR
  have loop : ∀ (f x : Nat) (a : Nat → Nat → Int32), x + f = n → zFr [6] al a → zTw tg x = none → (∀ j, j < 32 → a 6 j = zSet tg x j) → BX0_noteSetters_10 G Z r ad ln (nI n) (nI x) a := by
    intro f
    induction f with
    | zero =>
      intro x a hx hf h1 h2
      refine uX0_noteSetters_10 X _ hR _ a ?_
      unfold vcX0_noteSetters_10
      have : x = n := by omega
      subst this
      refine ⟨fun _ => ?_, fun z => absurd (Int32.le_refl _) z⟩
      rw [← hP]
      refine ⟨hf, ?_⟩
      rw [h1]
      exact ⟨rfl, h2⟩
    | succ f ih =>
      intro x a hx hf h1 h2
      refine uX0_noteSetters_10 X _ hR _ a ?_
      unfold vcX0_noteSetters_10 vcX0_noteSetters_55
      refine ⟨fun z => absurd z (by rw [nI_leI (by omega) (by omega)]; omega), fun _ => ⟨vp_in_nI (by omega) (by omega), ?_⟩⟩
      rw [nI_clamp (by omega), nI_1, hf (29 + 3 * x) (by simp; omega), (ht x (by omega)).1]
      rcases (ht x (by omega)).2 with e | ⟨t, h3, e⟩
      · refine ⟨fun _ => ih (x + 1) a (by omega) hf ?_ ?_, fun z => absurd (show tg x < 0 by rw [e]; decide) z⟩
        · unfold zTw
          rw [h1]
          simp only
          rw [if_neg (fun z => absurd z.1 (by rw [e]; decide))]
        · intro j hj
          rw [h2 j hj]
          show _ = if tg x = nI j then nI x else zSet tg x j
          refine (if_neg (fun z => ?_)).symm
          rw [e] at z
          have z2 : nI j < 0 := by rw [← z]; decide
          exact absurd z2 (by rw [show (0 : Int32) = nI 0 from rfl, nI_ltI (by omega) (by omega)]; omega)
      · have h0 : 0 ≤ tg x := by rw [e, show (0 : Int32) = nI 0 from rfl, nI_leI (by omega) (by omega)]; omega
        refine ⟨fun z => absurd z (Int32.not_lt.mpr h0), fun _ => ⟨by rw [e]; exact vp_in_nI (by omega) (by omega), fun h4 => ⟨by rw [e]; exact vp_in_nI (by omega) (by omega), ?_⟩, fun h4 => ?_⟩⟩
        · rw [e, nI_clamp (by omega)] at h4 ⊢
          rw [h2 t h3] at h4
          refine ih (x + 1) _ (by omega) (hf.up (by simp) _ _) ?_ ?_
          · unfold zTw
            rw [h1]
            simp only
            rw [if_neg]
            rw [e, nI_clamp (by omega)]
            exact fun z => absurd h4 (Int32.not_lt.mpr z.2)
          · intro j hj
            show _ = zSet tg (x + 1) j
            unfold zSet
            by_cases q : t = j
            · subst q
              rw [up2_self, if_pos e]
            · rw [up2_ne _ _ (fun z => q z.2.symm), h2 j hj]
              refine (if_neg (fun z => ?_)).symm
              rw [e, nI_eq (by omega) (by omega)] at z
              exact q z
        · rw [e, nI_clamp (by omega)] at h4
          rw [h2 t h3] at h4
          rw [← hP]
          refine ⟨hf, ?_⟩
          have e1 : zTw tg (x + 1) = some x := by
            unfold zTw
            rw [h1]
            simp only
            rw [if_pos ⟨h0, by rw [e, nI_clamp (by omega)]; exact Int32.not_lt.mp h4⟩]
          have e2 := zTw_mono tg _ _ e1 f
          rw [show x + 1 + f = n by omega] at e2
          rw [e2]
  refine uX0_noteSetters_0 X _ hR al ?_
  unfold vcX0_noteSetters_0
  refine (c_fill G ad ln al (zTC r) 6 1 32 0 0 ⟨zTC_lt (by decide), rfl, Or.inl rfl⟩ (by show 32 < 2147483648; omega) (-1)).mono (fun a1 hq => ?_)
  subst hq
  refine loop n 0 _ (by omega) ?_ rfl ?_
  · intro x hx
    funext j
    unfold upA
    rw [if_neg (fun z => hx (by simp [z.1]))]
  · intro j hj
    show upA al 6 32 _ 6 j = -1
    unfold upA
    rw [if_pos ⟨rfl, hj⟩]

def zTgt (l : List (Nat × zRec)) (x : Nat) : Int32 := match l[x]? with
  | some y => y.2.2.2.1
  | none => -1
def zKs (l : List (Nat × zRec)) (x : Nat) : Nat := match l[x]? with
  | some y => y.1
  | none => 0
def zLW : List Nat := 7 :: (List.range 144).map (29 + ·)
def zLT : List Nat := [4, 6, 7, 8, 9, 10, 11] ++ (List.range 144).map (29 + ·)
theorem zLW_row {c : Nat} (h : 29 ≤ c ∧ c < 173) : c ∈ zLW := by
  unfold zLW
  refine List.mem_cons.mpr (Or.inr (List.mem_map.mpr ⟨c - 29, List.mem_range.mpr (by omega), by omega⟩))
theorem zLT_row {c : Nat} (h : 29 ≤ c ∧ c < 173) : c ∈ zLT := by
  unfold zLT
  refine List.mem_append.mpr (Or.inr (List.mem_map.mpr ⟨c - 29, List.mem_range.mpr (by omega), by omega⟩))
theorem zLW_T {c : Nat} (h : c ∈ zLW) : c ∈ zLT := by
  unfold zLW at h
  rcases List.mem_cons.mp h with rfl | h
  · decide
  · exact List.mem_append.mpr (Or.inr h)
theorem zL_W {w : Nat} (hw : w < 48) : ∀ c ∈ zL w, c ∈ zLW := by
  intro c hc
  simp only [zL, List.mem_cons, List.not_mem_nil, or_false] at hc
  rcases hc with rfl | rfl | rfl | rfl
  · decide
  · exact zLW_row (by omega)
  · exact zLW_row (by omega)
  · exact zLW_row (by omega)
theorem zRowAt_cells {a a' : Nat → Nat → Int32} {y : Nat} {p : Int32} {x : zRec} (h : zRowAt a y p x) (h1 : a' (29 + 3 * y) = a (29 + 3 * y)) (h2 : a' (30 + 3 * y) = a (30 + 3 * y)) (h3 : a' (31 + 3 * y) = a (31 + 3 * y)) : zRowAt a' y p x := by
  unfold zRowAt
  rw [h1, h2, h3]
  exact h
abbrev sgF (al : Nat → Nat → Int32) (n k : Nat) : Int32 := zSg (zBy al n) n k
abbrev vlF (al : Nat → Nat → Int32) (n k : Nat) : Int32 := nI (zVl (zBy al n) n k)
abbrev plF (al : Nat → Nat → Int32) (n k : Nat) : Int32 := nI (zPl (zBy al n) n k)
theorem zTkF (al : Nat → Nat → Int32) (n : Nat) : zTkOk (sgF al n) (vlF al n) := by
  intro k
  obtain ⟨h1, h2, h3⟩ := zTok_ok (zBy al n) (n - zPl (zBy al n) n k) (zPl (zBy al n) n k)
  exact ⟨fun h => ⟨_, h1 h, rfl⟩, fun h => ⟨_, h2 h, rfl⟩, fun h => ⟨_, h3 h, rfl⟩⟩
/-- what a text leaves -/
def zTxPost (al : Nat → Nat → Int32) (n : Nat) (q : Int32) (a : Nat → Nat → Int32) : Prop := zFr zLT al a ∧ match zPrs (sgF al n) (vlF al n) 48 0 0 with
    | .inr k => q = 1 ∧ a 7 3 = plF al n k ∧ a 4 1 = 0
    | .inl l => match zTw (zTgt l) l.length with
      | some x => q = 2 ∧ a 7 3 = plF al n (zKs l x) ∧ a 4 1 = 0
      | none => q = 0 ∧ a 7 3 = -1 ∧ a 4 1 = nI l.length ∧ (∀ x y, l[x]? = some y → zRowAt a x (plF al n y.1) y.2) ∧ ∀ j, j < 32 → a 6 j = zSet (zTgt l) l.length j
theorem c_readText (hn : n ≤ 4096) : zMi G yX2_readText wsX2_readText rmX2_readText (zTC r) ad ln [.ref (ad 7), .int (nI n)] al (zTxPost al n) := by
  refine zMi.of (cc := cX2_readText) (nL := 4) (rt := .int) (by decide) rfl (Nat.le_of_ble_eq_true rfl) (fun Z X hR => ?_)
  refine uX2_readText_0 X _ hR al ?_
  unfold vcX2_readText_0
  refine (c_cut G r ad ln (up2 al 4 1 0) hn).mono (fun a1 hq => ?_)
  obtain ⟨f1, m, hm1, hcut, -, hm2⟩ := hq
  have eB : zBy (up2 al 4 1 0) n = zBy al n := zBy_fr (l := [4]) (zFr.rf.up (by decide) _ _) (by decide) n
  unfold zCut at hcut
  rw [eB] at hcut hm2
  have hm0 : 0 < m := by
    rcases Nat.lt_or_ge m 577 with h | h
    · exact (hm2 h).1
    · omega
  have ag : zAg (sgF al n) (zSgA a1) (vlF al n) (zVlA a1) m := by
    refine ⟨fun j hj => ?_, ?_⟩
    · obtain ⟨c1, c2, c3⟩ := hcut j hj
      unfold zSgA zVlA
      rw [if_pos (by omega), if_pos (by omega)]
      exact ⟨c1, c3⟩
    · rcases Nat.lt_or_ge m 577 with h | h
      · exact Or.inr (hm2 h)
      · exact Or.inl (by omega)
  have apl : ∀ j, j < m → zPlA a1 j = plF al n j := fun j hj => by
    unfold zPlA
    rw [if_pos (by omega)]
    exact (hcut j hj).2.1
  obtain ⟨eT, bT⟩ := ag_prs ag 48 0 0 rfl (by omega) hm0
  have okT := zPrs_ok (zTkF al n) 48 0 0
  have hpn : ∀ j, plF al n j = nI (zPl (zBy al n) n j) ∧ zPl (zBy al n) n j ≤ 4096 := fun j => ⟨rfl, Nat.le_trans (zPos_le al n j).2 hn⟩
  have a14 : a1 4 1 = 0 := by
    rw [f1 4 (by decide), up2_self]
  have fT : zFr zLT al a1 := by
    refine (zFr.rf.up (l := zLT) (al := al) (k := 4) (by decide) 1 0).tr (f1.mono ?_)
    decide
  -- the ends
  have bad : ∀ (k : Nat) (a : Nat → Nat → Int32), zPrs (zSgA a1) (zVlA a1) 48 0 0 = .inr k → zFr zLW a1 a → a 7 2 = nI k → k ≤ 577 → vcX2_readText_79 G r ad ln (nI n) (BX2_readText_25 G Z r ad ln (nI n)) (zTxPost al n) a := by
    intro k a e f h7 hk
    unfold vcX2_readText_79
    refine (c_place G r ad ln a h7 hk).mono (fun q a2 hq => ?_)
    obtain ⟨rfl, e2⟩ := hq
    obtain rfl := e2.symm
    rw [eT] at e
    rw [e] at bT
    refine ⟨fT.tr ((f.up (by decide) _ _).mono (fun c hc => zLW_T hc)), ?_⟩
    rw [e]
    refine ⟨rfl, ?_, ?_⟩
    · rw [up2_self, zPlA_fr f (by decide), apl k bT]
    · rw [up2_ne _ _ (fun z => absurd z.1 (by decide)), f 4 (by decide), a14]
  have good : ∀ (k : Nat) (l : List (Nat × zRec)) (a : Nat → Nat → Int32), zPrs (zSgA a1) (zVlA a1) 48 0 0 = .inl l → zFr zLW a1 a → a 7 2 = nI k → k ≤ 577 → zSgA a1 k = -1 → (∀ y z, l[y]? = some z → zRowAt a y (zPlA a1 z.1) z.2) → vcX2_readText_67 G r ad ln (nI n) (BX2_readText_25 G Z r ad ln (nI n)) (zTxPost al n) (nI l.length) 1 a := by
    intro k l a e f h7 hk hend hrows
    rw [eT] at e
    rw [e] at bT
    obtain ⟨ok1, ok2, -⟩ := okT l e
    unfold vcX2_readText_67
    refine ⟨fun z => absurd z (by decide), fun _ => ?_⟩
    refine (c_sign G r ad ln a h7 hk).mono (fun q a2 hq => ?_)
    obtain ⟨rfl, e2⟩ := hq
    obtain rfl := e2.symm
    rw [zSgA_fr f (by decide)]
    refine ⟨fun _ => ?_, fun z => absurd hend z⟩
    have hpl : ∀ x y, l[x]? = some y → zRowAt a x (plF al n y.1) y.2 := fun x y h => by
      rw [← apl y.1 (bT y (List.mem_of_getElem? h))]
      exact hrows x y h
    refine (c_noteSetters G r ad ln a (n := l.length) (tg := zTgt l) ok2 (fun x hx => ?_)).mono (fun q a2 hq => ?_)
    · have hg : l[x]? = some l[x] := List.getElem?_eq_getElem hx
      have ho := ok1 _ (List.getElem_mem hx)
      unfold zTgt
      rw [hg]
      refine ⟨(hpl x _ hg).2.2.1, ?_⟩
      by_cases q3 : (l[x]).2.1 = 3
      · exact Or.inl (ho.2.1 q3)
      · exact Or.inr (ho.2.2.1 q3)
    · obtain ⟨g1, g2⟩ := hq
      have ff : zFr zLT al a2 := (fT.tr (f.mono (fun c hc => zLW_T hc))).tr (g1.mono (by decide))
      have h41 : a2 4 1 = 0 := by rw [g1 4 (by decide), f 4 (by decide), a14]
      cases hz : zTw (zTgt l) l.length with
      | some x =>
        rw [hz] at g2
        have hx := zTw_lt _ _ _ hz
        have hg : l[x]? = some l[x] := List.getElem?_eq_getElem hx
        have hp := (hpl x _ hg).2.2.2.1
        have hq : q = nI (zPl (zBy al n) n (l[x]).1) := g2.trans hp
        refine ⟨fun z => absurd z ?_, fun _ => ⟨ff.up (by decide) _ _, ?_⟩⟩
        · rw [hq, show (0 : Int32) = nI 0 from rfl, nI_ltI (by have := (hpn (l[x]).1).2; omega) (by omega)]
          omega
        · rw [e]
          simp only
          rw [hz]
          refine ⟨by first | rfl | trivial, ?_, ?_⟩
          · rw [up2_self, hq]
            unfold zKs
            rw [hg]
          · rw [up2_ne _ _ (fun z => absurd z.1 (by decide)), h41]
      | none =>
        rw [hz] at g2
        obtain ⟨rfl, g3⟩ := g2
        refine ⟨fun _ => ⟨(ff.up (by decide) _ _).up (by decide) _ _, ?_⟩, fun z => absurd (by decide) z⟩
        rw [e]
        simp only
        rw [hz]
        refine ⟨by first | rfl | trivial, ?_, up2_self _ _ _ _, fun x y h => ?_, fun j hj => ?_⟩
        · rw [up2_ne _ _ (fun z => absurd z.1 (by decide)), up2_self]
        · have hx : x < 48 := by
            have := (List.getElem?_eq_some_iff.mp h).1
            omega
          refine zRowAt_cells (hpl x y h) ?_ ?_ ?_ <;> rw [up2_name _ _ _ (by omega), up2_name _ _ _ (by omega), g1 _ (by simp; omega)]
        · rw [up2_ne _ _ (fun z => absurd z.1 (by decide)), up2_ne _ _ (fun z => absurd z.1 (by decide)), g3 j hj]
  obtain ⟨T, hT⟩ : ∃ T, zPrs (zSgA a1) (zVlA a1) 48 0 0 = T := ⟨_, rfl⟩
  have loop : ∀ (f x k : Nat) (a : Nat → Nat → Int32) (pre : List (Nat × zRec)), x + f = 48 → pre.length = x → a 7 2 = nI k → k ≤ 577 → zFr zLW a1 a → (∀ y z, pre[y]? = some z → zRowAt a y (zPlA a1 z.1) z.2) → T = (match zPrs (zSgA a1) (zVlA a1) f x k with
      | .inl l => .inl (pre ++ l)
      | .inr e => .inr e) → BX2_readText_25 G Z r ad ln (nI n) (nI x) 1 a := by
    intro f
    induction f with
    | zero =>
      intro x k a pre hx hpre h7 hk hf hrows e
      refine uX2_readText_25 X (nI n) hR _ _ a ?_
      unfold vcX2_readText_25
      refine ⟨fun z => absurd z (by decide), fun _ => ⟨fun _ => ?_, fun z => absurd (by rw [show (48 : Int32) = nI 48 from rfl, nI_leI (by omega) (by omega)]; omega) z⟩⟩
      unfold zPrs at e
      by_cases q : zSgA a1 k = -1
      · simp only [if_pos q] at e
        rw [List.append_nil] at e
        rw [← hpre]
        exact good k pre a (hT.trans e) hf h7 hk q hrows
      · simp only [if_neg q] at e
        unfold vcX2_readText_67
        refine ⟨fun z => absurd z (by decide), fun _ => ?_⟩
        refine (c_sign G r ad ln a h7 hk).mono (fun q1 a2 hq => ?_)
        obtain ⟨rfl, e2⟩ := hq
        obtain rfl := e2.symm
        rw [zSgA_fr hf (by decide)]
        exact ⟨fun z => absurd z q, fun _ => bad k a (hT.trans e) hf h7 hk⟩
    | succ f ih =>
      intro x k a pre hx hpre h7 hk hf hrows e
      refine uX2_readText_25 X (nI n) hR _ _ a ?_
      unfold vcX2_readText_25
      refine ⟨fun z => absurd z (by decide), fun _ => ⟨fun z => absurd z (by rw [show (48 : Int32) = nI 48 from rfl, nI_leI (by omega) (by omega)]; omega), fun _ => ?_⟩⟩
      unfold zPrs at e
      have row : ¬ (x ≠ 0 ∧ zSgA a1 k = -1) → vcX2_readText_47 G r ad ln (nI n) (BX2_readText_25 G Z r ad ln (nI n)) (zTxPost al n) (nI x) a := by
        intro hno
        simp only [if_neg hno] at e
        unfold vcX2_readText_47
        refine ⟨vp_in_nI (by omega) (by omega), ?_⟩
        rw [nI_clamp (by omega), nI_1]
        refine (c_readRow G r ad ln a (by omega) h7 hk).mono (fun q a2 hq => ?_)
        obtain ⟨g1, g2⟩ := hq
        have eS : zSgA a = zSgA a1 := funext (fun j => zSgA_fr hf (by decide) j)
        have eV : zVlA a = zVlA a1 := funext (fun j => zVlA_fr hf (by decide) j)
        rw [eS, eV, zPlA_fr hf (by decide)] at g2
        have hf2 : zFr zLW a1 a2 := hf.tr (g1.mono (zL_W (by omega)))
        cases hz : zRwS (zSgA a1) (zVlA a1) k with
        | inr k' =>
          rw [hz] at g2 e
          obtain ⟨rfl, g3, g4⟩ := g2
          refine uX2_readText_25 X (nI n) hR _ _ a2 ?_
          unfold vcX2_readText_25 vcX2_readText_67
          exact ⟨fun _ => ⟨fun _ => bad k' a2 (hT.trans e) hf2 g3 g4, fun z => absurd rfl z⟩, fun z => absurd rfl z⟩
        | inl y =>
          obtain ⟨rc, k'⟩ := y
          rw [hz] at g2 e
          obtain ⟨rfl, g3, g4, g5⟩ := g2
          refine ih (x + 1) k' a2 (pre ++ [(k, rc)]) (by omega) (by simp [hpre]) g3 g4 hf2 (fun y z hy => ?_) ?_
          · rcases Nat.lt_or_ge y pre.length with h | h
            · rw [List.getElem?_append_left h] at hy
              refine zRowAt_cells (hrows y z hy) ?_ ?_ ?_ <;> exact g1 _ (by simp [zL]; omega)
            · rw [List.getElem?_append_right h] at hy
              have : y - pre.length = 0 := by
                rcases Nat.eq_zero_or_pos (y - pre.length) with h0 | h0
                · exact h0
                · rw [List.getElem?_eq_none (by simp; omega)] at hy
                  cases hy
              rw [this] at hy
              injection hy with hy
              subst hy
              have : y = x := by omega
              subst this
              exact g5
          · simp only at e
            rw [e]
            cases zPrs (zSgA a1) (zVlA a1) f (x + 1) k' with
            | inl l => simp
            | inr e' => rfl
      refine ⟨fun h0 => row (fun z => z.1 ?_), fun h0 => ?_⟩
      · rw [show (0 : Int32) = nI 0 from rfl, nI_eq (by omega) (by omega)] at h0
        exact h0
      · refine (c_sign G r ad ln a h7 hk).mono (fun q1 a2 hq => ?_)
        obtain ⟨rfl, e2⟩ := hq
        obtain rfl := e2.symm
        rw [zSgA_fr hf (by decide)]
        refine ⟨fun q => ?_, fun q => row (fun z => q z.2)⟩
        have hx0 : x ≠ 0 := fun z => h0 (by rw [z]; rfl)
        simp only [if_pos (show x ≠ 0 ∧ zSgA a1 k = -1 from ⟨hx0, q⟩)] at e
        rw [List.append_nil] at e
        rw [← hpre]
        exact good k pre a (hT.trans e) hf h7 hk q hrows
  refine loop 48 0 0 _ [] rfl rfl (up2_self _ _ _ _) (by omega) (zFr.rf.up (by decide) _ _) (fun y z h => by cases h) ?_
  rw [hT]
  cases T <;> rfl
end TEXT
