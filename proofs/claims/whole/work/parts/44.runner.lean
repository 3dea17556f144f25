-- needs: 43
/-! Runner: the run as written -/
def zRws (a : Nat → Nat → Int32) (k : Nat) (rc : Nat → zRec) : Prop := a 4 1 = nI k ∧ k ≤ 48 ∧ ∀ x, x < k → (∃ p, zRowAt a x p (rc x)) ∧ zRecOk (rc x)
theorem zRws.fr {l : List Nat} {a a' : Nat → Nat → Int32} {k : Nat} {rc : Nat → zRec} (h : zRws a k rc) (hf : zFr l a a') (h4 : 4 ∉ l) (hl : ∀ x, x ∈ l → x < 29 ∨ 173 ≤ x) : zRws a' k rc := by
  obtain ⟨h1, h2, h3⟩ := h
  have no : ∀ x, 29 ≤ x → x < 173 → a' x = a x := fun x g1 g2 => hf x (fun z => by have := hl x z; omega)
  refine ⟨by rw [hf 4 h4]; exact h1, h2, fun x hx => ?_⟩
  obtain ⟨⟨p, hp⟩, ho⟩ := h3 x hx
  exact ⟨⟨p, zRowAt_cells hp (no _ (by omega) (by omega)) (no _ (by omega) (by omega)) (no _ (by omega) (by omega))⟩, ho⟩
/-- registers and arrays -/
def zRC (a : Nat → Nat → Int32) (w : (Nat → Int32) × (Nat → Int32)) : Prop := (∀ i, i < 32 → a 175 i = w.1 i) ∧ ∀ i, i < 4096 → a 174 i = w.2 i
section RUNNER
variable (G : zG) (ad ln : Nat → Nat) (al : Nat → Nat → Int32) {k : Nat} {rc : Nat → zRec}
theorem c_fillCells : zMv G yX4_fillCells wsX4_fillCells rmX4_fillCells (zTC true) ad ln [.ref (ad 173)] al (fun a => zFr [174] al a ∧ ∀ i, i < 4096 → a 174 i = zCe0 i) := by
  refine zMv.of (cc := cX4_fillCells) (nL := 2) (by decide) rfl (Nat.le_of_ble_eq_true rfl) (fun Z X hR => ?_)
  have loop : ∀ (f j : Nat) (a : Nat → Nat → Int32), j + f = 1024 → zFr [174] al a → (∀ i, i < j → a 174 i = zCe0 i ∧ a 174 (1024 + i) = zCe0 (1024 + i) ∧ a 174 (2048 + i) = zCe0 (2048 + i) ∧ a 174 (3072 + i) = zCe0 (3072 + i)) → BX4_fillCells_2 G Z ad ln (nI j) a := by
    intro f
    induction f with
    | zero =>
      intro j a hj hf ha
      refine uX4_fillCells_2 X hR _ a ?_
      unfold vcX4_fillCells_2
      have : j = 1024 := by omega
      subst this
      refine ⟨fun _ => ⟨hf, fun i hi => ?_⟩, fun z => absurd (by decide) z⟩
      rcases (show i < 1024 ∨ (1024 ≤ i ∧ i < 2048) ∨ (2048 ≤ i ∧ i < 3072) ∨ (3072 ≤ i ∧ i < 4096) by omega) with q | q | q | q
      · exact (ha i q).1
      · have := (ha (i - 1024) (by omega)).2.1
        rw [show 1024 + (i - 1024) = i by omega] at this
        exact this
      · have := (ha (i - 2048) (by omega)).2.2.1
        rw [show 2048 + (i - 2048) = i by omega] at this
        exact this
      · have := (ha (i - 3072) (by omega)).2.2.2
        rw [show 3072 + (i - 3072) = i by omega] at this
        exact this
    | succ f ih =>
      intro j a hj hf ha
      refine uX4_fillCells_2 X hR _ a ?_
      unfold vcX4_fillCells_2
      have e1 : ∀ c : Nat, c ≤ 3072 → nI c + nI j = nI (c + j) := by
        intro c hc
        rw [zI_n, zI_n, zI_n, zI_add]
        congr 1
      rw [show (1024 : Int32) = nI 1024 from rfl, show (2048 : Int32) = nI 2048 from rfl, show (3072 : Int32) = nI 3072 from rfl, e1 1024 (by omega), e1 2048 (by omega), e1 3072 (by omega), nI_clamp (by omega), nI_clamp (by omega), nI_clamp (by omega), nI_clamp (by omega), nI_1]
      refine ⟨fun z => absurd z (by rw [nI_leI (by omega) (by omega)]; omega), fun _ => ⟨vp_in_nI (by omega) (by omega), vp_in_nI (by omega) (by omega), vp_in_nI (by omega) (by omega), vp_in_nI (by omega) (by omega), ?_⟩⟩
      refine ih (j + 1) _ (by omega) ((((hf.up (by decide) _ _).up (by decide) _ _).up (by decide) _ _).up (by decide) _ _) (fun i hi => ?_)
      have v0 : zCe0 j = (nI j * 7) ^^^ 21 := by unfold zCe0; rw [if_pos (by omega)]
      have v1 : zCe0 (1024 + j) = nI j * nI j + 3 := by unfold zCe0; rw [if_neg (by omega), if_pos (by omega), show 1024 + j - 1024 = j by omega]
      have v2 : zCe0 (2048 + j) = 5 - nI j := by unfold zCe0; rw [if_neg (by omega), if_neg (by omega), if_pos (by omega), show 2048 + j - 2048 = j by omega]
      have v3 : zCe0 (3072 + j) = 0 := by unfold zCe0; rw [if_neg (by omega), if_neg (by omega), if_neg (by omega)]
      by_cases q : i = j
      · subst q
        refine ⟨?_, ?_, ?_, ?_⟩
        · rw [up2_ne _ _ (fun z => absurd z.2 (by omega)), up2_ne _ _ (fun z => absurd z.2 (by omega)), up2_ne _ _ (fun z => absurd z.2 (by omega)), up2_self, v0]
        · rw [up2_ne _ _ (fun z => absurd z.2 (by omega)), up2_ne _ _ (fun z => absurd z.2 (by omega)), up2_self, v1]
        · rw [up2_ne _ _ (fun z => absurd z.2 (by omega)), up2_self, v2]
        · rw [up2_self, v3]
      · have hi2 := ha i (by omega)
        refine ⟨?_, ?_, ?_, ?_⟩ <;> rw [up2_ne _ _ (fun z => absurd z.2 (by omega)), up2_ne _ _ (fun z => absurd z.2 (by omega)), up2_ne _ _ (fun z => absurd z.2 (by omega)), up2_ne _ _ (fun z => absurd z.2 (by omega))]
        · exact hi2.1
        · exact hi2.2.1
        · exact hi2.2.2.1
        · exact hi2.2.2.2
  refine uX4_fillCells_0 X hR al ?_
  unfold vcX4_fillCells_0
  exact loop 1024 0 al rfl zFr.rf (fun i hi => absurd hi (by omega))
theorem c_cellOf {w n : Nat} (hw : w < 48) {p : Int32} {y : zRec} (h : zRowAt al w p y) (ho : zRecOk y) (hk : y.1 = 2 ∨ y.1 = 3) (hn : n < 64) : zMi G yX4_cellOf wsX4_cellOf rmX4_cellOf (zTC true) ad ln [.ref (ad 173), .ref (ad (29 + 3 * w)), .int (nI n)] al (fun q a => q = nI (zCx y n) ∧ a = al) := by
  refine zMi.of (cc := cX4_cellOf) (nL := 3) (rt := .int) (by decide) rfl (Nat.le_of_ble_eq_true rfl) (fun Z X hR => ?_)
  refine tX4_cellOf_0 X w hw _ hR al ?_
  unfold vcX4_cellOf_0
  refine (c_spot G true ad ln al w hw _).mono (fun q a hq => ?_)
  obtain ⟨rfl, e⟩ := hq
  obtain rfl := e.symm
  obtain ⟨g1, g2, g3, g4, g5, g6, g7⟩ := zRec_pl ho hk hn
  obtain ⟨r0, r1, r2, r3, r4, r5, r6, -⟩ := h
  refine ⟨?_, rfl⟩
  rw [r4, r5, r6, g2, g6, g7, zI_n (rAr y), zI_n n, show (1024 : Int32) = zI 1024 from rfl, show (512 : Int32) = zI 512 from rfl, zI_mul, zI_mul, zI_add, zI_add, zI_add, zI_n (zCx y n), g4]
theorem c_writtenValue {o n : Nat} (ho : zOp true o) {s v : Int32} (e0 : al o 0 = s) (e1 : al o 1 = v) (hok : zOpOk s v) {rg : Nat → Int32} (hr : ∀ i, i < 32 → al 175 i = rg i) : zMi G yX4_writtenValue wsX4_writtenValue rmX4_writtenValue (zTC true) ad ln [.ref (ad 173), .ref (ad o), .int (nI n)] al (fun q a => q = zWv rg s v n ∧ a = al) := by
  refine zMi.of (cc := cX4_writtenValue) (nL := 3) (rt := .int) (by decide) rfl (Nat.le_of_ble_eq_true rfl) (fun Z X hR => ?_)
  refine tX4_writtenValue_0 X o ho _ hR al ?_
  unfold vcX4_writtenValue_0 vcX4_writtenValue_36
  rw [e0, e1]
  unfold zWv
  refine ⟨fun q => ⟨fun q2 => ⟨by rw [if_neg q, if_neg q2], rfl⟩, fun q2 => ⟨by rw [if_neg q, if_pos q2], rfl⟩⟩, fun q => ?_⟩
  obtain ⟨g1, g2, g3⟩ := hok.v q
  exact ⟨g3, by rw [if_pos q, hr _ g1], rfl⟩
theorem c_doWritten {w n : Nat} (hw : w < 48) {p : Int32} {y : zRec} (h : zRowAt al w p y) (ho : zRecOk y) (hn : n < 64) {s : (Nat → Int32) × (Nat → Int32)} (hs : zRC al s) : zMv G yX4_doWritten wsX4_doWritten rmX4_doWritten (zTC true) ad ln [.ref (ad 173), .ref (ad (29 + 3 * w)), .int (nI n)] al (fun a => zFr [174, 175] al a ∧ zRC a (zDo y n s)) := by
  refine zMv.of (cc := cX4_doWritten) (nL := 4) (by decide) rfl (Nat.le_of_ble_eq_true rfl) (fun Z X hR => ?_)
  refine tX4_doWritten_0 X w hw _ hR al ?_
  unfold vcX4_doWritten_0 vcX4_doWritten_95
  obtain ⟨r0, r1, r2, r3, r4, r5, r6, l0, l1, q0, q1⟩ := h
  have h : zRowAt al w p y := ⟨r0, r1, r2, r3, r4, r5, r6, l0, l1, q0, q1⟩
  have okl := ho.2.2.2.2.2.2.2.1
  have okr := ho.2.2.2.2.2.2.2.2.1
  unfold zDo
  refine ⟨fun n3 => ⟨fun n2 => ?_, fun n2 => ?_⟩, fun n3 => ?_⟩
  · rw [r0] at n3 n2
    refine (c_writtenValue G ad ln al (zOp_l true hw) (n := n) l0 l1 okl hs.1).mono (fun q a hq => ?_)
    obtain ⟨rfl, e⟩ := hq
    obtain rfl := e.symm
    refine (c_writtenValue G ad ln al (zOp_r true hw) (n := n) q0 q1 okr hs.1).mono (fun q a hq => ?_)
    obtain ⟨rfl, e⟩ := hq
    obtain rfl := e.symm
    refine (c_reckon G true ad ln al w hw _ _).mono (fun q a hq => ?_)
    obtain ⟨rfl, e⟩ := hq
    obtain rfl := e.symm
    obtain ⟨t1, t2⟩ := zRec_tg ho n3
    rw [r2, t2, nI_clamp (by omega), r1, if_neg n3, if_neg n2]
    refine ⟨vp_in_nI (by omega) (by omega), zFr.rf.up (by decide) _ _, fun i hi => ?_, fun i hi => ?_⟩
    · show _ = fu s.1 _ _ i
      by_cases e : i = rTg y
      · subst e
        rw [up2_self, fu_self]
      · rw [up2_ne _ _ (fun z => e z.2), fu_ne _ _ e]
        exact hs.1 i hi
    · rw [up2_ne _ _ (fun z => absurd z.1 (by decide))]
      exact hs.2 i hi
  · rw [r0] at n3 n2
    refine (c_cellOf G ad ln al hw h ho (Or.inl n2) hn).mono (fun q a hq => ?_)
    obtain ⟨rfl, e⟩ := hq
    obtain rfl := e.symm
    obtain ⟨t1, t2⟩ := zRec_tg ho n3
    obtain ⟨g1, g2, g3, g4, g5, g6, g7⟩ := zRec_pl ho (Or.inl n2) hn
    rw [r2, t2, nI_clamp (by omega), nI_clamp (by omega), if_neg n3, if_pos n2]
    refine ⟨vp_in_nI (by omega) (by omega), vp_in_nI (by omega) (by omega), zFr.rf.up (by decide) _ _, fun i hi => ?_, fun i hi => ?_⟩
    · show _ = fu s.1 _ _ i
      by_cases e : i = rTg y
      · subst e
        rw [up2_self, fu_self]
        exact hs.2 _ g5
      · rw [up2_ne _ _ (fun z => e z.2), fu_ne _ _ e]
        exact hs.1 i hi
    · rw [up2_ne _ _ (fun z => absurd z.1 (by decide))]
      exact hs.2 i hi
  · rw [r0] at n3
    refine (c_cellOf G ad ln al hw h ho (Or.inr n3) hn).mono (fun q a hq => ?_)
    obtain ⟨rfl, e⟩ := hq
    obtain rfl := e.symm
    refine (c_writtenValue G ad ln al (zOp_l true hw) (n := n) l0 l1 okl hs.1).mono (fun q a hq => ?_)
    obtain ⟨rfl, e⟩ := hq
    obtain rfl := e.symm
    obtain ⟨g1, g2, g3, g4, g5, g6, g7⟩ := zRec_pl ho (Or.inr n3) hn
    rw [nI_clamp (by omega), if_pos n3]
    refine ⟨vp_in_nI (by omega) (by omega), zFr.rf.up (by decide) _ _, fun i hi => ?_, fun i hi => ?_⟩
    · rw [up2_ne _ _ (fun z => absurd z.1 (by decide))]
      exact hs.1 i hi
    · show _ = fu s.2 _ _ i
      by_cases e : i = zCx y n
      · subst e
        rw [up2_self, fu_self]
      · rw [up2_ne _ _ (fun z => e z.2), fu_ne _ _ e]
        exact hs.2 i hi
theorem c_runWritten (h : zRws al k rc) {R : Nat} (hR1 : 1 ≤ R ∧ R ≤ 64) (h8 : al 2 8 = nI R) {bg : Nat → Int32} (hb : ∀ i, i < 32 → al 3 i = bg i) : zMi G yX4_runWritten wsX4_runWritten rmX4_runWritten (zTC true) ad ln [.ref (ad 173)] al (fun q a => q = nI (R * k) ∧ zFr [174, 175] al a ∧ zRC a (zDoR rc k R (bg, zCe0))) := by
  refine zMi.of (cc := cX4_runWritten) (nL := 4) (rt := .int) (by decide) rfl (Nat.le_of_ble_eq_true rfl) (fun Z X hR => ?_)
  have hk := h.2.1
  have loop : ∀ (f n : Nat) (a : Nat → Nat → Int32), n + f = R → zFr [174, 175] al a → zRC a (zDoR rc k n (bg, zCe0)) → BX4_runWritten_29 G Z ad ln (nI R) (nI n) a := by
    intro f
    induction f with
    | zero =>
      intro n a hn hf hs
      refine uX4_runWritten_29 X hR _ _ a ?_
      unfold vcX4_runWritten_29
      have : n = R := by omega
      subst this
      rw [hf 4 (by decide), h.1]
      refine ⟨fun _ => ⟨?_, hf, hs⟩, fun z => absurd (Int32.le_refl _) z⟩
      rw [zI_n, zI_n, zI_mul, zI_n]
      congr 1
    | succ f ih =>
      intro n a hn hf hs
      refine uX4_runWritten_29 X hR _ _ a ?_
      unfold vcX4_runWritten_29
      refine ⟨fun z => absurd z (by rw [nI_leI (by omega) (by omega)]; omega), fun _ => ?_⟩
      have inner : ∀ (g x : Nat) (a : Nat → Nat → Int32), x + g = k → zFr [174, 175] al a → zRC a (zDoX rc n x (zDoR rc k n (bg, zCe0))) → BX4_runWritten_36 G Z ad ln (nI R) (nI n) (nI x) a := by
        intro g
        induction g with
        | zero =>
          intro x a hx hf hs
          refine uX4_runWritten_36 X hR _ _ _ a ?_
          unfold vcX4_runWritten_36
          have : x = k := by omega
          subst this
          rw [hf 4 (by decide), h.1, nI_1]
          exact ⟨fun _ => ih (n + 1) a (by omega) hf hs, fun z => absurd (Int32.le_refl _) z⟩
        | succ g ih2 =>
          intro x a hx hf hs
          refine uX4_runWritten_36 X hR _ _ _ a ?_
          unfold vcX4_runWritten_36
          rw [hf 4 (by decide), h.1, nI_1, nI_1, nI_clamp (by omega)]
          refine ⟨fun z => absurd z (by rw [nI_leI (by omega) (by omega)]; omega), fun _ => ⟨vp_in_nI (by omega) (by omega), ?_⟩⟩
          obtain ⟨⟨p, hp⟩, hok⟩ := (h.fr hf (by decide) (by intro x hx; simp at hx; omega)).2.2 x (by omega)
          refine (c_doWritten G ad ln a (w := x) (n := n) (by omega) hp hok (by omega) hs).mono (fun a2 hq => ?_)
          exact ih2 (x + 1) a2 (by omega) (hf.tr hq.1) hq.2
      exact inner k 0 a (by omega) hf hs
  refine uX4_runWritten_0 X hR al ?_
  unfold vcX4_runWritten_0
  refine (c_fillCells G ad ln al).mono (fun a1 hq => ⟨by unfold vp_in; decide, ?_⟩)
  obtain ⟨f1, g1⟩ := hq
  have e2 : upA a1 175 32 (a1 3) 2 8 = nI R := by
    unfold upA
    rw [if_neg (fun z => absurd z.1 (by decide)), f1 2 (by decide)]
    exact h8
  rw [e2]
  refine loop R 0 _ (by omega) (fun x hx => ?_) ⟨fun i hi => ?_, fun i hi => ?_⟩
  · funext j
    unfold upA
    rw [if_neg (fun z => hx (by simp [z.1])), f1 x (fun z => hx (by simp at z; simp [z]))]
  · unfold upA
    rw [if_pos ⟨rfl, hi⟩, f1 3 (by decide)]
    exact hb i hi
  · unfold upA
    rw [if_neg (fun z => absurd z.1 (by decide))]
    exact g1 i hi
end RUNNER
