-- needs: 5a
section REFS2
variable (G : zG) (ad ln : Nat → Nat) (al : Nat → Nat → Int32) {n D : Nat} {rc : Nat → zRec} {st : Nat → Nat} {c : Nat → Int} {us : Nat → Nat → Bool}
theorem zE_none {x : Nat} : ∀ y, (∀ y', y' < y → us x y' = false) → zE D c us x y = -1
  | 0, _ => rfl
  | y + 1, h => by
    show (if us x y = true then _ else zE D c us x y) = _
    rw [if_neg (by rw [h y (by omega)]; decide)]
    exact zE_none y (fun y' hy' => h y' (by omega))
theorem r_spans (h1 : zRr al n rc) (h2 : zRst al st) (hD : 1 ≤ D ∧ D ≤ 200) (h33 : al 0 33 = nI D) (hc : ∀ x, x < n → al 17 x = zI (c x) ∧ 0 ≤ c x ∧ c x ≤ 1000000) (hus : ∀ x y, x < n → y < n → us x y = zUsX rc x y) (hbe : ∀ x, x < n → 0 ≤ zE D c us x n → zBg D c (zTm rc st) us x n ≤ zE D c us x n) : zMi G yX11_spans wsX11_spans rmX11_spans zTR ad ln [.ref (ad 0)] al (fun q a => zFr [0, 20, 21, 22, 23] al a ∧ (∀ j, j ≠ 40 → j ≠ 41 → a 0 j = al 0 j) ∧ match zFitS D (fun x => zBg D c (zTm rc st) us x n) (fun x => zE D c us x n) (zOr (fun x => zBg D c (zTm rc st) us x n) n).1 (zOr (fun x => zBg D c (zTm rc st) us x n) n).2 with
    | some (sz, off) => q = 1 ∧ a 0 40 = zI (zNd D (fun x => zBg D c (zTm rc st) us x n) (fun x => zE D c us x n) (zOr (fun x => zBg D c (zTm rc st) us x n) n).1 (zOr (fun x => zBg D c (zTm rc st) us x n) n).2 D) ∧ a 0 41 = nI sz ∧ (1 ≤ sz ∧ sz ≤ 128) ∧ ∀ x, x < n → a 20 x = zI (zBg D c (zTm rc st) us x n) ∧ a 21 x = zI (zE D c us x n) ∧ a 22 x = zI (off x)
    | none => q = 0) := by
  refine zMi.of (cc := cX11_spans) (nL := 5) (rt := .boolean) (by decide) rfl (Nat.le_of_ble_eq_true rfl) (fun Z X hR => ?_)
  have hn := h1.2.1
  have hst : ∀ j, j < 4 → 1 ≤ st j ∧ st j ≤ 20 := fun j hj => (h2.1 j hj).2
  have htm : ∀ x, x < n → 1 ≤ zTm rc st x ∧ zTm rc st x ≤ 20 := fun x hx => hst _ (rKd_ok (h1.2.2 x hx).2).1
  have er0 : ∀ x y, y ≤ n → -1 ≤ zE D c us x y ∧ zE D c us x y ≤ 1000200 := by
    intro x y hy
    have := zE_rng (D := D) (c := c) (us := us) (n := n) (B := 1000000) (fun y hy => (hc y hy).2) (by omega) (x := x) y hy
    omega
  generalize hb : (fun x => zBg D c (zTm rc st) us x n) = b at hR
  generalize he : (fun x => zE D c us x n) = e at hR
  have ebx : ∀ x, zBg D c (zTm rc st) us x n = b x := fun x => by rw [← hb]
  have eex : ∀ x, zE D c us x n = e x := fun x => by rw [← he]
  simp only [ebx, eex] at hR
  have er : ∀ x, x < n → -1 ≤ e x ∧ e x ≤ 1000200 := fun x hx => by rw [← eex]; exact er0 x n (Nat.le_refl _)
  have bdef : ∀ x, b x = if e x = -1 then -1 else c x + (zTm rc st x : Int) := fun x => by rw [← ebx, ← eex]; rfl
  have br : ∀ x, x < n → -1 ≤ b x ∧ b x ≤ 1000100 ∧ (0 ≤ b x ↔ 0 ≤ e x) := by
    intro x hx
    have a1 := (hc x hx).2
    have a2 := htm x hx
    have a3 := er x hx
    rw [bdef x]
    split <;> omega
  have hbe' : ∀ x, x < n → 0 ≤ e x → b x ≤ e x := fun x hx h0 => by
    rw [← ebx, ← eex]
    exact hbe x hx (by rw [eex]; exact h0)
  generalize ho : (zOr b n).1 = o at hR
  generalize hK : (zOr b n).2 = K at hR
  obtain ⟨k1, k2, k3, k4⟩ := zOr_ok b n
  rw [ho, hK] at k2 k3 k4
  rw [hK] at k1
  have ndr := zNd_rng (D := D) (b := b) (e := e) (o := o) (B := 1000200) hD.1 (k := K) (by omega) (fun j hj => by
    obtain ⟨o1, o2⟩ := k2 j hj
    exact ⟨o2, hbe' (o j) o1 ((br (o j) o1).2.2.mp o2), (er (o j) o1).2⟩)
  have smr := fun s => zSm_rng (D := D) (b := b) (e := e) (o := o) (B := 1000200) hD.1 s
  have hfr : ∀ a, zFr [0, 20, 21, 22, 23] al a → (∀ j, j ≠ 40 → j ≠ 41 → a 0 j = al 0 j) → zRr a n rc ∧ zRst a st := by
    intro a f j
    exact ⟨h1.fr f (j 9 (by decide) (by decide)) (by intro k hk; simp at hk; omega), h2.fr (f 11 (by decide)) (fun i _ _ => j i (by omega) (by omega))⟩
  have so : ∀ a : Nat → Nat → Int32, a 0 33 = nI D → (∀ j, j < K → a 23 j = nI (o j)) → (∀ x, x < n → a 20 x = zI (b x) ∧ a 21 x = zI (e x)) → zSr a n D K b e o := by
    intro a h9 h26 h2324
    refine ⟨hn, hD, h9, by omega, fun j hj => ⟨h26 j hj, (k2 j hj).1⟩, k3, fun j hj => ?_⟩
    obtain ⟨o1, o2⟩ := k2 j hj
    obtain ⟨q1, q2⟩ := h2324 (o j) o1
    exact ⟨q1, q2, o2, hbe' (o j) o1 ((br (o j) o1).2.2.mp o2), (er (o j) o1).2⟩
  generalize hP : (fun (q : Int32) (a : Nat → Nat → Int32) => zFr [0, 20, 21, 22, 23] al a ∧ (∀ j, j ≠ 40 → j ≠ 41 → a 0 j = al 0 j) ∧ match zFitS D b e o K with
    | some (sz, off) => q = 1 ∧ a 0 40 = zI (zNd D b e o K D) ∧ a 0 41 = nI sz ∧ (1 ≤ sz ∧ sz ≤ 128) ∧ ∀ x, x < n → a 20 x = zI (b x) ∧ a 21 x = zI (e x) ∧ a 22 x = zI (off x)
    | none => q = 0) = P at hR
  -- sizes
  have sizes : ∀ (g sz : Nat) (a : Nat → Nat → Int32), sz + g = 129 → 1 ≤ sz → zNd D b e o K D ≤ (sz : Int) → zFr [0, 20, 21, 22, 23] al a → (∀ j, j ≠ 40 → j ≠ 41 → a 0 j = al 0 j) → zSr a n D K b e o → a 0 41 = nI sz → a 0 40 = zI (zNd D b e o K D) → (∀ x, x < n → a 20 x = zI (b x) ∧ a 21 x = zI (e x)) → (∀ x, x < n → (∀ j, j < K → o j ≠ x) → a 22 x = -1) → zFitS D b e o K = zSz D b e o K g sz → BX11_spans_287 G Z ad ln (nI K) a := by
    intro g
    induction g with
    | zero =>
      intro sz a hg hs1 hnd hf hj hso h41 h40 h2 h22 ez
      refine uX11_spans_287 X hR _ a ?_
      unfold vcX11_spans_287
      have : sz = 129 := by omega
      subst this
      rw [h41]
      refine ⟨fun _ => ?_, fun z => absurd (by decide) z⟩
      rw [← hP]
      refine ⟨hf, hj, ?_⟩
      rw [ez]
      rfl
    | succ g ih =>
      intro sz a hg hs1 hnd hf hj hso h41 h40 h2 h22 ez
      refine uX11_spans_287 X hR _ a ?_
      unfold vcX11_spans_287
      rw [h41]
      refine ⟨fun z => absurd z (by rw [show (128 : Int32) = nI 128 from rfl, nI_ltI (by omega) (by omega)]; omega), fun _ => ?_⟩
      refine (r_rotated G ad ln a hso (sz := sz) (by omega) h41 hnd h22).mono (fun q a2 hq => ?_)
      obtain ⟨f2, g2, g3⟩ := hq
      have nx : zSz D b e o K (g + 1) sz = (match zCol D b e o sz K with
        | some off => some (sz, off)
        | none => zSz D b e o K g (sz + 1)) := rfl
      cases hz : zCol D b e o sz K with
      | some off =>
        rw [hz] at g3 nx
        obtain ⟨rfl, g4⟩ := g3
        refine ⟨fun z => absurd z (by decide), fun _ => ?_⟩
        rw [← hP]
        refine ⟨hf.tr (f2.mono (by decide)), fun j j1 j2 => by rw [f2 0 (by decide)]; exact hj j j1 j2, ?_⟩
        rw [ez, nx]
        refine ⟨rfl, by rw [f2 0 (by decide)]; exact h40, by rw [f2 0 (by decide)]; exact h41, by omega, fun x hx => ⟨?_, ?_, g4 x hx⟩⟩
        · rw [f2 20 (by decide)]
          exact (h2 x hx).1
        · rw [f2 21 (by decide)]
          exact (h2 x hx).2
      | none =>
        rw [hz] at g3 nx
        rw [g3]
        refine ⟨fun _ => ?_, fun z => absurd rfl z⟩
        rw [f2 0 (by decide), h41, nI_1]
        refine ih (sz + 1) _ (by omega) (by omega) (by omega) ((hf.tr (f2.mono (by decide))).up (by decide) _ _) (fun j j1 j2 => ?_) ?_ (up2_self _ _ _ _) ?_ (fun x hx => ?_) (fun x hx ho => ?_) ?_
        · rw [up2_ne _ _ (fun z => j2 z.2), f2 0 (by decide)]
          exact hj j j1 j2
        · refine hso.fr ?_ ?_ ?_ ?_
          · rw [up2_ne _ _ (fun z => absurd z.2 (by decide)), f2 0 (by decide)]
          · rw [up2_name _ _ _ (by decide), f2 20 (by decide)]
          · rw [up2_name _ _ _ (by decide), f2 21 (by decide)]
          · rw [up2_name _ _ _ (by decide), f2 23 (by decide)]
        · rw [up2_ne _ _ (fun z => absurd z.2 (by decide)), f2 0 (by decide)]
          exact h40
        · rw [up2_name _ _ _ (by decide), up2_name _ _ _ (by decide), f2 20 (by decide), f2 21 (by decide)]
          exact h2 x hx
        · rw [up2_name _ _ _ (by decide)]
          exact g2 x hx ho
        · rw [ez, nx]
  -- need
  have needs : ∀ (g s : Nat) (a : Nat → Nat → Int32), s + g = D → zFr [0, 20, 21, 22, 23] al a → (∀ j, j ≠ 40 → j ≠ 41 → a 0 j = al 0 j) → zSr a n D K b e o → a 0 40 = zI (zNd D b e o K s) → (∀ x, x < n → a 20 x = zI (b x) ∧ a 21 x = zI (e x)) → (∀ x, x < n → a 22 x = -1) → BX11_spans_206 G Z ad ln (nI K) (nI s) a := by
    intro g
    induction g with
    | zero =>
      intro s a hg hf hj hso h40 h2 h22
      refine uX11_spans_206 X hR _ _ a ?_
      unfold vcX11_spans_206
      have : s = D := by omega
      subst this
      have ndd := ndr s
      rw [hso.2.2.1, h40, show (96 : Int32) = zI 96 from rfl, zI_le ⟨by omega, by omega⟩ ⟨by omega, by omega⟩, zI_1, zI_mx ⟨by omega, by omega⟩ ⟨by omega, by omega⟩]
      refine ⟨fun _ => ⟨fun q => ?_, fun q => ?_⟩, fun z => absurd (Int32.le_refl _) z⟩
      · have hmx : 1 ≤ zmx (zNd s b e o K s) 1 ∧ zmx (zNd s b e o K s) 1 ≤ 96 ∧ zNd s b e o K s ≤ zmx (zNd s b e o K s) 1 := by
          unfold zmx
          split <;> omega
        refine sizes (129 - (zmx (zNd s b e o K s) 1).toNat) (zmx (zNd s b e o K s) 1).toNat _ (by omega) (by omega) (by omega) (hf.up (by decide) _ _) (fun j j1 j2 => ?_) ?_ ?_ ?_ (fun x hx => ?_) (fun x hx _ => ?_) ?_
        · rw [up2_ne _ _ (fun z => j2 z.2)]
          exact hj j j1 j2
        · refine hso.fr ?_ ?_ ?_ ?_
          · rw [up2_ne _ _ (fun z => absurd z.2 (by decide))]
          · rw [up2_name _ _ _ (by decide)]
          · rw [up2_name _ _ _ (by decide)]
          · rw [up2_name _ _ _ (by decide)]
        · rw [up2_self, zI_n]
          congr 1
          omega
        · rw [up2_ne _ _ (fun z => absurd z.2 (by decide))]
          exact h40
        · rw [up2_name _ _ _ (by decide), up2_name _ _ _ (by decide)]
          exact h2 x hx
        · rw [up2_name _ _ _ (by decide)]
          exact h22 x hx
        · unfold zFitS
          rw [if_neg (by omega)]
      · rw [← hP]
        refine ⟨hf, hj, ?_⟩
        unfold zFitS
        rw [if_pos (by omega)]
    | succ g ih =>
      intro s a hg hf hj hso h40 h2 h22
      have sumk : ∀ (g2 k : Nat), k + g2 = K → BX11_spans_219 G Z ad ln (nI K) (nI s) (zI (zSm D b e o (s : Int) k)) (nI k) a := by
        intro g2
        induction g2 with
        | zero =>
          intro k hk
          refine uX11_spans_219 X hR _ _ _ _ a ?_
          unfold vcX11_spans_219
          have : k = K := by omega
          subst this
          have ndd := ndr s
          have sms := smr (s : Int) k (fun j hj => by
            obtain ⟨o1, o2⟩ := k2 j hj
            exact ⟨o2, hbe' (o j) o1 ((br (o j) o1).2.2.mp o2), (er (o j) o1).2⟩)
          rw [h40, zI_mx ⟨by omega, by omega⟩ ⟨by omega, by omega⟩, nI_1]
          refine ⟨fun _ => ih (s + 1) _ (by omega) (hf.up (by decide) _ _) (fun j j1 j2 => ?_) ?_ (up2_self _ _ _ _) (fun x hx => ?_) (fun x hx => ?_), fun z => absurd (Int32.le_refl _) z⟩
          · rw [up2_ne _ _ (fun z => j1 z.2)]
            exact hj j j1 j2
          · refine hso.fr ?_ ?_ ?_ ?_
            · rw [up2_ne _ _ (fun z => absurd z.2 (by decide))]
            · rw [up2_name _ _ _ (by decide)]
            · rw [up2_name _ _ _ (by decide)]
            · rw [up2_name _ _ _ (by decide)]
          · rw [up2_name _ _ _ (by decide), up2_name _ _ _ (by decide)]
            exact h2 x hx
          · rw [up2_name _ _ _ (by decide)]
            exact h22 x hx
        | succ g2 ih2 =>
          intro k hk
          refine uX11_spans_219 X hR _ _ _ _ a ?_
          unfold vcX11_spans_219
          rw [nI_clamp (by omega), (hso.2.2.2.2.1 k (by omega)).1, nI_1, nI_1]
          refine ⟨fun z => absurd z (by rw [nI_leI (by omega) (by omega)]; omega), fun _ => ⟨vp_in_nI (by omega) (by omega), ?_⟩⟩
          refine (r_alive G ad ln a hso (j := k) (by omega) (s := s) (by omega)).mono (fun q2 a2 hq => ?_)
          obtain ⟨rfl, e2⟩ := hq
          obtain rfl := e2.symm
          rw [zI_add]
          exact ih2 (k + 1) (by omega)
      refine uX11_spans_206 X hR _ _ a ?_
      unfold vcX11_spans_206
      rw [hso.2.2.1]
      exact ⟨fun z => absurd z (by rw [nI_leI (by omega) (by omega)]; omega), fun _ => sumk K 0 (by omega)⟩
  -- rows
  have rows : ∀ (f x : Nat) (a : Nat → Nat → Int32), x + f = n → zFr [0, 20, 21, 22, 23] al a → (∀ j, a 0 j = al 0 j) → (∀ y, y < x → a 20 y = zI (b y) ∧ a 21 y = zI (e y) ∧ a 22 y = -1) → (∀ j, j < (zOr b x).2 → a 23 j = nI ((zOr b x).1 j)) → BX11_spans_4 G Z ad ln (nI (zOr b x).2) (nI x) a := by
    intro f
    induction f with
    | zero =>
      intro x a hx hf hj hy h23
      refine uX11_spans_4 X hR _ _ a ?_
      unfold vcX11_spans_4
      have : x = n := by omega
      subst this
      rw [hj 9, h1.1]
      rw [hK] at h23 ⊢
      rw [ho] at h23
      refine ⟨fun _ => needs D 0 _ (by omega) (hf.up (by decide) _ _) (fun j j1 j2 => ?_) (so _ ?_ (fun j hj' => ?_) (fun y hy' => ?_)) (up2_self _ _ _ _) (fun y hy' => ?_) (fun y hy' => ?_), fun z => absurd (Int32.le_refl _) z⟩
      · rw [up2_ne _ _ (fun z => j1 z.2)]
        exact hj j
      · rw [up2_ne _ _ (fun z => absurd z.2 (by decide)), hj 33]
        exact h33
      · rw [up2_name _ _ _ (by decide)]
        exact h23 j hj'
      · rw [up2_name _ _ _ (by decide), up2_name _ _ _ (by decide)]
        exact ⟨(hy y hy').1, (hy y hy').2.1⟩
      · rw [up2_name _ _ _ (by decide), up2_name _ _ _ (by decide)]
        exact ⟨(hy y hy').1, (hy y hy').2.1⟩
      · rw [up2_name _ _ _ (by decide)]
        exact (hy y hy').2.2
    | succ f ih =>
      intro x a hx hf hj hy h23
      have hxn : x < n := by omega
      obtain ⟨i1, i2, i3, i4⟩ := zOr_ok b x
      have v : vp_in (nI x) 48 := vp_in_nI (by omega) (by omega)
      have v9 : vp_in (nI x) 49 := vp_in_nI (by omega) (by omega)
      -- behind the uses
      have after : ∀ a2 : Nat → Nat → Int32, zFr [0, 20, 21, 22, 23] al a2 → (∀ j, a2 0 j = al 0 j) → (∀ y, y < x → a2 20 y = zI (b y) ∧ a2 21 y = zI (e y) ∧ a2 22 y = -1) → (∀ j, j < (zOr b x).2 → a2 23 j = nI ((zOr b x).1 j)) → a2 20 x = -1 → a2 21 x = zI (e x) → a2 22 x = -1 → vcX11_spans_105 G ad ln (BX11_spans_4 G Z ad ln) (BX11_spans_35 G Z ad ln) (BX11_spans_137 G Z ad ln) (BX11_spans_206 G Z ad ln) (BX11_spans_219 G Z ad ln) (BX11_spans_287 G Z ad ln) P (nI (zOr b x).2) (nI x) a2 := by
        intro a2 f2 j2 y2 g23 g20 g21 g22
        unfold vcX11_spans_105 vcX11_spans_193
        have hr := er x hxn
        have hbr := br x hxn
        rw [nI_clamp (by omega), g21, zI_0, zI_le ⟨by omega, by omega⟩ ⟨by omega, by omega⟩, nI_1]
        refine ⟨v, fun q => ⟨v, ?_⟩, fun q => ?_⟩
        · obtain ⟨h1', h2'⟩ := hfr a2 f2 (fun j _ _ => j2 j)
          refine (r_time G ad ln a2 h1' h2' hxn).mono (fun q2 a3 hq => ⟨v, ?_⟩)
          obtain ⟨rfl, e3⟩ := hq
          obtain rfl := e3.symm
          rw [f2 17 (by decide), (hc x hxn).1, zI_n (zTm rc st x), zI_add]
          have eb : c x + (zTm rc st x : Int) = b x := by rw [bdef x, if_neg (by omega)]
          rw [eb]
          have nx : zOr b (x + 1) = (zIn2 (zOr b x).1 (zIp b (zOr b x).1 x (zOr b x).2) x, (zOr b x).2 + 1) := by
            show (if b x < 0 then _ else _) = _
            rw [if_neg (by omega)]
          generalize zOr b x = w at i1 i2 i3 i4 g23 nx
          obtain ⟨oo, k⟩ := w
          simp only at i1 i2 i3 i4 g23 nx ⊢
          have inner : ∀ (g : Nat) (a' : Nat → Nat → Int32), g ≤ k → zFr [0, 20, 21, 22, 23] al a' → (∀ j, a' 0 j = al 0 j) → (∀ y, y < x + 1 → a' 20 y = zI (b y) ∧ a' 21 y = zI (e y) ∧ a' 22 y = -1) → (∀ j, j < g → a' 23 j = nI (oo j)) → (∀ j, g < j → j ≤ k → a' 23 j = nI (oo (j - 1))) → zIp b oo x g = zIp b oo x k → BX11_spans_137 G Z ad ln (nI k) (nI x) (nI g) a' := by
            intro g
            induction g with
            | zero =>
              intro a' hg hf' hj' hy' ho1 ho2 hp
              refine uX11_spans_137 X hR _ _ _ a' ?_
              unfold vcX11_spans_137 vcX11_spans_183 vcX11_spans_193
              refine ⟨fun _ => ⟨by unfold vp_in; decide, ?_⟩, fun z => absurd (by decide) z⟩
              rw [nI_1, nI_1, nI_clamp (by omega)]
              have := ih (x + 1) (up2 a' 23 0 (nI x)) (by omega) (hf'.up (by decide) _ _) (fun j => ?_) (fun y hyy => ?_) ?_
              · rw [nx] at this
                exact this
              · rw [up2_name _ _ _ (by decide)]
                exact hj' j
              · rw [up2_name _ _ _ (by decide), up2_name _ _ _ (by decide), up2_name _ _ _ (by decide)]
                exact hy' y hyy
              · rw [nx]
                intro j hjj
                simp only at hjj ⊢
                rw [← hp]
                unfold zIn2 zIp
                rw [if_neg (by omega)]
                by_cases e1 : j = 0
                · subst e1
                  rw [up2_self, if_pos rfl]
                · rw [up2_ne _ _ (fun z => e1 z.2), if_neg e1]
                  exact ho2 j (by omega) (by omega)
            | succ g ih2 =>
              intro a' hg hf' hj' hy' ho1 ho2 hp
              refine uX11_spans_137 X hR _ _ _ a' ?_
              unfold vcX11_spans_137 vcX11_spans_183 vcX11_spans_193
              have e1 : nI (g + 1) - 1 = nI g := by
                rw [zI_n, zI_n, zI_1, zI_sub]
                congr 1
                omega
              have e2 : nI (g + 1) + -1 = nI g := by
                rw [zI_n, zI_n, zI_m1, zI_add]
                congr 1
                omega
              obtain ⟨o1, o2⟩ := i2 g (by omega)
              have cg := br (oo g) (by omega)
              rw [e1, e2, nI_clamp (by omega), nI_clamp (by omega), nI_clamp (by omega), ho1 g (by omega), nI_clamp (by omega), (hy' (oo g) (by omega)).1, (hy' x (by omega)).1, zI_le ⟨by omega, by omega⟩ ⟨by omega, by omega⟩, nI_1, nI_1]
              refine ⟨fun z => absurd z (by rw [show (0 : Int32) = nI 0 from rfl, nI_leI (by omega) (by omega)]; omega), fun _ => ⟨vp_in_nI (by omega) (by omega), vp_in_nI (by omega) (by omega), v, fun q2 => ⟨vp_in_nI (by omega) (by omega), ?_⟩, fun q2 => ⟨vp_in_nI (by omega) (by omega), vp_in_nI (by omega) (by omega), ?_⟩⟩⟩
              · have := ih (x + 1) (up2 a' 23 (g + 1) (nI x)) (by omega) (hf'.up (by decide) _ _) (fun j => ?_) (fun y hyy => ?_) ?_
                · rw [nx] at this
                  exact this
                · rw [up2_name _ _ _ (by decide)]
                  exact hj' j
                · rw [up2_name _ _ _ (by decide), up2_name _ _ _ (by decide), up2_name _ _ _ (by decide)]
                  exact hy' y hyy
                · rw [nx]
                  intro j hjj
                  simp only at hjj ⊢
                  have ep : zIp b oo x (g + 1) = g + 1 := by
                    unfold zIp
                    rw [if_neg (by omega)]
                  rw [← hp, ep]
                  unfold zIn2
                  by_cases e3 : j < g + 1
                  · rw [if_pos e3, up2_ne _ _ (fun z => absurd z.2 (by omega))]
                    exact ho1 j e3
                  · rw [if_neg e3]
                    by_cases e4 : j = g + 1
                    · subst e4
                      rw [if_pos rfl, up2_self]
                    · rw [if_neg e4, up2_ne _ _ (fun z => e4 z.2)]
                      exact ho2 j (by omega) (by omega)
              · refine ih2 _ (by omega) (hf'.up (by decide) _ _) (fun j => ?_) (fun y hyy => ?_) (fun j hj2 => ?_) (fun j hj2 hj3 => ?_) ?_
                · rw [up2_name _ _ _ (by decide)]
                  exact hj' j
                · rw [up2_name _ _ _ (by decide), up2_name _ _ _ (by decide), up2_name _ _ _ (by decide)]
                  exact hy' y hyy
                · rw [up2_ne _ _ (fun z => absurd z.2 (by omega))]
                  exact ho1 j (by omega)
                · by_cases e4 : j = g + 1
                  · subst e4
                    rw [up2_self]
                    rfl
                  · rw [up2_ne _ _ (fun z => e4 z.2)]
                    exact ho2 j (by omega) hj3
                · rw [← hp]
                  show _ = (if b x < b (oo g) then zIp b oo x g else g + 1)
                  rw [if_pos (by omega)]
          refine inner k _ (Nat.le_refl _) (f2.up (by decide) _ _) (fun j => ?_) (fun y hyy => ?_) (fun j hj' => ?_) (fun j z1 z2 => absurd z1 (by omega)) rfl
          · rw [up2_name _ _ _ (by decide)]
            exact j2 j
          · by_cases ey : y = x
            · subst ey
              rw [up2_self, up2_name _ _ _ (by decide), up2_name _ _ _ (by decide)]
              exact ⟨rfl, g21, g22⟩
            · rw [up2_ne _ _ (fun z => ey z.2), up2_name _ _ _ (by decide), up2_name _ _ _ (by decide)]
              exact y2 y (by omega)
          · rw [up2_name _ _ _ (by decide)]
            exact g23 j hj'
        · have eo : zOr b (x + 1) = zOr b x := by
            show (if b x < 0 then _ else _) = _
            rw [if_pos (by omega)]
          have := ih (x + 1) a2 (by omega) f2 j2 (fun y hyy => ?_) (by rw [eo]; exact g23)
          · rw [eo] at this
            exact this
          · by_cases ey : y = x
            · subst ey
              refine ⟨?_, g21, g22⟩
              rw [g20, bdef y, if_pos (by omega)]
              rfl
            · exact y2 y (by omega)
      -- the uses
      have uses : ∀ (g y : Nat) (a2 : Nat → Nat → Int32), y + g = n → zFr [0, 20, 21, 22, 23] al a2 → (∀ j, a2 0 j = al 0 j) → (∀ y, y < x → a2 20 y = zI (b y) ∧ a2 21 y = zI (e y) ∧ a2 22 y = -1) → (∀ j, j < (zOr b x).2 → a2 23 j = nI ((zOr b x).1 j)) → a2 20 x = -1 → a2 21 x = zI (zE D c us x y) → a2 22 x = -1 → ((rc x).2.2.1 < 0 → zE D c us x y = e x) → BX11_spans_35 G Z ad ln (nI (zOr b x).2) (nI x) (nI y) a2 := by
        intro g
        induction g with
        | zero =>
          intro y a2 hg f2 j2 y2 g23 g20 g21 g22 g24
          refine uX11_spans_35 X hR _ _ _ a2 ?_
          unfold vcX11_spans_35
          have : y = n := by omega
          subst this
          obtain ⟨h1', h2'⟩ := hfr a2 f2 (fun j _ _ => j2 j)
          rw [eex] at g21
          have af := after a2 f2 j2 y2 g23 g20 g21 g22
          rw [j2 9, h1.1]
          exact ⟨v9, fun _ => af, fun _ => ⟨fun _ => af, fun z => absurd (Int32.le_refl _) z⟩⟩
        | succ g ih2 =>
          intro y a2 hg f2 j2 y2 g23 g20 g21 g22 g24
          refine uX11_spans_35 X hR _ _ _ a2 ?_
          unfold vcX11_spans_35 vcX11_spans_99
          obtain ⟨h1', h2'⟩ := hfr a2 f2 (fun j _ _ => j2 j)
          have hyn : y < n := by omega
          rw [j2 9, h1.1, nI_clamp (by omega), nI_clamp (by omega), (h1'.2.2 x hxn).1.2.1, nI_1]
          refine ⟨v9, fun q => after a2 f2 j2 y2 g23 g20 (by rw [g21, g24 q]) g22, fun q => ⟨fun z => absurd z (by rw [nI_leI (by omega) (by omega)]; omega), fun _ => ⟨v9, ?_⟩⟩⟩
          have nextE : zE D c us x (y + 1) = (if us x y = true then zmx (zE D c us x y) (zUe D c x y) else zE D c us x y) := rfl
          have eus : us x y = zUsR rc (rc x).2.2.1 y := by
            rw [hus x y hxn hyn]
            unfold zUsX
            rw [decide_eq_true (Int32.not_lt.mp q), Bool.true_and]
          refine (r_uses G ad ln a2 h1' hyn _).mono (fun q3 a3 hq => ?_)
          obtain ⟨rfl, e3⟩ := hq
          obtain rfl := e3.symm
          refine ⟨fun q4 => ?_, fun q4 => ⟨v, vp_in_nI (by omega) (by omega), ?_⟩⟩
          · rw [zb_0] at q4
            rw [if_neg (by rw [eus, q4]; decide)] at nextE
            exact ih2 (y + 1) a2 (by omega) f2 j2 y2 g23 g20 (by rw [nextE]; exact g21) g22 (fun z => absurd z q)
          · have q5 : zUsR rc (rc x).2.2.1 y = true := by
              cases hz : zUsR rc (rc x).2.2.1 y
              · rw [hz] at q4
                exact absurd rfl q4
              · rfl
            rw [if_pos (by rw [eus, q5])] at nextE
            refine (r_useOver G ad ln a2 (x := x) (y := y) (by omega) (by omega)).mono (fun q6 a6 hq => ⟨v, ?_⟩)
            obtain ⟨rfl, e3⟩ := hq
            obtain rfl := e3.symm
            have eu : zI (c y) + nI (zUon x y) * nI D = zI (zUe D c x y) := by
              rw [zI_n, zI_n, zI_mul, zI_add]
              unfold zUe zUo zUon
              congr 3
              split <;> rfl
            have ur := zUe_rng (D := D) (x := x) (hc y hyn).2
            have ee := er0 x y (by omega)
            rw [f2 17 (by decide), (hc y hyn).1, j2 33, h33, eu, g21, zI_mx ⟨by omega, by omega⟩ ⟨by omega, by omega⟩]
            refine ih2 (y + 1) _ (by omega) (f2.up (by decide) _ _) (fun j => ?_) (fun z hz => ?_) (fun j hj' => ?_) ?_ ?_ ?_ (fun z => absurd z q)
            · rw [up2_name _ _ _ (by decide)]
              exact j2 j
            · rw [up2_name _ _ _ (by decide), up2_ne _ _ (fun w => absurd w.2 (by omega)), up2_name _ _ _ (by decide)]
              exact y2 z hz
            · rw [up2_name _ _ _ (by decide)]
              exact g23 j hj'
            · rw [up2_name _ _ _ (by decide)]
              exact g20
            · rw [up2_self, nextE]
            · rw [up2_name _ _ _ (by decide)]
              exact g22
      refine uX11_spans_4 X hR _ _ a ?_
      unfold vcX11_spans_4
      rw [hj 9, h1.1, nI_clamp (by omega)]
      refine ⟨fun z => absurd z (by rw [nI_leI (by omega) (by omega)]; omega), fun _ => ⟨v, v, v, uses n 0 _ (by omega) (((hf.up (by decide) _ _).up (by decide) _ _).up (by decide) _ _) (fun j => ?_) (fun y hyy => ?_) (fun j hj' => ?_) ?_ ?_ (up2_self _ _ _ _) (fun q => ?_)⟩⟩
      · rw [up2_name _ _ _ (by decide), up2_name _ _ _ (by decide), up2_name _ _ _ (by decide)]
        exact hj j
      · have hne : y ≠ x := by omega
        refine ⟨?_, ?_, ?_⟩
        · rw [up2_name _ _ _ (by decide), up2_name _ _ _ (by decide), up2_ne _ _ (fun z => hne z.2)]
          exact (hy y hyy).1
        · rw [up2_name _ _ _ (by decide), up2_ne _ _ (fun z => hne z.2), up2_name _ _ _ (by decide)]
          exact (hy y hyy).2.1
        · rw [up2_ne _ _ (fun z => hne z.2), up2_name _ _ _ (by decide), up2_name _ _ _ (by decide)]
          exact (hy y hyy).2.2
      · rw [up2_name _ _ _ (by decide), up2_name _ _ _ (by decide), up2_name _ _ _ (by decide)]
        exact h23 j hj'
      · rw [up2_name _ _ _ (by decide), up2_name _ _ _ (by decide), up2_self]
      · rw [up2_name _ _ _ (by decide), up2_self]
        rfl
      · show (-1 : Int) = e x
        rw [← eex]
        refine (zE_none n (fun y' hy' => ?_)).symm
        rw [hus x y' hxn hy']
        unfold zUsX
        rw [decide_eq_false (Int32.not_le.mpr q)]
        rfl
  refine uX11_spans_0 X hR al ?_
  unfold vcX11_spans_0
  exact rows n 0 al (by omega) zFr.rf (fun _ => rfl) (fun y hy => absurd hy (by omega)) (fun j hj => absurd hj (by show ¬ j < 0; omega))
end REFS2
