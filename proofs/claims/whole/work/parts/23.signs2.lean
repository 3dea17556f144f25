-- needs: 22
section SIGNS2
variable (G : zG) (r : Bool) (ad ln : Nat → Nat) (al : Nat → Nat → Int32)
theorem zDig_f {b : Int32} (h : ¬ zb (zDig b) = 0) : zDig b = true := by
  cases e : zDig b
  · rw [e] at h
    exact absurd rfl h
  · rfl
theorem c_cutRegister {n a k : Nat} (h1 : al 8 1 = nI n) (hn : n ≤ 4096) (h2 : al 8 2 = nI a) (ha : a ≤ n) (hk : k < 577) : zMi G yX5_cutRegister wsX5_cutRegister rmX5_cutRegister (zTC r) ad ln [.ref (ad 8), .int (nI k)] al (fun q a' => q = (zReg (zBy al n) a).1 ∧ a' = up2 (up2 al 8 2 (nI (zReg (zBy al n) a).2.2)) 11 k (nI (zReg (zBy al n) a).2.1)) := by
  refine zMi.of (cc := cX5_cutRegister) (nL := 4) (rt := .int) (by decide) rfl (Nat.le_of_ble_eq_true rfl) (fun Z X hR => ?_)
  generalize ht : zReg (zBy al n) a = tgt at hR
  have fin : ∀ (g v c : Nat), g ≤ 2 → v < 1000 → ((if g = 0 ∨ ¬ v < 32 then -2 else 114 : Int32), v, c) = tgt → vcX5_cutRegister_66 G r ad ln (nI k) (BX5_cutRegister_14 G Z r ad ln (nI k)) (fun q a' => q = tgt.1 ∧ a' = up2 (up2 al 8 2 (nI tgt.2.2)) 11 k (nI tgt.2.1)) (nI g) (nI v) (up2 al 8 2 (nI c)) := by
    intro g v c hg hv e
    subst e
    unfold vcX5_cutRegister_66 vcX5_cutRegister_83 vcX5_cutRegister_90
    rw [nI_clamp (by omega), show (32 : Int32) = nI 32 from rfl, nI_ltI (by omega) (by omega), show (0 : Int32) = nI 0 from rfl, nI_eq (by omega) (by omega)]
    refine ⟨vp_in_nI hk (by omega), fun h => ⟨?_, rfl⟩, fun h => ⟨fun h' => ⟨?_, rfl⟩, fun h' => ⟨?_, rfl⟩⟩⟩
    · rw [if_pos (Or.inl h)]
    · rw [if_neg (fun q => q.elim h (fun q => q h'))]
    · rw [if_pos (Or.inr h')]
  have hb : ∀ c, c < 2147483648 → zMi G yX5_byteAt wsX5_byteAt rmX5_byteAt (zTC r) ad ln [.ref (ad 8), .int (nI c)] (up2 al 8 2 (nI c)) (fun q a2 => q = zBy al n c ∧ a2 = up2 al 8 2 (nI c)) := fun c hc => (c_byteAt G r ad ln (up2 al 8 2 (nI c)) (n := n) (i := c) (by rw [up2_ne al _ (show ¬ (8 = 8 ∧ 1 = 2) by omega), h1]) hn hc).mono (fun q a2 hq => by rw [zBy_up (show (8 : Nat) ≠ 1 by omega)] at hq; exact hq)
  have step : ∀ (g v c : Nat), g < 2 → v < 100 → c < 100000 → (zDig (zBy al n c) = false → ((if g = 0 ∨ ¬ v < 32 then -2 else 114 : Int32), v, c) = tgt) → (zDig (zBy al n c) = true → BX5_cutRegister_14 G Z r ad ln (nI k) (nI (g + 1)) (nI (v * 10 + zD (zBy al n) c)) (up2 al 8 2 (nI (c + 1)))) → BX5_cutRegister_14 G Z r ad ln (nI k) (nI g) (nI v) (up2 al 8 2 (nI c)) := by
    intro g v c hg hv hc e0 e1
    refine uX5_cutRegister_14 X _ hR _ _ _ ?_
    unfold vcX5_cutRegister_14
    rw [up2_self]
    refine ⟨fun h => absurd h (by rw [show (2 : Int32) = nI 2 from rfl, nI_leI (by omega) (by omega)]; omega), fun _ => ?_⟩
    refine (hb c (by omega)).mono (fun q a2 hq => ?_)
    obtain ⟨rfl, hq⟩ := hq
    obtain rfl := hq.symm
    refine (c_isDigit G r ad ln _ _).mono (fun q a3 hq => ?_)
    obtain ⟨rfl, hq⟩ := hq
    obtain rfl := hq.symm
    refine ⟨fun hd => ?_, fun hd => ?_⟩
    · rw [zb_0] at hd
      exact fin g v c (by omega) (by omega) (e0 hd)
    · have hd' := zDig_f hd
      obtain ⟨m, hm1, hm2, em, hcn⟩ := zDig_by hd'
      rw [up2_self]
      refine (hb c (by omega)).mono (fun q a5 hq => ?_)
      obtain ⟨rfl, hq⟩ := hq
      obtain rfl := hq.symm
      have := e1 hd'
      rw [zD, em, nI_clamp (by omega)] at this
      rw [em, up2_self, nI_1, nI_1, up2_up2, show (10 : Int32) = nI 10 from rfl, show (48 : Int32) = nI 48 from rfl, pk_mul, nI_add, pk_sub (by omega)]
      rw [show v * 10 + m - 48 = v * 10 + (m - 48) by omega]
      exact this
  have last : ∀ (v c : Nat), v < 1000 → ((if ¬ v < 32 then -2 else 114 : Int32), v, c) = tgt → BX5_cutRegister_14 G Z r ad ln (nI k) (nI 2) (nI v) (up2 al 8 2 (nI c)) := by
    intro v c hv e
    refine uX5_cutRegister_14 X _ hR _ _ _ ?_
    unfold vcX5_cutRegister_14
    exact ⟨fun _ => fin 2 v c (by omega) hv (by rw [← e]; simp), fun h => absurd (by decide) h⟩
  have hd9 : ∀ c, zDig (zBy al n c) = true → zD (zBy al n) c ≤ 9 := by
    intro c hd
    obtain ⟨m, hm1, hm2, em, -⟩ := zDig_by hd
    rw [zD, em, nI_clamp (by omega)]
    omega
  refine uX5_cutRegister_0 X _ hR al ?_
  unfold vcX5_cutRegister_0
  rw [h2, nI_1]
  unfold zReg at ht
  refine step 0 0 (a + 1) (by omega) (by omega) (by omega) (fun e => ?_) (fun e => ?_)
  · rw [if_neg (by rw [e]; decide)] at ht
    rw [← ht]
    simp
  · rw [if_pos e] at ht
    have h9 := hd9 _ e
    rw [show 0 * 10 + zD (zBy al n) (a + 1) = zD (zBy al n) (a + 1) by omega]
    refine step 1 _ (a + 1 + 1) (by omega) (by omega) (by omega) (fun e2 => ?_) (fun e2 => ?_)
    · rw [if_neg (by rw [show a + 2 = a + 1 + 1 from rfl, e2]; decide)] at ht
      rw [← ht, if_neg (by omega)]
    · rw [if_pos (show zDig (zBy al n (a + 2)) = true from e2)] at ht
      have h8 := hd9 _ e2
      refine last _ _ (by omega) ?_
      rw [← ht]
      by_cases h32 : zD (zBy al n) (a + 1) * 10 + zD (zBy al n) (a + 2) < 32
      · rw [if_neg (fun q => q h32), if_pos h32]
      · rw [if_pos h32, if_neg h32]
theorem c_cutWord {n a : Nat} (h1 : al 8 1 = nI n) (hn : n ≤ 4096) (h2 : al 8 2 = nI a) (ha : a ≤ n) (hm : zBy al n a = 109) : zMi G yX5_cutWord wsX5_cutWord rmX5_cutWord (zTC r) ad ln [.ref (ad 8)] al (fun q a' => q = (zMark (zBy al n) a).1 ∧ a' = up2 al 8 2 (nI (a + (zMark (zBy al n) a).2))) := by
  refine zMi.of (cc := cX5_cutWord) (nL := 3) (rt := .int) (by decide) rfl (Nat.le_of_ble_eq_true rfl) (fun Z X hR => ?_)
  refine tX5_cutWord_0 X hR al ?_
  unfold vcX5_cutWord_0 vcX5_cutWord_43 vcX5_cutWord_66 vcX5_cutWord_68
  have em : zMark (zBy al n) a = if zBy al n (a + 1) = 105 ∧ zBy al n (a + 2) = 110 then (258, 3) else if zBy al n (a + 1) = 97 ∧ zBy al n (a + 2) = 120 then (259, 3) else (-2, 0) := by
    unfold zMark
    rw [hm, if_neg (by decide), if_neg (by decide), if_pos rfl]
  rw [h2, nI_1]
  refine (c_byteAt G r ad ln al (n := n) (i := a + 1) h1 hn (by omega)).mono (fun q a2 hq => ?_)
  obtain ⟨rfl, hq⟩ := hq
  obtain rfl := hq.symm
  rw [h2, show (2 : Int32) = nI 2 from rfl, nI_add]
  refine (c_byteAt G r ad ln al (n := n) (i := a + 2) h1 hn (by omega)).mono (fun q a2 hq => ?_)
  obtain ⟨rfl, hq⟩ := hq
  obtain rfl := hq.symm
  have bad : ¬ (zBy al n (a + 1) = 105 ∧ zBy al n (a + 2) = 110) → ¬ (zBy al n (a + 1) = 97 ∧ zBy al n (a + 2) = 120) → (-2 : Int32) = (zMark (zBy al n) a).1 ∧ al = up2 al 8 2 (nI (a + (zMark (zBy al n) a).2)) := by
    intro q1 q2
    rw [em, if_neg q1, if_neg q2]
    exact ⟨rfl, (up2_same h2).symm⟩
  have mx : ¬ (zBy al n (a + 1) = 105 ∧ zBy al n (a + 2) = 110) → (¬ zBy al n (a + 1) = 97 → (-2 : Int32) = (zMark (zBy al n) a).1 ∧ al = up2 al 8 2 (nI (a + (zMark (zBy al n) a).2))) ∧ (zBy al n (a + 1) = 97 → (¬ zBy al n (a + 2) = 120 → (-2 : Int32) = (zMark (zBy al n) a).1 ∧ al = up2 al 8 2 (nI (a + (zMark (zBy al n) a).2))) ∧ (zBy al n (a + 2) = 120 → zMi G yX5_pass wsX5_pass rmX5_pass (zTC r) ad ln [.ref (ad 8), .int 3, .int 259] al (fun q a' => q = (zMark (zBy al n) a).1 ∧ a' = up2 al 8 2 (nI (a + (zMark (zBy al n) a).2))))) := by
    intro q1
    refine ⟨fun h => bad q1 (fun q => h q.1), fun h => ⟨fun h' => bad q1 (fun q => h' q.2), fun h' => ?_⟩⟩
    refine (c_pass G r ad ln al 3 259).mono (fun q a2 hq => ?_)
    rw [em, if_neg q1, if_pos ⟨h, h'⟩, hq.1, hq.2, h2, show (3 : Int32) = nI 3 from rfl, nI_add]
    exact ⟨rfl, rfl⟩
  refine ⟨fun h => mx (fun q => h q.1), fun h => ⟨fun h' => mx (fun q => h' q.2), fun h' => ?_⟩⟩
  refine (c_pass G r ad ln al 3 258).mono (fun q a2 hq => ?_)
  rw [em, if_pos ⟨h, h'⟩, hq.1, hq.2, h2, show (3 : Int32) = nI 3 from rfl, nI_add]
  exact ⟨rfl, rfl⟩
theorem c_cutMark {n a : Nat} (h1 : al 8 1 = nI n) (hn : n ≤ 4096) (h2 : al 8 2 = nI a) (ha : a ≤ n) {p : Int32} (hp : zBy al n a = p) : zMi G yX5_cutMark wsX5_cutMark rmX5_cutMark (zTC r) ad ln [.ref (ad 8), .int p] al (fun q a' => q = (zMark (zBy al n) a).1 ∧ a' = up2 al 8 2 (nI (a + (zMark (zBy al n) a).2))) := by
  refine zMi.of (cc := cX5_cutMark) (nL := 2) (rt := .int) (by decide) rfl (Nat.le_of_ble_eq_true rfl) (fun Z X hR => ?_)
  refine tX5_cutMark_0 X _ hR al ?_
  unfold vcX5_cutMark_0 vcX5_cutMark_164 vcX5_cutMark_193
  have simple : ∀ (c : Int32), p = c → (c = 38 ∨ c = 40 ∨ c = 41 ∨ c = 42 ∨ c = 43 ∨ c = 45 ∨ c = 61 ∨ c = 91 ∨ c = 93 ∨ c = 94 ∨ c = 105 ∨ c = 124) → zMi G yX5_pass wsX5_pass rmX5_pass (zTC r) ad ln [.ref (ad 8), .int 1, .int p] al (fun q a' => q = (zMark (zBy al n) a).1 ∧ a' = up2 al 8 2 (nI (a + (zMark (zBy al n) a).2))) := by
    intro c e hc
    refine (c_pass G r ad ln al 1 p).mono (fun q a2 hq => ?_)
    have em : zMark (zBy al n) a = (p, 1) := by
      unfold zMark
      rw [hp, e]
      rcases hc with rfl | rfl | rfl | rfl | rfl | rfl | rfl | rfl | rfl | rfl | rfl | rfl <;> simp
    rw [em, hq.1, hq.2, h2, nI_1]
    exact ⟨rfl, rfl⟩
  have nxt := c_byteAt G r ad ln al (n := n) (i := a + 1) h1 hn (by omega)
  have s60 : p = 60 → zMi G yX5_byteAt wsX5_byteAt rmX5_byteAt (zTC r) ad ln [.ref (ad 8), .int (al 8 2 + 1)] al (fun q8 a8 => (¬ q8 = 60 → zMi G yX5_pass wsX5_pass rmX5_pass (zTC r) ad ln [.ref (ad 8), .int 1, .int p] a8 (fun q a' => q = (zMark (zBy al n) a).1 ∧ a' = up2 al 8 2 (nI (a + (zMark (zBy al n) a).2)))) ∧ (q8 = 60 → zMi G yX5_pass wsX5_pass rmX5_pass (zTC r) ad ln [.ref (ad 8), .int 2, .int 256] a8 (fun q a' => q = (zMark (zBy al n) a).1 ∧ a' = up2 al 8 2 (nI (a + (zMark (zBy al n) a).2))))) := by
    intro e
    rw [h2, nI_1]
    refine nxt.mono (fun q a2 hq => ?_)
    obtain ⟨rfl, hq⟩ := hq
    obtain rfl := hq.symm
    have em : zMark (zBy al n) a = if zBy al n (a + 1) = 60 then (256, 2) else (60, 1) := by
      unfold zMark
      rw [hp, e, if_pos rfl]
    refine ⟨fun h => (c_pass G r ad ln al 1 p).mono (fun q a2 hq => ?_), fun h => (c_pass G r ad ln al 2 256).mono (fun q a2 hq => ?_)⟩
    · rw [em, if_neg h, hq.1, hq.2, h2, nI_1, e]
      exact ⟨rfl, rfl⟩
    · rw [em, if_pos h, hq.1, hq.2, h2, show (2 : Int32) = nI 2 from rfl, nI_add]
      exact ⟨rfl, rfl⟩
  have s62 : p = 62 → zMi G yX5_byteAt wsX5_byteAt rmX5_byteAt (zTC r) ad ln [.ref (ad 8), .int (al 8 2 + 1)] al (fun q8 a8 => (¬ q8 = 62 → (-2 : Int32) = (zMark (zBy al n) a).1 ∧ a8 = up2 al 8 2 (nI (a + (zMark (zBy al n) a).2))) ∧ (q8 = 62 → zMi G yX5_pass wsX5_pass rmX5_pass (zTC r) ad ln [.ref (ad 8), .int 2, .int 257] a8 (fun q a' => q = (zMark (zBy al n) a).1 ∧ a' = up2 al 8 2 (nI (a + (zMark (zBy al n) a).2))))) := by
    intro e
    rw [h2, nI_1]
    refine nxt.mono (fun q a2 hq => ?_)
    obtain ⟨rfl, hq⟩ := hq
    obtain rfl := hq.symm
    have em : zMark (zBy al n) a = if zBy al n (a + 1) = 62 then (257, 2) else (-2, 0) := by
      unfold zMark
      rw [hp, e, if_neg (by decide), if_pos rfl]
    refine ⟨fun h => ?_, fun h => (c_pass G r ad ln al 2 257).mono (fun q a2 hq => ?_)⟩
    · rw [em, if_neg h]
      exact ⟨rfl, (up2_same h2).symm⟩
    · rw [em, if_pos h, hq.1, hq.2, h2, show (2 : Int32) = nI 2 from rfl, nI_add]
      exact ⟨rfl, rfl⟩
  have s109 : p = 109 → zMi G yX5_cutWord wsX5_cutWord rmX5_cutWord (zTC r) ad ln [.ref (ad 8)] al (fun q a' => q = (zMark (zBy al n) a).1 ∧ a' = up2 al 8 2 (nI (a + (zMark (zBy al n) a).2))) := fun e => c_cutWord G r ad ln al h1 hn h2 ha (by rw [hp, e])
  have dflt : ¬ p = 38 → ¬ p = 40 → ¬ p = 41 → ¬ p = 42 → ¬ p = 43 → ¬ p = 45 → ¬ p = 60 → ¬ p = 61 → ¬ p = 62 → ¬ p = 91 → ¬ p = 93 → ¬ p = 94 → ¬ p = 105 → ¬ p = 109 → ¬ p = 124 → (-2 : Int32) = (zMark (zBy al n) a).1 ∧ al = up2 al 8 2 (nI (a + (zMark (zBy al n) a).2)) := by
    intro h0 h3 h4 h5 h6 h7 h8 h9 h10 h11 h12 h13 h14 h15 h16
    have em : zMark (zBy al n) a = (-2, 0) := by
      unfold zMark
      rw [hp, if_neg h8, if_neg h10, if_neg h15, if_neg (by simp [h0, h3, h4, h5, h6, h7, h9, h11, h12, h13, h14, h16])]
    rw [em]
    exact ⟨rfl, (up2_same h2).symm⟩
  exact ⟨fun h0 => simple 38 h0 (by decide), fun h0 => ⟨fun h1 => simple 40 h1 (by decide), fun h1 => ⟨fun h2 => simple 41 h2 (by decide), fun h2 => ⟨fun h3 => simple 42 h3 (by decide), fun h3 => ⟨fun h4 => simple 43 h4 (by decide), fun h4 => ⟨fun h5 => simple 45 h5 (by decide), fun h5 => ⟨fun h6 => s60 h6, fun h6 => ⟨fun h7 => simple 61 h7 (by decide), fun h7 => ⟨fun h8 => s62 h8, fun h8 => ⟨fun h9 => simple 91 h9 (by decide), fun h9 => ⟨fun h10 => simple 93 h10 (by decide), fun h10 => ⟨fun h11 => simple 94 h11 (by decide), fun h11 => ⟨fun h12 => simple 105 h12 (by decide), fun h12 => ⟨fun h13 => s109 h13, fun h13 => ⟨fun h14 => simple 124 h14 (by decide), fun h14 => dflt h0 h1 h2 h3 h4 h5 h6 h7 h8 h9 h10 h11 h12 h13 h14⟩⟩⟩⟩⟩⟩⟩⟩⟩⟩⟩⟩⟩⟩⟩
theorem c_cutOne {n a k : Nat} (h1 : al 8 1 = nI n) (hn : n ≤ 4096) (h2 : al 8 2 = nI a) (ha : a ≤ n) (hk : k < 577) (hv : al 11 k = 0) : zMi G yX5_cutOne wsX5_cutOne rmX5_cutOne (zTC r) ad ln [.ref (ad 8), .int (nI k)] al (fun q a' => q = (zTok (zBy al n) (n - a) a).1 ∧ a' = up2 (up2 al 8 2 (nI (zTok (zBy al n) (n - a) a).2.2)) 11 k (nI (zTok (zBy al n) (n - a) a).2.1)) := by
  refine zMi.of (cc := cX5_cutOne) (nL := 3) (rt := .int) (by decide) rfl (Nat.le_of_ble_eq_true rfl) (fun Z X hR => ?_)
  refine tX5_cutOne_0 X _ hR al ?_
  unfold vcX5_cutOne_0 vcX5_cutOne_70
  rw [h2]
  refine (c_byteAt G r ad ln al (n := n) (i := a) h1 hn (by omega)).mono (fun q a2 hq => ?_)
  obtain ⟨rfl, hq⟩ := hq
  obtain rfl := hq.symm
  have hv0 : ∀ c : Nat, up2 (up2 al 8 2 (nI c)) 11 k (nI 0) = up2 al 8 2 (nI c) := fun c => up2_same (by rw [up2_ne al _ (show ¬ (11 = 8 ∧ k = 2) by omega), hv]; rfl)
  refine ⟨fun h0 => ?_, fun h0 => ?_⟩
  · refine (c_isDigit G r ad ln _ _).mono (fun q a3 hq => ?_)
    obtain ⟨rfl, hq⟩ := hq
    obtain rfl := hq.symm
    refine ⟨fun hd => ⟨fun h114 => ?_, fun h114 => ?_⟩, fun hd => ?_⟩
    · rw [zb_0] at hd
      have mark : ¬ (97 ≤ zBy al n a ∧ zBy al n a ≤ 100) → zMi G yX5_cutMark wsX5_cutMark rmX5_cutMark (zTC r) ad ln [.ref (ad 8), .int (zBy al n a)] al (fun q a' => q = (zTok (zBy al n) (n - a) a).1 ∧ a' = up2 (up2 al 8 2 (nI (zTok (zBy al n) (n - a) a).2.2)) 11 k (nI (zTok (zBy al n) (n - a) a).2.1)) := by
        intro hno
        refine (c_cutMark G r ad ln al h1 hn h2 ha rfl).mono (fun q a2 hq => ?_)
        have et : zTok (zBy al n) (n - a) a = ((zMark (zBy al n) a).1, 0, a + (zMark (zBy al n) a).2) := by
          unfold zTok
          rw [if_neg (Int32.not_lt.mpr h0), if_neg (by rw [hd]; decide), if_neg h114, if_neg hno]
        rw [et, hv0]
        exact hq
      refine ⟨fun h => mark (fun q => absurd q.1 (Int32.not_le.mpr h)), fun h => ⟨fun h' => mark (fun q => absurd q.2 (Int32.not_le.mpr h')), fun h' => ⟨vp_in_nI hk (by omega), ?_⟩⟩⟩
      have et : zTok (zBy al n) (n - a) a = (97, (zBy al n a).toNatClampNeg - 97, a + 1) := by
        unfold zTok
        rw [if_neg (Int32.not_lt.mpr h0), if_neg (by rw [hd]; decide), if_neg h114, if_pos ⟨Int32.not_lt.mp h, Int32.not_lt.mp h'⟩]
      rw [nI_clamp (by omega)]
      refine (c_pass G r ad ln _ 1 97).mono (fun q a2 hq => ?_)
      obtain ⟨rfl, hq⟩ := hq
      obtain rfl := hq.symm
      rw [et]
      refine ⟨rfl, ?_⟩
      rcases zBy_of al n a with ⟨e, -⟩ | ⟨m, hm, e, -⟩
      · rw [e] at h0
        exact absurd h0 (by decide)
      · have hm97 : 97 ≤ m := by
          have := Int32.not_lt.mp h
          rw [e, show (97 : Int32) = nI 97 from rfl, nI_leI (by omega) (by omega)] at this
          exact this
        rw [e, nI_clamp (by omega), show (97 : Int32) = nI 97 from rfl, pk_sub hm97, up2_ne al _ (show ¬ (8 = 11 ∧ 2 = k) by omega), h2, nI_1, up2_comm al _ _ (show ¬ (11 = 8 ∧ k = 2) by omega)]
    · refine (c_cutRegister G r ad ln al h1 hn h2 ha hk).mono (fun q a2 hq => ?_)
      rw [zb_0] at hd
      have et : zTok (zBy al n) (n - a) a = zReg (zBy al n) a := by
        unfold zTok
        rw [if_neg (Int32.not_lt.mpr h0), if_neg (by rw [hd]; decide), if_pos h114]
      rw [et]
      exact hq
    · refine (c_cutNumber G r ad ln al h1 hn h2 ha hk).mono (fun q a2 hq => ?_)
      have et : zTok (zBy al n) (n - a) a = (if (zNum (zBy al n) (n - a) a 0).1 ≤ 1000 then 48 else -2, zNum (zBy al n) (n - a) a 0) := by
        unfold zTok
        rw [if_neg (Int32.not_lt.mpr h0), if_pos (zDig_f hd)]
      rw [et]
      exact hq
  · have et : zTok (zBy al n) (n - a) a = (-1, 0, a) := by
      unfold zTok
      rw [if_pos (Int32.not_le.mp h0)]
    rw [et, hv0]
    exact ⟨rfl, (up2_same h2).symm⟩
end SIGNS2
