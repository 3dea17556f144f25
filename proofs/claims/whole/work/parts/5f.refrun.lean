-- needs: 51 18d
/-! THE REFERENCE: the run as written -/
section REFRUN
variable (G : zG) (ad ln : Nat → Nat) (al : Nat → Nat → Int32) {n : Nat} {rc : Nat → zRec} {st : Nat → Nat}
theorem zmn_sw (p q : Int32) : (if q < p then q else p) = (if p < q then p else q) := by
  by_cases a : q < p
  · rw [if_pos a, if_neg (fun b => Int32.lt_irrefl (Int32.lt_trans a b))]
  · rw [if_neg a]
    by_cases b : p < q
    · rw [if_pos b]
    · rw [if_neg b]
      exact Int32.le_antisymm (Int32.not_lt.mp a) (Int32.not_lt.mp b)
theorem zmx_sw (p q : Int32) : (if p < q then q else p) = (if q < p then p else q) := by
  by_cases a : q < p
  · rw [if_pos a, if_neg (fun b => Int32.lt_irrefl (Int32.lt_trans a b))]
  · rw [if_neg a]
    by_cases b : p < q
    · rw [if_pos b]
    · rw [if_neg b]
      exact Int32.le_antisymm (Int32.not_lt.mp a) (Int32.not_lt.mp b)
theorem zOpc_rk (y : zRec) (h2 : ¬ y.1 = 2) (h3 : ¬ y.1 = 3) (p q : Int32) : (zOpc y = 0 ∧ zReck y.2.1 p q = p + q) ∨ (zOpc y = 1 ∧ zReck y.2.1 p q = p - q) ∨ (zOpc y = 2 ∧ zReck y.2.1 p q = p * q) ∨ (zOpc y = 3 ∧ zReck y.2.1 p q = p &&& q) ∨ (zOpc y = 4 ∧ zReck y.2.1 p q = p ||| q) ∨ (zOpc y = 5 ∧ zReck y.2.1 p q = p ^^^ q) ∨ (zOpc y = 6 ∧ zReck y.2.1 p q = p <<< ((q &&& 31) &&& 31)) ∨ (zOpc y = 7 ∧ zReck y.2.1 p q = p >>> ((q &&& 31) &&& 31)) ∨ (zOpc y = 8 ∧ zReck y.2.1 p q = (if p < q then 1 else 0)) ∨ (zOpc y = 9 ∧ zReck y.2.1 p q = (if p < q then p else q)) ∨ (zOpc y = 10 ∧ zReck y.2.1 p q = (if q < p then p else q)) := by
  unfold zOpc
  rw [if_neg h2, if_neg h3]
  generalize y.2.1 = op
  unfold zReck
  by_cases a0 : op = 43
  · subst a0
    exact Or.inl ⟨rfl, rfl⟩
  by_cases a1 : op = 45
  · subst a1
    exact Or.inr (Or.inl ⟨rfl, rfl⟩)
  by_cases a2 : op = 42
  · subst a2
    exact Or.inr (Or.inr (Or.inl ⟨rfl, rfl⟩))
  by_cases a3 : op = 38
  · subst a3
    exact Or.inr (Or.inr (Or.inr (Or.inl ⟨rfl, rfl⟩)))
  by_cases a4 : op = 124
  · subst a4
    exact Or.inr (Or.inr (Or.inr (Or.inr (Or.inl ⟨rfl, rfl⟩))))
  by_cases a5 : op = 94
  · subst a5
    exact Or.inr (Or.inr (Or.inr (Or.inr (Or.inr (Or.inl ⟨rfl, rfl⟩)))))
  by_cases a6 : op = 256
  · subst a6
    exact Or.inr (Or.inr (Or.inr (Or.inr (Or.inr (Or.inr (Or.inl ⟨rfl, rfl⟩))))))
  by_cases a7 : op = 257
  · subst a7
    exact Or.inr (Or.inr (Or.inr (Or.inr (Or.inr (Or.inr (Or.inr (Or.inl ⟨rfl, rfl⟩)))))))
  by_cases a8 : op = 60
  · subst a8
    exact Or.inr (Or.inr (Or.inr (Or.inr (Or.inr (Or.inr (Or.inr (Or.inr (Or.inl ⟨rfl, rfl⟩))))))))
  by_cases a9 : op = 258
  · subst a9
    exact Or.inr (Or.inr (Or.inr (Or.inr (Or.inr (Or.inr (Or.inr (Or.inr (Or.inr (Or.inl ⟨rfl, rfl⟩)))))))))
  rw [if_neg a0, if_neg a1, if_neg a2, if_neg a3, if_neg a4, if_neg a5, if_neg a6, if_neg a7, if_neg a8, if_neg a9, if_neg a3, if_neg a2, if_neg a0, if_neg a1, if_neg a8, if_neg a5, if_neg a4, if_neg a6, if_neg a7, if_neg a9]
  exact Or.inr (Or.inr (Or.inr (Or.inr (Or.inr (Or.inr (Or.inr (Or.inr (Or.inr (Or.inr ⟨rfl, rfl⟩)))))))))
theorem r_result (y : zRec) (h2 : ¬ y.1 = 2) (h3 : ¬ y.1 = 3) (p q : Int32) : zMi G yX11_result wsX11_result rmX11_result zTR ad ln [.int (zOpc y), .int p, .int q] al (fun r a => r = zReck y.2.1 p q ∧ a = al) := by
  refine zMi.of (cc := cX11_result) (nL := 3) (rt := .int) (by decide) rfl (Nat.le_of_ble_eq_true rfl) (fun Z X hR => ?_)
  refine tX11_result_0 X _ _ _ hR al ?_
  unfold vcX11_result_0 vcX11_result_104
  have key := zOpc_rk y h2 h3 p q
  generalize zOpc y = c at key
  generalize zReck y.2.1 p q = v at key
  rcases key with ⟨rfl, e⟩ | ⟨rfl, e⟩ | ⟨rfl, e⟩ | ⟨rfl, e⟩ | ⟨rfl, e⟩ | ⟨rfl, e⟩ | ⟨rfl, e⟩ | ⟨rfl, e⟩ | ⟨rfl, e⟩ | ⟨rfl, e⟩ | ⟨rfl, e⟩
  all_goals subst e
  all_goals repeat' (first | refine ⟨fun hh => ?_, fun hh => ?_⟩ | fail)
  all_goals first
    | contradiction
    | exact ⟨rfl, rfl⟩
    | exact ⟨zmn_sw _ _, rfl⟩
    | exact ⟨zmx_sw _ _, rfl⟩
    | (refine ⟨?_, rfl⟩; rw [if_neg]; exact Int32.not_lt.mpr (by assumption))
    | (refine ⟨?_, rfl⟩; rw [if_pos]; exact Int32.not_le.mp (by assumption))
/-- no register is set twice -/
def zUq (n : Nat) (rc : Nat → zRec) : Prop := ∀ x x', x < n → x' < n → 0 ≤ (rc x).2.2.1 → (rc x).2.2.1 = (rc x').2.2.1 → x = x'
def zSv (n : Nat) (rc : Nat → zRec) (r : Nat) : Int32 := zSet (fun x => (rc x).2.2.1) n r
theorem zSet_no {tg : Nat → Int32} {r : Nat} : ∀ n, n ≤ 48 → zSet tg n r = -1 → ∀ x, x < n → tg x ≠ nI r
  | 0, _, _, x, hx => absurd hx (by omega)
  | n + 1, hn, h, x, hx => by
    unfold zSet at h
    by_cases q : tg n = nI r
    · rw [if_pos q] at h
      exfalso
      have h5 : nI n < 0 := by rw [h]; decide
      rw [show (0 : Int32) = nI 0 from rfl, nI_ltI (by omega) (by omega)] at h5
      omega
    · rw [if_neg q] at h
      by_cases e : x = n
      · subst e
        exact q
      · exact zSet_no n (by omega) h x (by omega)
theorem zSv_is (hu : zUq n rc) (hn : n ≤ 48) {x r : Nat} (hr : r < 32) (hx : x < n) (e : (rc x).2.2.1 = nI r) : zSv n rc r = nI x := by
  rcases zSet_rng (fun x => (rc x).2.2.1) n r with h | ⟨x', h1, h2, h3⟩
  · exact absurd e (zSet_no n hn h x hx)
  · unfold zSv
    rw [h2]
    have h3' : (rc x').2.2.1 = nI r := h3
    rw [hu x x' hx h1 (by rw [e, show (0 : Int32) = nI 0 from rfl, nI_leI (by omega) (by omega)]; omega) (by rw [e, h3'])]
theorem r_setter (h : zRr al n rc) (hu : zUq n rc) {r : Nat} (hr : r < 32) : zMi G yX11_setter wsX11_setter rmX11_setter zTR ad ln [.ref (ad 0), .int (nI r)] al (fun q a => q = zSv n rc r ∧ a = al) := by
  refine zMi.of (cc := cX11_setter) (nL := 3) (rt := .int) (by decide) rfl (Nat.le_of_ble_eq_true rfl) (fun Z X hR => ?_)
  obtain ⟨h9, hn, hx⟩ := h
  have loop : ∀ (f x : Nat), x + f = n → (∀ x', x' < x → (rc x').2.2.1 ≠ nI r) → BX11_setter_2 G Z ad ln (nI r) (nI x) al := by
    intro f
    induction f with
    | zero =>
      intro x hf hno
      refine uX11_setter_2 X _ hR _ al ?_
      unfold vcX11_setter_2
      have : x = n := by omega
      subst this
      rw [h9]
      refine ⟨fun _ => ⟨?_, rfl⟩, fun z => absurd (Int32.le_refl _) z⟩
      rcases zSet_rng (fun x => (rc x).2.2.1) x r with h | ⟨x', h1, h2, h3⟩
      · exact h.symm
      · exact absurd h3 (hno x' h1)
    | succ f ih =>
      intro x hf hno
      refine uX11_setter_2 X _ hR _ al ?_
      unfold vcX11_setter_2
      rw [h9, nI_clamp (by omega), (hx x (by omega)).1.2.1, nI_1, nI_leI (by omega) (by omega)]
      refine ⟨fun z => absurd z (by omega), fun _ => ⟨vp_in_nI (by omega) (by omega), fun q => ih (x + 1) (by omega) (fun x' hx' => ?_), fun q => ⟨?_, rfl⟩⟩⟩
      · by_cases e : x' = x
        · subst e
          exact q
        · exact hno x' (by omega)
      · exact (zSv_is hu hn hr (by omega) q).symm
  refine uX11_setter_0 X _ hR al ?_
  unfold vcX11_setter_0
  exact loop n 0 (by omega) (fun x' hx' => absurd hx' (by omega))
/-- the reference's registers and arrays -/
def zRCr (a : Nat → Nat → Int32) (w : (Nat → Int32) × (Nat → Int32)) : Prop := (∀ i, i < 32 → a 25 i = w.1 i) ∧ ∀ q i, q < 4 → i < 1024 → a (77 + q) i = w.2 (q * 1024 + i)
theorem r_beginRun {bg : Nat → Int32} (hb : ∀ i, i < 32 → al 24 i = bg i) : zMv G yX11_beginRun wsX11_beginRun rmX11_beginRun zTR ad ln [.ref (ad 0)] al (fun a => zFr [25, 77, 78, 79, 80] al a ∧ zRCr a (bg, zCe0)) := by
  refine zMv.of (cc := cX11_beginRun) (nL := 2) (by decide) rfl (Nat.le_of_ble_eq_true rfl) (fun Z X hR => ?_)
  have loop2 : ∀ (f j : Nat) (a : Nat → Nat → Int32), j + f = 32 → zFr [25, 77, 78, 79, 80] al a → (∀ q i, q < 4 → i < 1024 → a (77 + q) i = zCe0 (q * 1024 + i)) → (∀ i, i < j → a 25 i = bg i) → BX11_beginRun_65 G Z ad ln (nI j) a := by
    intro f
    induction f with
    | zero =>
      intro j a hj hf h1 h2
      refine uX11_beginRun_65 X hR _ a ?_
      unfold vcX11_beginRun_65
      have : j = 32 := by omega
      subst this
      exact ⟨fun _ => ⟨hf, h2, h1⟩, fun z => absurd (by decide) z⟩
    | succ f ih =>
      intro j a hj hf h1 h2
      refine uX11_beginRun_65 X hR _ a ?_
      unfold vcX11_beginRun_65
      rw [show (32 : Int32) = nI 32 from rfl, nI_leI (by omega) (by omega), nI_clamp (by omega), hf 24 (by decide), hb j (by omega), nI_1]
      refine ⟨fun z => absurd z (by omega), fun _ => ⟨vp_in_nI (by omega) (by omega), vp_in_nI (by omega) (by omega), ?_⟩⟩
      refine ih (j + 1) _ (by omega) (hf.up (by decide) _ _) (fun q i hq hi => ?_) (fun i hi => ?_)
      · rw [up2_name _ _ _ (by omega)]
        exact h1 q i hq hi
      · by_cases e : i = j
        · subst e
          exact up2_self _ _ _ _
        · rw [up2_ne _ _ (fun z => e z.2)]
          exact h2 i (by omega)
  have loop : ∀ (f j : Nat) (a : Nat → Nat → Int32), j + f = 1024 → zFr [25, 77, 78, 79, 80] al a → (∀ q i, q < 4 → i < j → a (77 + q) i = zCe0 (q * 1024 + i)) → BX11_beginRun_2 G Z ad ln (nI j) a := by
    intro f
    induction f with
    | zero =>
      intro j a hj hf h1
      refine uX11_beginRun_2 X hR _ a ?_
      unfold vcX11_beginRun_2
      have : j = 1024 := by omega
      subst this
      exact ⟨fun _ => loop2 32 0 a (by omega) hf h1 (fun i hi => absurd hi (by omega)), fun z => absurd (by decide) z⟩
    | succ f ih =>
      intro j a hj hf h1
      refine uX11_beginRun_2 X hR _ a ?_
      unfold vcX11_beginRun_2
      have v : vp_in (nI j) 1024 := vp_in_nI (by omega) (by omega)
      rw [show (1024 : Int32) = nI 1024 from rfl, nI_leI (by omega) (by omega), nI_clamp (by omega), nI_1]
      refine ⟨fun z => absurd z (by omega), fun _ => ⟨zvn (j := 0) (by omega) (by omega), v, zvn (j := 1) (by omega) (by omega), v, zvn (j := 2) (by omega) (by omega), v, zvn (j := 3) (by omega) (by omega), v, ?_⟩⟩
      refine ih (j + 1) _ (by omega) ((((hf.up (by decide) _ _).up (by decide) _ _).up (by decide) _ _).up (by decide) _ _) (fun q i hq hi => ?_)
      have v0 : zCe0 (0 * 1024 + j) = (nI j * 7) ^^^ 21 := by unfold zCe0; rw [if_pos (by omega), Nat.zero_mul, Nat.zero_add]
      have v1 : zCe0 (1 * 1024 + j) = nI j * nI j + 3 := by unfold zCe0; rw [if_neg (by omega), if_pos (by omega), show 1 * 1024 + j - 1024 = j by omega]
      have v2 : zCe0 (2 * 1024 + j) = 5 - nI j := by unfold zCe0; rw [if_neg (by omega), if_neg (by omega), if_pos (by omega), show 2 * 1024 + j - 2048 = j by omega]
      have v3 : zCe0 (3 * 1024 + j) = 0 := by unfold zCe0; rw [if_neg (by omega), if_neg (by omega), if_neg (by omega)]
      by_cases e : i = j
      · subst e
        rcases (show q = 0 ∨ q = 1 ∨ q = 2 ∨ q = 3 by omega) with rfl | rfl | rfl | rfl
        · rw [up2_ne _ _ (by omega), up2_ne _ _ (by omega), up2_ne _ _ (by omega), show 77 + 0 = 77 from rfl, up2_self, v0]
        · rw [up2_ne _ _ (by omega), up2_ne _ _ (by omega), show 77 + 1 = 78 from rfl, up2_self, v1]
        · rw [up2_ne _ _ (by omega), show 77 + 2 = 79 from rfl, up2_self, v2]
        · rw [show 77 + 3 = 80 from rfl, up2_self, v3]
      · rw [up2_ne _ _ (fun z => e z.2), up2_ne _ _ (fun z => e z.2), up2_ne _ _ (fun z => e z.2), up2_ne _ _ (fun z => e z.2)]
        exact h1 q i hq (by omega)
  refine uX11_beginRun_0 X hR al ?_
  unfold vcX11_beginRun_0
  exact loop 1024 0 al (by omega) zFr.rf (fun q i _ hi => absurd hi (by omega))
def zPp (y : zRec) (n : Nat) : Nat := (512 + (rSt y * (n : Int) + rSh y)).toNat
theorem zPp_ok {y : zRec} (h : zRecOk y) (hk : y.1 = 2 ∨ y.1 = 3) {n : Nat} (hn : n < 64) : zPp y n < 1024 ∧ zCx y n = rAr y * 1024 + zPp y n ∧ rAr y < 4 ∧ y.2.2.2.1 = nI (rAr y) := by
  obtain ⟨a1, a2, a3, a4, a5, a6, a7⟩ := zRec_pl h hk hn
  unfold zPp
  exact ⟨by omega, by omega, a1, a2⟩
theorem r_place (h : zRr al n rc) {x : Nat} (hx : x < n) (hk : (rc x).1 = 2 ∨ (rc x).1 = 3) {i : Nat} (hi : i < 64) : zMi G yX11_place wsX11_place rmX11_place zTR ad ln [.ref (ad 0), .int (nI x), .int (nI i)] al (fun q a => q = nI (zPp (rc x) i) ∧ a = al) := by
  refine zMi.of (cc := cX11_place) (nL := 3) (rt := .int) (by decide) rfl (Nat.le_of_ble_eq_true rfl) (fun Z X hR => ?_)
  refine tX11_place_0 X _ _ hR al ?_
  unfold vcX11_place_0
  obtain ⟨h9, hn, hx'⟩ := h
  obtain ⟨⟨-, -, -, r4, -⟩, ok⟩ := hx' x hx
  obtain ⟨r4, r5⟩ := r4 hk
  obtain ⟨a1, a2, a3, a4, a5, a6, a7⟩ := zRec_pl ok hk hi
  have v : vp_in (nI x) 49 := vp_in_nI (by omega) (by omega)
  rw [nI_clamp (by omega), r4, r5, a6, a7, zI_n i, zI_mul, show (512 : Int32) = zI 512 from rfl, zI_add, zI_add]
  refine ⟨v, v, ?_, rfl⟩
  unfold zPp
  rw [zI_n]
  congr 1
  omega
theorem zSo3_1 {s : Int32} : zSo3 s = 1 ↔ s = 114 := by
  unfold zSo3
  by_cases a : s = 114
  · rw [if_pos a]
    exact ⟨fun _ => a, fun _ => rfl⟩
  · rw [if_neg a]
    refine ⟨fun h => ?_, fun h => absurd h a⟩
    split at h <;> exact absurd h (by decide)
theorem zSo3_2 {s : Int32} : zSo3 s = 2 ↔ s = 105 := by
  unfold zSo3
  by_cases a : s = 114
  · rw [if_pos a]
    exact ⟨fun h => absurd h (by decide), fun h => by rw [h] at a; exact absurd a (by decide)⟩
  · rw [if_neg a]
    by_cases b : s = 105
    · rw [if_pos b]
      exact ⟨fun _ => b, fun _ => rfl⟩
    · rw [if_neg b]
      exact ⟨fun h => absurd h (by decide), fun h => absurd h b⟩
theorem r_written {s v v' : Int32} {i : Nat} {rg : Nat → Int32} (ho : zOpOk s v) (hv : zSo3 s ≠ 2 → v' = v) (hrg : ∀ i, i < 32 → al 25 i = rg i) : zMi G yX11_written wsX11_written rmX11_written zTR ad ln [.ref (ad 0), .int (zSo3 s), .int v', .int (nI i)] al (fun q a => q = zWv rg s v i ∧ a = al) := by
  refine zMi.of (cc := cX11_written) (nL := 4) (rt := .int) (by decide) rfl (Nat.le_of_ble_eq_true rfl) (fun Z X hR => ?_)
  refine tX11_written_0 X _ _ _ hR al ?_
  unfold vcX11_written_0 vcX11_written_24
  rw [zSo3_1, zSo3_2]
  unfold zWv
  refine ⟨fun a => ⟨fun b => ?_, fun b => ?_⟩, fun a => ?_⟩
  · rw [if_neg a, if_neg b]
    exact ⟨hv (fun z => b (zSo3_2.mp z)), rfl⟩
  · rw [if_neg a, if_pos b]
    exact ⟨rfl, rfl⟩
  · have e : v' = v := hv (fun z => by rw [zSo3_2, a] at z; exact absurd z (by decide))
    subst e
    obtain ⟨o1, o2, o3⟩ := ho.v a
    rw [if_pos a]
    exact ⟨o3, hrg _ o1, rfl⟩
/-- an operand of the reference -/
theorem zRow_A {a : Nat → Nat → Int32} {x : Nat} {y : zRec} (h : zRrow a x y) (hk : ¬ y.1 = 2) : a 6 x = zSo3 y.2.2.2.2.2.2.1 ∧ (zSo3 y.2.2.2.2.2.2.1 ≠ 2 → a 8 x = y.2.2.2.2.2.2.2.1) := by
  obtain ⟨-, -, -, -, k6, -, k8, -⟩ := h
  unfold zKA at k6 k8
  rw [if_neg hk] at k6 k8
  refine ⟨k6, fun z => k8 ?_⟩
  unfold zSo3 at z ⊢
  split
  · exact Or.inl rfl
  · split
    · rename_i g1 g2
      rw [if_neg g1, if_pos g2] at z
      exact absurd rfl z
    · exact Or.inr rfl
theorem zRow_B {a : Nat → Nat → Int32} {x : Nat} {y : zRec} (h : zRrow a x y) (hk : ¬ y.1 = 2) (hk3 : ¬ y.1 = 3) : a 7 x = zSo3 y.2.2.2.2.2.2.2.2.1 ∧ (zSo3 y.2.2.2.2.2.2.2.2.1 ≠ 2 → a 9 x = y.2.2.2.2.2.2.2.2.2) := by
  obtain ⟨-, -, -, -, -, k6, -, k8⟩ := h
  unfold zKB at k6 k8
  rw [if_neg (fun z => z.elim hk hk3)] at k6 k8
  refine ⟨k6, fun z => k8 ?_⟩
  unfold zSo3 at z ⊢
  split
  · exact Or.inl rfl
  · split
    · rename_i g1 g2
      rw [if_neg g1, if_pos g2] at z
      exact absurd rfl z
    · exact Or.inr rfl
end REFRUN
