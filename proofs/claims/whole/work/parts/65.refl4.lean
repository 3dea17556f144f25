/-! THE REFERENCE: the laid run whole -/
theorem kX11_rl_a : Cond.fieldLink RX11 288 RX11 "rotating" "[I" ∈ wsX11_runLaid := by decide +kernel
theorem kX11_rl_b : Cond.fieldLink RX11 255 RX11 "around" "I" ∈ wsX11_runLaid := by decide +kernel
theorem kX11_rl_c : Cond.arrayClass .int ∈ wsX11_runLaid := by decide +kernel
abbrev cdX11 : List Nat := [3, 4, 5, 6, 7, 8, 9, 10, 11, 0, 12, 0, 0, 0, 0, 0, 0, 0, 0, 0, 0, 0, 0, 13, 14, 15, 16, 17, 0, 18, 19, 20, 21, 0, 0, 0, 22, 23, 24, 25, 0, 0, 26, 27, 28, 29, 0, 0, 0, 30, 0]
theorem zLdR.ln {a : Nat → Nat → Int32} {ln ln' : Nat → Nat} {n D sz : Nat} {rc : Nat → zRec} {st : Nat → Nat} {c b off : Nat → Int} {bg : Nat → Int32} (h : zLdR a ln n D sz rc st c b off bg) (h1 : sz ≤ ln' 28 ∧ ln' 28 < 2147483648) : zLdR a ln' n D sz rc st c b off bg := by
  obtain ⟨g1, g2, g3, g4, ⟨g5, g6, g7, g8, g9⟩, g10⟩ := h
  exact ⟨g1, g2, g3, g4, ⟨g5, g6, g7, h1.1, h1.2⟩, g10⟩
theorem zOnlyR : zOnly zTR 0 49 28 := by
  intro k' hk' hne
  have hk : k' < 129 := hk'
  show match zDR k' with
    | .inl o => ∀ i : Nat, o.2[i]? = some (28 + 2) → k' = 0 ∧ i = 49
    | .inr (t, a, b, c) => t ≤ 2 ∨ ∀ i, b + c * i ≠ 28
  by_cases q : k' < 29
  · have : ∀ x, x < 29 → x ≠ 28 → match zDR x with
      | .inl o => ∀ i : Nat, o.2[i]? = some (28 + 2) → x = 0 ∧ i = 49
      | .inr (t, a, b, c) => t ≤ 2 ∨ ∀ i, b + c * i ≠ 28 := by
      intro x hx hx8
      have h0 : x = 0 ∨ x = 16 ∨ x = 26 ∨ x = 27 ∨ (0 < x ∧ x < 16) ∨ (16 < x ∧ x < 26) := by omega
      rcases h0 with rfl | rfl | rfl | rfl | h0 | h0
      · show ∀ i, cdX11[i]? = some (28 + 2) → 0 = 0 ∧ i = 49
        intro i hi
        refine ⟨rfl, ?_⟩
        have hl : i < 51 := (List.getElem?_eq_some_iff.mp hi).1
        have dec : ∀ i, i < 51 → cdX11[i]? = some (28 + 2) → i = 49 := by decide
        exact dec i hl hi
      · exact Or.inr (fun i => by show 29 + 1 * i ≠ 28; omega)
      · exact Or.inr (fun i => by show 77 + 1 * i ≠ 28; omega)
      · exact Or.inr (fun i => by show 81 + 1 * i ≠ 28; omega)
      · have : ∀ x, x < 16 → 0 < x → ∃ t a b c, zDR x = .inr (t, a, b, c) ∧ t ≤ 2 := by
          intro x
          rcases (show x = 1 ∨ x = 2 ∨ x = 3 ∨ x = 4 ∨ x = 5 ∨ x = 6 ∨ x = 7 ∨ x = 8 ∨ x = 9 ∨ x = 10 ∨ x = 11 ∨ x = 12 ∨ x = 13 ∨ x = 14 ∨ x = 15 ∨ x = 0 ∨ 16 ≤ x by omega) with rfl | rfl | rfl | rfl | rfl | rfl | rfl | rfl | rfl | rfl | rfl | rfl | rfl | rfl | rfl | rfl | h
          all_goals intro h1 h2
          all_goals first
            | exact absurd h2 (by omega)
            | exact absurd h1 (by omega)
            | exact ⟨_, _, _, _, rfl, by omega⟩
        obtain ⟨t, a, b, c, e, ht⟩ := this x h0.2 h0.1
        rw [e]
        exact Or.inl ht
      · have : ∀ x, x < 26 → 16 < x → ∃ t a b c, zDR x = .inr (t, a, b, c) ∧ t ≤ 2 := by
          intro x
          rcases (show x = 17 ∨ x = 18 ∨ x = 19 ∨ x = 20 ∨ x = 21 ∨ x = 22 ∨ x = 23 ∨ x = 24 ∨ x = 25 ∨ x ≤ 16 ∨ 26 ≤ x by omega) with rfl | rfl | rfl | rfl | rfl | rfl | rfl | rfl | rfl | h | h
          all_goals intro h1 h2
          all_goals first
            | exact absurd h2 (by omega)
            | exact absurd h1 (by omega)
            | exact ⟨_, _, _, _, rfl, by omega⟩
        obtain ⟨t, a, b, c, e, ht⟩ := this x h0.2 h0.1
        rw [e]
        exact Or.inl ht
    exact this k' q hne
  · unfold zDR
    rw [if_neg q]
    split
    · rename_i o he
      split at he
      · cases he
      · split at he <;> cases he
    · rename_i t a b c he
      split at he
      · cases he
        exact Or.inl (by omega)
      · split at he
        · cases he
          exact Or.inl (by omega)
        · cases he
          exact Or.inl (by omega)
section REFL4
variable (G : zG) (ad ln : Nat → Nat) (al : Nat → Nat → Int32) {n D sz : Nat} {rc : Nat → zRec} {st : Nat → Nat} {c b off : Nat → Int} {bg : Nat → Int32}
/-- what a laid run leaves -/
def zRlP (ad : Nat → Nat) (al : Nat → Nat → Int32) (n D sz : Nat) (rc : Nat → zRec) (st : Nat → Nat) (c b off : Nat → Int) (bg : Nat → Int32) (last : Nat) (q : Int32) (u : zU) : Prop := q = nI last ∧ u.1 = zTR ∧ (∀ k, k ≠ 28 → u.2.1 k = ad k) ∧ (u.2.2.1 28 < 2147483648) ∧ zFr zLR al u.2.2.2 ∧ ∃ g P, (∀ q i, q < 4 → i < 1024 → u.2.2.2 (77 + q) i = (zLc n D (st 8) sz rc c b off (zSvI n rc) bg (st 3) (g, P, zCe0) (last + 1)).2.2 (q * 1024 + i)) ∧ ∀ r, r < 32 → u.2.2.2 25 r = zKl (st 8) (zSvI n rc) bg (zLc n D (st 8) sz rc c b off (zSvI n rc) bg (st 3) (g, P, zCe0) (last + 1)).1 r
theorem r_runLaid (h : zLdR al (fun _ => 128) n D sz rc st c b off bg) (hln : ln 28 < 2147483648) (hnc : ∀ t, zNC n D (st 8) rc c (st 3) t) {last : Nat} (hl : (last : Int) = zLs c (zTm rc st) n + ((st 8 : Int) - 1) * (D : Int)) (hl2 : last ≤ 1900000) : zMgi G yX11_runLaid wsX11_runLaid rmX11_runLaid (zTR, ad, ln, al) [.ref (ad 0)] (zRlP ad al n D sz rc st c b off bg last) := by
  refine zMgi.of (cc := cX11_runLaid) (nL := 5) (rt := .int) (by decide) rfl (Nat.le_of_ble_eq_true rfl) (fun Z X hR => ?_)
  show zB G Z rmX11_runLaid 5 zTR ad ln 0 0 0 [(0, .ref (ad 0))] [] al
  have h8 := h.2.2.2.2.2.2.2
  have hz := h.2.2.2.2.1
  refine zb_aload_n X dX11_runLaid_0 rfl 0 rfl ?_
  refine zb_callVv (n := 0) X 0 (by decide) 11 cdX11 rfl (C := RX11) (Tt := TX11) (N := 51) rfl (r_beginRun G ad ln al h8) gX11_runLaid_X11_beginRun rfl (by decide +kernel) (by decide) rfl rfl (Nat.le_of_ble_eq_true rfl) dX11_runLaid_1 (kc' := 0) (ks' := 0) rfl rfl (fun a1 hq => ?_)
  obtain ⟨f1, hb1⟩ := hq
  have f1' : zFr zLR al a1 := f1.mono (by decide)
  have e41 : a1 0 41 = nI sz := by rw [f1 0 (by decide)]; exact hz.1
  refine zb_aload_n X dX11_runLaid_4 rfl 0 rfl ?_
  refine zb_getR X 0 (by decide) 11 cdX11 rfl (C := RX11) (Tt := TX11) (N := 51) rfl kX11_runLaid_1 49 (by decide) 28 rfl kX11_rl_a rfl dX11_runLaid_5 ?_
  refine zb_alen X 28 (by decide) 2 0 0 0 rfl (Or.inr rfl) dX11_runLaid_8 ?_
  refine zb_aload_n X dX11_runLaid_9 rfl 0 rfl ?_
  refine zb_getI X 0 (by decide) 11 cdX11 rfl (C := RX11) (Tt := TX11) (N := 51) rfl kX11_runLaid_1 41 (by decide) rfl kX11_rl_b rfl dX11_runLaid_10 (a1 0 41) rfl ?_
  refine zb_icmp_ge X 26 dX11_runLaid_13 (by decide) (fun c1 => ?_) (fun c1 => ?_)
  · -- large enough
    rw [e41] at c1
    have c1' : sz ≤ ln 28 := by
      have : nI sz ≤ nI (ln 28) := c1
      rw [nI_leI (by omega) (by omega)] at this
      exact this
    refine zb_widen (kc' := 1) (ks' := 128) (by omega) (by omega) ?_
    refine rl_tail X (hR zTR ad ln) (g := fun j => a1 (81 + j / 64) (j % 64)) (P := a1 28) (ce := zCe0) ((h.ln ⟨c1', hln⟩).fr f1') hnc ⟨fun x i hx hi => ?_, fun i hi => rfl, hb1.2⟩ hl hl2 (fun a hf hs hr => ⟨rfl, rfl, fun _ _ => rfl, hln, f1'.tr hf, _, _, hs.2.2, hr⟩)
    show a1 (81 + x) i = a1 (81 + (x * 64 + i) / 64) ((x * 64 + i) % 64)
    rw [show (x * 64 + i) / 64 = x by omega, show (x * 64 + i) % 64 = i by omega]
  · refine zb_aload_n X dX11_runLaid_16 rfl 0 rfl ?_
    refine zb_aload_n X dX11_runLaid_17 rfl 0 rfl ?_
    refine zb_getI X 0 (by decide) 11 cdX11 rfl (C := RX11) (Tt := TX11) (N := 51) rfl kX11_runLaid_1 41 (by decide) rfl kX11_rl_b rfl dX11_runLaid_18 (a1 0 41) rfl ?_
    rw [e41]
    refine zb_newa X kX11_rl_c (N := sz) ⟨nI_clamp (by omega), ?_⟩ (by omega) ⟨by decide, by show 0 + sz ≤ 128; omega⟩ dX11_runLaid_21 (fun q => ?_)
    · rw [show (0 : Int32) = nI 0 from rfl, nI_ltI (by omega) (by omega)]
      omega
    refine zq_put X 0 28 49 (by decide) (by decide) (by decide) 11 cdX11 rfl (C := RX11) (Tt := TX11) (N0 := 51) rfl kX11_runLaid_1 tyX11 tyX11_ok nmX11 (by decide) rfl kX11_rl_a rfl rfl (fun _ => rfl) (fun _ => rfl) zOnlyR rfl dX11_runLaid_23 ?_
    refine zb_widen (kc' := 1) (ks' := 128) (by omega) (by omega) ?_
    have f2 : zFr zLR a1 (alU a1 28 (fun _ => 0)) := fun k hk => alU_ne _ _ (fun z => hk (by rw [z]; decide))
    have e0 : adU ad 28 q 0 = ad 0 := adU_ne _ _ (by decide)
    rw [← e0]
    have el : adU ln 28 sz 28 = sz := adU_self _ _ _
    refine rl_tail X (hR zTR (adU ad 28 q) (adU ln 28 sz)) (g := fun j => alU a1 28 (fun _ => 0) (81 + j / 64) (j % 64)) (P := fun _ => 0) (ce := zCe0) ((h.ln (ln' := adU ln 28 sz) (by rw [el]; omega)).fr (f1'.tr f2)) hnc ⟨fun x i hx hi => ?_, fun i hi => ?_, fun q i hq hi => ?_⟩ hl hl2 (fun a hf hs hr => ⟨rfl, rfl, fun k hk => adU_ne _ _ hk, ?_, (f1'.tr f2).tr hf, _, _, hs.2.2, hr⟩)
    · show alU a1 28 (fun _ => 0) (81 + x) i = alU a1 28 (fun _ => 0) (81 + (x * 64 + i) / 64) ((x * 64 + i) % 64)
      rw [show (x * 64 + i) / 64 = x by omega, show (x * 64 + i) % 64 = i by omega]
    · rw [alU_self]
    · rw [alU_ne _ _ (by omega)]
      exact hb1.2 q i hq hi
    · show adU ln 28 sz 28 < 2147483648
      rw [el]
      omega
end REFL4
