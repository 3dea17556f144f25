/-! THE REFERENCE: the laid run, from behind the making of its rotating registers -/
/-- values, places, arrays -/
def zLSr (a : Nat → Nat → Int32) (n sz : Nat) (w : (Nat → Int32) × (Nat → Int32) × (Nat → Int32)) : Prop := (∀ x i, x < n → i < 64 → a (81 + x) i = w.1 (x * 64 + i)) ∧ (∀ i, i < sz → a 28 i = w.2.1 i) ∧ ∀ q i, q < 4 → i < 1024 → a (77 + q) i = w.2.2 (q * 1024 + i)
section REFL3
variable {G : zG} {ad ln : Nat → Nat} {al : Nat → Nat → Int32} {n D sz : Nat} {rc : Nat → zRec} {st : Nat → Nat} {c b off : Nat → Int} {bg : Nat → Int32}
theorem zLSr.pl {a : Nat → Nat → Int32} {g P ce : Nat → Int32} (h : zLSr a n sz (g, P, ce)) {s : Nat} (v : Int32) : zLSr (up2 a 28 s v) n sz (g, fu P s v, ce) := by
  obtain ⟨h1, h2, h3⟩ := h
  refine ⟨fun x i hx hi => ?_, fun i hi => ?_, fun q i hq hi => ?_⟩
  · rw [up2_name _ _ _ (by omega)]
    exact h1 x i hx hi
  · show _ = fu P s v i
    by_cases e : i = s
    · subst e
      rw [up2_self, fu_self]
    · rw [up2_ne _ _ (fun z => e z.2), fu_ne _ _ e]
      exact h2 i hi
  · rw [up2_name _ _ _ (by omega)]
    exact h3 q i hq hi
theorem zLSr.va {a : Nat → Nat → Int32} {g P ce : Nat → Int32} (h : zLSr a n sz (g, P, ce)) {x i : Nat} (hi : i < 64) (v : Int32) : zLSr (up2 a (81 + x) i v) n sz (fu g (x * 64 + i) v, P, ce) := by
  obtain ⟨h1, h2, h3⟩ := h
  refine ⟨fun x' i' hx' hi' => ?_, fun i hi => ?_, fun q i hq hi => ?_⟩
  · show _ = fu g (x * 64 + i) v (x' * 64 + i')
    by_cases e : x' = x ∧ i' = i
    · obtain ⟨rfl, rfl⟩ := e
      rw [up2_self, fu_self]
    · rw [up2_ne _ _ (fun z => e ⟨by omega, z.2⟩), fu_ne _ _ (fun z => e (by omega))]
      exact h1 x' i' hx' hi'
  · rw [up2_name _ _ _ (by omega)]
    exact h2 i hi
  · rw [up2_name _ _ _ (by omega)]
    exact h3 q i hq hi
theorem zLSr.ce {a : Nat → Nat → Int32} {g P ce : Nat → Int32} (h : zLSr a n sz (g, P, ce)) {q i : Nat} (hq : q < 4) (hi : i < 1024) (v : Int32) : zLSr (up2 a (77 + q) i v) n sz (g, P, fu ce (q * 1024 + i) v) := by
  obtain ⟨h1, h2, h3⟩ := h
  refine ⟨fun x' i' hx' hi' => ?_, fun i hi => ?_, fun q' i' hq' hi' => ?_⟩
  · rw [up2_name _ _ _ (by omega)]
    exact h1 x' i' hx' hi'
  · rw [up2_name _ _ _ (by omega)]
    exact h2 i hi
  · show _ = fu ce (q * 1024 + i) v (q' * 1024 + i')
    by_cases e : q' = q ∧ i' = i
    · obtain ⟨rfl, rfl⟩ := e
      rw [up2_self, fu_self]
    · rw [up2_ne _ _ (fun z => e ⟨by omega, z.2⟩), fu_ne _ _ (fun z => e (by omega))]
      exact h3 q' i' hq' hi'
theorem rl_tail {Z : zC} (X : zX G Z cX11_runLaid 5 RX11 wsX11_runLaid) {post : Int32 → (Nat → Nat → Int32) → Prop} (hR : zRi G Z rmX11_runLaid 5 zTR ad ln cX11_runLaid .int post) (h : zLdR al ln n D sz rc st c b off bg) (hnc : ∀ t, zNC n D (st 8) rc c (st 3) t) {g P ce : Nat → Int32} (hS : zLSr al n sz (g, P, ce)) {last : Nat} (hl : (last : Int) = zLs c (zTm rc st) n + ((st 8 : Int) - 1) * (D : Int)) (hl2 : last ≤ 1900000)
    (fin : ∀ a, zFr zLR al a → zLSr a n sz (zLc n D (st 8) sz rc c b off (zSvI n rc) bg (st 3) (g, P, ce) (last + 1)) → (∀ r, r < 32 → a 25 r = zKl (st 8) (zSvI n rc) bg (zLc n D (st 8) sz rc c b off (zSvI n rc) bg (st 3) (g, P, ce) (last + 1)).1 r) → post (nI last) a) :
    zB G Z rmX11_runLaid 5 zTR ad ln 1 128 26 [(0, .ref (ad 0))] [] al := by
  have hn := h.1.2.1
  have hD := h.2.2.2.1.2
  have h18 : al 0 18 = nI (st 8) := h.2.1.2.1.2.2.2.2
  have hR8 := h.2.1.2.2 8 (by omega)
  have hst : ∀ j, j < 4 → 1 ≤ st j ∧ st j ≤ 20 := fun j hj => (h.2.1.1 j hj).2
  have htm : ∀ x, x < n → 1 ≤ zTm rc st x ∧ zTm rc st x ≤ 20 := fun x hx => hst _ (rKd_ok (h.1.2.2 x hx).2).1
  have h9 : ∀ a, zFr zLR al a → a 0 9 = nI n := fun a hf => by rw [hf 0 (by decide)]; exact h.1.1
  generalize hsv : zSvI n rc = sv at fin
  -- registers at last
  have regs : ∀ (W : (Nat → Int32) × (Nat → Int32) × (Nat → Int32)), W = zLc n D (st 8) sz rc c b off sv bg (st 3) (g, P, ce) (last + 1) → ∀ (f r : Nat) (a : Nat → Nat → Int32), r + f = 32 → zFr zLR al a → zLSr a n sz W → (∀ r', r' < r → a 25 r' = zKl (st 8) sv bg W.1 r') → BX11_runLaid_401 G Z ad ln (nI last) (nI r) a := by
    intro W hW f
    induction f with
    | zero =>
      intro r a hr hf hs ha
      refine uX11_runLaid_401 X hR _ _ a ?_
      unfold vcX11_runLaid_401
      have : r = 32 := by omega
      subst this
      refine ⟨fun _ => fin a hf (by rw [← hW]; exact hs) (by rw [← hW]; exact ha), fun z => absurd (by decide) z⟩
    | succ f ih =>
      intro r a hr hf hs ha
      refine uX11_runLaid_401 X hR _ _ a ?_
      unfold vcX11_runLaid_401
      rw [show (32 : Int32) = nI 32 from rfl, nI_leI (by omega) (by omega), nI_clamp (by omega), nI_1]
      refine ⟨fun z => absurd z (by omega), fun _ => ?_⟩
      have h' := h.fr hf
      refine (r_setter G ad ln a h'.1 h'.2.2.1 (r := r) (by omega)).mono (fun q2 a2 hq => ?_)
      obtain ⟨rfl, e2⟩ := hq
      obtain rfl := e2.symm
      have nx : ∀ v, v = zKl (st 8) sv bg W.1 r → BX11_runLaid_401 G Z ad ln (nI last) (nI (r + 1)) (up2 a 25 r v) := by
        intro v hv
        refine ih (r + 1) _ (by omega) (hf.up (by decide) _ _) ?_ (fun r' hr' => ?_)
        · exact ⟨fun x i hx hi => by rw [up2_name _ _ _ (by omega)]; exact hs.1 x i hx hi, fun i hi => by rw [up2_name _ _ _ (by omega)]; exact hs.2.1 i hi, fun q i hq hi => by rw [up2_name _ _ _ (by omega)]; exact hs.2.2 q i hq hi⟩
        · by_cases e : r' = r
          · subst e
            rw [up2_self, hv]
          · rw [up2_ne _ _ (fun z => e z.2)]
            exact ha r' (by omega)
      have v32 : vp_in (nI r) 32 := vp_in_nI (by omega) (by omega)
      rcases zSv_rng n rc r with ⟨g1, g2⟩ | ⟨x, g1, g2, g3, g4⟩
      · rw [g1]
        refine ⟨fun z => absurd z (by decide), fun _ => ⟨v32, v32, nx _ ?_⟩⟩
        unfold zKl
        rw [if_pos (by rw [← hsv]; unfold zSvI; omega), h'.2.2.2.2.2.2.2 r (by omega)]
      · rw [g2, nI_clamp (by omega)]
        refine ⟨fun _ => ⟨vp_in_nI (by omega) (by omega), ?_, v32, ?_⟩, fun z => absurd (by rw [show (0 : Int32) = nI 0 from rfl, nI_leI (by omega) (by omega)]; omega) z⟩
        · rw [hf 0 (by decide), h18, zI_n, zI_1, zI_sub]
          exact zvp (by omega) (by omega) (by omega)
        · have e1 : (a 0 18 - 1).toNatClampNeg = st 8 - 1 := by
            rw [hf 0 (by decide), h18, zI_n, zI_1, zI_sub, zI_clamp ⟨by omega, by omega⟩]
            omega
          rw [e1]
          refine nx _ ?_
          have e3 : sv r = (x : Int) := by rw [← hsv]; exact g3 hn
          unfold zKl
          rw [e3, if_neg (by omega), show ((x : Nat) : Int).toNat = x by omega]
          exact hs.1 x _ g1 (by omega)
  -- one cycle
  have cyc : ∀ (t : Nat) (a : Nat → Nat → Int32) (w : (Nat → Int32) × (Nat → Int32) × (Nat → Int32)), t ≤ last → zFr zLR al a → zLSr a n sz w → (∀ a', zFr zLR al a' → zLSr a' n sz (zBr D (st 8) sz rc c off sv bg (t : Int) (zBv D (st 8) sz b off (t : Int) w.1 n w.2.1) w.2.2 n w.1, zBv D (st 8) sz b off (t : Int) w.1 n w.2.1, zBs D (st 8) rc c (st 3) (t : Int) (zBr D (st 8) sz rc c off sv bg (t : Int) (zBv D (st 8) sz b off (t : Int) w.1 n w.2.1) w.2.2 n w.1) n w.2.2) → BX11_runLaid_77 G Z ad ln (nI last) (nI (t + 1)) a') → BX11_runLaid_84 G Z ad ln (nI last) (nI t) (nI 0) a := by
    intro t a0 w0 ht hf0 hs0 kk
    obtain ⟨g0, P0, ce0⟩ := w0
    have htr : (t : Int) ≤ 1900000 := by omega
    -- sets
    have sets : ∀ (g1 P1 : Nat → Int32) (f i : Nat) (a : Nat → Nat → Int32), i + f = st 8 → zFr zLR al a → zLSr a n sz (g1, P1, zBn n D (st 8) rc c (st 3) (t : Int) g1 i ce0) → (∀ a', zFr zLR al a' → zLSr a' n sz (g1, P1, zBs D (st 8) rc c (st 3) (t : Int) g1 n ce0) → BX11_runLaid_77 G Z ad ln (nI last) (nI (t + 1)) a') → BX11_runLaid_300 G Z ad ln (nI last) (nI t) (nI i) a := by
      intro g1 P1 f
      induction f with
      | zero =>
        intro i a hi hf hs k3
        refine uX11_runLaid_300 X hR _ _ _ a ?_
        unfold vcX11_runLaid_300
        have : i = st 8 := by omega
        subst this
        rw [hf 0 (by decide), h18, nI_1]
        refine ⟨fun _ => k3 a hf ?_, fun z => absurd (Int32.le_refl _) z⟩
        rw [zBn_eq hD.1 (hnc t)] at hs
        exact hs
      | succ f ih =>
        intro i a hi hf hs k3
        have inner : ∀ (f' x : Nat) (a : Nat → Nat → Int32), x + f' = n → zFr zLR al a → zLSr a n sz (g1, P1, zBx D (st 8) rc c (st 3) (t : Int) g1 i x (zBn n D (st 8) rc c (st 3) (t : Int) g1 i ce0)) → BX11_runLaid_311 G Z ad ln (nI last) (nI t) (nI i) (nI x) a := by
          intro f'
          induction f' with
          | zero =>
            intro x a hx hf hs
            refine uX11_runLaid_311 X hR _ _ _ _ a ?_
            unfold vcX11_runLaid_311
            have : x = n := by omega
            subst this
            rw [h9 a hf, nI_1]
            exact ⟨fun _ => ih (i + 1) a (by omega) hf hs k3, fun z => absurd (Int32.le_refl _) z⟩
          | succ f' ih' =>
            intro x a hx hf hs
            refine uX11_runLaid_311 X hR _ _ _ _ a ?_
            unfold vcX11_runLaid_311 vcX11_runLaid_381
            have hxn : x < n := by omega
            have h' := h.fr hf
            obtain ⟨rw', ok⟩ := h'.1.2.2 x hxn
            have v49 : vp_in (nI x) 49 := vp_in_nI (by omega) (by omega)
            rw [h9 a hf, nI_leI (by omega) (by omega), nI_clamp (by omega), rw'.1, (zOpc_k ok).2.2, nI_1 (a := x)]
            have skip : ¬ ((rc x).1 = 3 ∧ zRa D (st 8) (t : Int) (c x + (st 3 : Int) - 1) = (i : Int)) → BX11_runLaid_311 G Z ad ln (nI last) (nI t) (nI i) (nI (x + 1)) a := by
              intro hno
              refine ih' (x + 1) a (by omega) hf ?_
              have : zBx D (st 8) rc c (st 3) (t : Int) g1 i (x + 1) (zBn n D (st 8) rc c (st 3) (t : Int) g1 i ce0) = zBx D (st 8) rc c (st 3) (t : Int) g1 i x (zBn n D (st 8) rc c (st 3) (t : Int) g1 i ce0) := by
                rw [zBx, if_neg hno]
              rw [this]
              exact hs
            refine ⟨fun z => absurd z (by omega), fun _ => ⟨v49, fun q => skip (fun z => q z.1), fun q => ?_⟩⟩
            refine (r_time G ad ln a h'.1 h'.2.1 hxn).mono (fun q3 a3 hq => ?_)
            obtain ⟨rfl, e3⟩ := hq
            obtain rfl := e3.symm
            have et : zTm rc st x = st 3 := by
              unfold zTm rKd
              rw [q]
              rfl
            have b3 := hst 3 (by omega)
            rw [et, zI_n t, zI_n (st 3), zI_sub, zI_1, zI_add, ← zI_n t]
            refine (r_roundAt G ad ln a h' hxn (t := (t : Int) - (st 3 : Int) + 1) (by omega)).mono (fun q4 a4 hq => ?_)
            obtain ⟨rfl, e4⟩ := hq
            obtain rfl := e4.symm
            have er : zRa D (st 8) ((t : Int) - (st 3 : Int) + 1) (c x) = zRa D (st 8) (t : Int) (c x + (st 3 : Int) - 1) := by
              unfold zRa
              rw [show (t : Int) - (st 3 : Int) + 1 - c x = (t : Int) - (c x + (st 3 : Int) - 1) by omega]
            have rr := zRa_rng (R := st 8) (t : Int) (c x + (st 3 : Int) - 1) hD.1
            rw [er, zI_n i, zI_eq ⟨by omega, by omega⟩ ⟨by omega, by omega⟩, ← zI_n i]
            refine ⟨fun z => skip (fun z2 => z z2.2), fun z => ⟨v49, ?_⟩⟩
            obtain ⟨p1, p2, p3, p4⟩ := zPp_ok ok (Or.inr q) (n := i) (by omega)
            rw [rw'.2.2.1, p4, nI_clamp (by omega)]
            refine ⟨vp_in_nI p3 (by omega), (r_place G ad ln a h'.1 hxn (Or.inr q) (i := i) (by omega)).mono (fun q7 a7 hq => ?_)⟩
            obtain ⟨rfl, e7⟩ := hq
            obtain rfl := e7.symm
            rw [nI_clamp (by omega), nI_clamp (by omega)]
            refine ⟨vp_in_nI (by omega) (by omega), vp_in_nI (by omega) (by omega), vp_in_nI p1 (by omega), ih' (x + 1) _ (by omega) (hf.up (zLR_a p3) _ _) ?_⟩
            rw [zBx, if_pos ⟨q, z⟩, p2, hs.1 x i hxn (by omega)]
            exact hs.ce p3 p1 _
        refine uX11_runLaid_300 X hR _ _ _ a ?_
        unfold vcX11_runLaid_300
        rw [hf 0 (by decide), h18, nI_leI (by omega) (by omega)]
        exact ⟨fun z => absurd z (by omega), fun _ => inner n 0 a (by omega) hf hs⟩
    -- rows begin
    have rows : ∀ (P1 : Nat → Int32) (f x : Nat) (a : Nat → Nat → Int32), x + f = n → zFr zLR al a → zLSr a n sz (zBr D (st 8) sz rc c off sv bg (t : Int) P1 ce0 x g0, P1, ce0) → (∀ a', zFr zLR al a' → zLSr a' n sz (zBr D (st 8) sz rc c off sv bg (t : Int) P1 ce0 n g0, P1, ce0) → BX11_runLaid_300 G Z ad ln (nI last) (nI t) (nI 0) a') → BX11_runLaid_149 G Z ad ln (nI last) (nI t) (nI x) a := by
      intro P1 f
      induction f with
      | zero =>
        intro x a hx hf hs k2
        refine uX11_runLaid_149 X hR _ _ _ a ?_
        unfold vcX11_runLaid_149
        have : x = n := by omega
        subst this
        rw [h9 a hf]
        exact ⟨fun _ => k2 a hf hs, fun z => absurd (Int32.le_refl _) z⟩
      | succ f ih =>
        intro x a hx hf hs k2
        refine uX11_runLaid_149 X hR _ _ _ a ?_
        unfold vcX11_runLaid_149 vcX11_runLaid_292
        have hxn : x < n := by omega
        have h' := h.fr hf
        obtain ⟨rw', ok⟩ := h'.1.2.2 x hxn
        have v49 : vp_in (nI x) 49 := vp_in_nI (by omega) (by omega)
        have v48 : vp_in (nI x) 48 := vp_in_nI (by omega) (by omega)
        rw [h9 a hf, nI_leI (by omega) (by omega), nI_clamp (by omega), nI_1, zI_n t]
        refine ⟨fun z => absurd z (by omega), fun _ => ?_⟩
        refine (r_roundAt G ad ln a h' hxn (t := (t : Int)) (by omega)).mono (fun q2 a2 hq => ?_)
        obtain ⟨rfl, e2⟩ := hq
        obtain rfl := e2.symm
        rw [← zI_n t]
        have rr := zRa_rng (R := st 8) (t : Int) (c x) hD.1
        generalize hra : zRa D (st 8) (t : Int) (c x) = ra at rr
        rw [zI_0, zI_lt ⟨by omega, by omega⟩ ⟨by omega, by omega⟩]
        refine ⟨fun z => ?_, fun z => ⟨v48, v49, ?_⟩⟩
        · refine ih (x + 1) a (by omega) hf ?_ k2
          rw [zBr, hra, if_neg (by omega)]
          exact hs
        · have ern : zI ra = nI ra.toNat := by rw [zI_n]; congr 1; omega
          have nx : ∀ v, v = zGv sz rc off sv bg P1 ce0 x ra.toNat → BX11_runLaid_149 G Z ad ln (nI last) (nI t) (nI (x + 1)) (up2 a (81 + x) ra.toNat v) := by
            intro v hv
            refine ih (x + 1) _ (by omega) (hf.up (zLR_v (by omega)) _ _) ?_ k2
            rw [zBr, hra, if_pos (by omega), ← hv]
            exact hs.va (by omega) _
          have v64 : vp_in (nI ra.toNat) 64 := vp_in_nI (by omega) (by omega)
          rw [rw'.1, (zOpc_k ok).2.1, (zOpc_k ok).2.2, ern, nI_clamp (by omega)]
          refine ⟨fun k2' => ⟨v49, fun k3 => ⟨v49, v49, v49, ?_⟩, fun k3 => ⟨v49, v49, ?_⟩⟩, fun k2' => ⟨v49, ?_⟩⟩
          · obtain ⟨ra6, ra8⟩ := zRow_A rw' k2'
            obtain ⟨rb6, rb8⟩ := zRow_B rw' k2' k3
            rw [ra6]
            refine (r_laid G ad ln a h' hs.2.1 (s := (rc x).2.2.2.2.2.2.1) (v := (rc x).2.2.2.2.2.2.2.1) hxn (i := ra.toNat) (by omega) ok.2.2.2.2.2.2.2.1 ra8).mono (fun q7 a7 hq => ⟨v49, v49, ?_⟩)
            obtain ⟨rfl, e7⟩ := hq
            obtain rfl := e7.symm
            rw [rb6]
            refine (r_laid G ad ln a h' hs.2.1 (s := (rc x).2.2.2.2.2.2.2.2.1) (v := (rc x).2.2.2.2.2.2.2.2.2) hxn (i := ra.toNat) (by omega) ok.2.2.2.2.2.2.2.2.1 rb8).mono (fun q8 a8 hq => ?_)
            obtain ⟨rfl, e8⟩ := hq
            obtain rfl := e8.symm
            refine (r_result G ad ln a (rc x) k2' k3 _ _).mono (fun q9 a9 hq => ⟨v64, ?_⟩)
            obtain ⟨rfl, e9⟩ := hq
            obtain rfl := e9.symm
            refine nx _ ?_
            unfold zGv
            rw [if_neg k2', if_neg k3, hsv]
          · obtain ⟨ra6, ra8⟩ := zRow_A rw' k2'
            rw [ra6]
            refine (r_laid G ad ln a h' hs.2.1 (s := (rc x).2.2.2.2.2.2.1) (v := (rc x).2.2.2.2.2.2.2.1) hxn (i := ra.toNat) (by omega) ok.2.2.2.2.2.2.2.1 ra8).mono (fun q7 a7 hq => ⟨v64, ?_⟩)
            obtain ⟨rfl, e7⟩ := hq
            obtain rfl := e7.symm
            refine nx _ ?_
            unfold zGv
            rw [if_neg k2', if_pos k3, hsv]
          · obtain ⟨p1, p2, p3, p4⟩ := zPp_ok ok (Or.inl k2') (n := ra.toNat) (by omega)
            rw [rw'.2.2.1, p4, nI_clamp (by omega)]
            refine ⟨vp_in_nI p3 (by omega), (r_place G ad ln a h'.1 hxn (Or.inl k2') (i := ra.toNat) (by omega)).mono (fun q7 a7 hq => ?_)⟩
            obtain ⟨rfl, e7⟩ := hq
            obtain rfl := e7.symm
            rw [nI_clamp (by omega)]
            refine ⟨vp_in_nI p1 (by omega), v64, nx _ ?_⟩
            unfold zGv
            rw [if_pos k2', p2, hs.2.2 _ _ p3 p1]
    -- values come
    have vals : ∀ (f x : Nat) (a : Nat → Nat → Int32), x + f = n → zFr zLR al a → zLSr a n sz (g0, zBv D (st 8) sz b off (t : Int) g0 x P0, ce0) → BX11_runLaid_84 G Z ad ln (nI last) (nI t) (nI x) a := by
      intro f
      induction f with
      | zero =>
        intro x a hx hf hs
        refine uX11_runLaid_84 X hR _ _ _ a ?_
        unfold vcX11_runLaid_84
        have : x = n := by omega
        subst this
        rw [h9 a hf]
        exact ⟨fun _ => rows _ x 0 a (by omega) hf hs (fun a' hf' hs' => sets _ _ (st 8) 0 a' (by omega) hf' hs' kk), fun z => absurd (Int32.le_refl _) z⟩
      | succ f ih =>
        intro x a hx hf hs
        refine uX11_runLaid_84 X hR _ _ _ a ?_
        unfold vcX11_runLaid_84 vcX11_runLaid_141
        have hxn : x < n := by omega
        have h' := h.fr hf
        have v48 : vp_in (nI x) 48 := vp_in_nI (by omega) (by omega)
        obtain ⟨o1, o2, o3, o4⟩ := h'.2.2.2.2.2.2.1 x hxn
        rw [h9 a hf, nI_leI (by omega) (by omega), nI_1, nI_clamp (by omega)]
        have skip : ¬ (0 ≤ b x ∧ 0 ≤ zRa D (st 8) (t : Int) (b x)) → BX11_runLaid_84 G Z ad ln (nI last) (nI t) (nI (x + 1)) a := by
          intro hno
          refine ih (x + 1) a (by omega) hf ?_
          rw [zBv, if_neg hno]
          exact hs
        refine ⟨fun z => absurd z (by omega), fun _ => ?_⟩
        refine (r_time G ad ln a h'.1 h'.2.1 hxn).mono (fun q2 a2 hq => ?_)
        obtain ⟨rfl, e2⟩ := hq
        obtain rfl := e2.symm
        have tb := htm x hxn
        rw [zI_n t, zI_n (zTm rc st x), zI_sub, ← zI_n t]
        refine (r_roundAt G ad ln a h' hxn (t := (t : Int) - (zTm rc st x : Int)) (by omega)).mono (fun q3 a3 hq => ?_)
        obtain ⟨rfl, e3⟩ := hq
        obtain rfl := e3.symm
        have rr := zRa_rng (R := st 8) ((t : Int) - (zTm rc st x : Int)) (c x) hD.1
        have er : 0 ≤ b x → zRa D (st 8) ((t : Int) - (zTm rc st x : Int)) (c x) = zRa D (st 8) (t : Int) (b x) := by
          intro hb
          unfold zRa
          rw [o4 hb, show (t : Int) - (zTm rc st x : Int) - c x = (t : Int) - (c x + (zTm rc st x : Int)) by omega]
        generalize hra : zRa D (st 8) ((t : Int) - (zTm rc st x : Int)) (c x) = ra at rr er
        have hzz : sz ≤ 128 := h'.2.2.2.2.1.2.2.1
        rw [zI_0, zI_lt ⟨by omega, by omega⟩ ⟨by omega, by omega⟩, o1, zI_lt ⟨by omega, by omega⟩ ⟨by omega, by omega⟩]
        refine ⟨fun z => skip (fun z2 => by have := er z2.1; omega), fun z => ⟨v48, fun z2 => skip (fun z3 => by have := o3.mpr z3.1; omega), fun z2 => ?_⟩⟩
        have hb : 0 ≤ b x := o3.mp (by omega)
        refine (r_spot G ad ln a h' hxn (i := ra) (by omega)).mono (fun q6 a6 hq => ?_)
        obtain ⟨rfl, e6⟩ := hq
        obtain rfl := e6.symm
        have hs1 : zSp sz off x ra < sz := by
          have z1 := h'.2.2.2.2.1.2.1
          have := Int.emod_lt_of_pos (off x - ra) (b := (sz : Int)) (by omega)
          have := Int.emod_nonneg (off x - ra) (b := (sz : Int)) (by omega)
          unfold zSp
          omega
        have z5 := h'.2.2.2.2.1.2.2
        have ern : zI ra = nI ra.toNat := by rw [zI_n]; congr 1; omega
        rw [ern, nI_clamp (by omega), nI_clamp (by omega)]
        refine ⟨v48, vp_in_nI (by omega) (by omega), vp_in_nI (by omega) (by omega), ih (x + 1) _ (by omega) (hf.up (by decide) _ _) ?_⟩
        rw [zBv, if_pos ⟨hb, by rw [← er hb]; omega⟩, ← er hb, hs.1 x ra.toNat hxn (by omega)]
        exact hs.pl _
    exact vals n 0 a0 (by omega) hf0 hs0
  have loop : ∀ (f t : Nat) (a : Nat → Nat → Int32), t + f = last + 1 → zFr zLR al a → zLSr a n sz (zLc n D (st 8) sz rc c b off sv bg (st 3) (g, P, ce) t) → BX11_runLaid_77 G Z ad ln (nI last) (nI t) a := by
    intro f
    induction f with
    | zero =>
      intro t a ht hf hs
      refine uX11_runLaid_77 X hR _ _ a ?_
      unfold vcX11_runLaid_77
      have : t = last + 1 := by omega
      subst this
      rw [nI_ltI (by omega) (by omega)]
      exact ⟨fun _ => regs _ rfl 32 0 a (by omega) hf hs (fun r' hr' => absurd hr' (by omega)), fun z => absurd (by omega) z⟩
    | succ f ih =>
      intro t a ht hf hs
      refine uX11_runLaid_77 X hR _ _ a ?_
      unfold vcX11_runLaid_77
      rw [nI_ltI (by omega) (by omega)]
      exact ⟨fun z => absurd z (by omega), fun _ => cyc t a _ (by omega) hf hs (fun a' hf' hs' => ih (t + 1) a' (by omega) hf' hs')⟩
  have over : ∀ (f x : Nat), x + f = n → BX11_runLaid_30 G Z ad ln (zI (zLs c (zTm rc st) x)) (nI x) al := by
    have rg : ∀ x, x ≤ n → 0 ≤ zLs c (zTm rc st) x ∧ zLs c (zTm rc st) x ≤ 100020 := by
      intro x
      induction x with
      | zero => intro _; exact ⟨Int.le_refl _, by show (0 : Int) ≤ 100020; omega⟩
      | succ x ih =>
        intro hx
        have := ih (by omega)
        have := h.2.2.2.2.2.1 x (by omega)
        have := htm x (by omega)
        show 0 ≤ zmx (zLs c (zTm rc st) x) (c x + (zTm rc st x : Int)) ∧ zmx (zLs c (zTm rc st) x) (c x + (zTm rc st x : Int)) ≤ 100020
        unfold zmx
        split <;> omega
    intro f
    induction f with
    | zero =>
      intro x hx
      refine uX11_runLaid_30 X hR _ _ al ?_
      unfold vcX11_runLaid_30
      have : x = n := by omega
      subst this
      have e1 : zI (zLs c (zTm rc st) x) + (nI (st 8) - 1) * nI D = nI last := by
        rw [zI_n (st 8), zI_1, zI_sub, zI_n D, zI_mul, zI_add, zI_n, hl]
      rw [h.1.1, h18, h.2.2.2.1.1, e1]
      exact ⟨fun _ => loop (last + 1) 0 al (by omega) zFr.rf hS, fun z => absurd (Int32.le_refl _) z⟩
    | succ f ih =>
      intro x hx
      refine uX11_runLaid_30 X hR _ _ al ?_
      unfold vcX11_runLaid_30
      have hxn : x < n := by omega
      obtain ⟨c1, c2, c3⟩ := h.2.2.2.2.2.1 x hxn
      have tb := htm x hxn
      have g1 := rg x (by omega)
      rw [h.1.1, nI_leI (by omega) (by omega), nI_clamp (by omega), c1]
      refine ⟨fun z => absurd z (by omega), fun _ => ⟨vp_in_nI (by omega) (by omega), ?_⟩⟩
      refine (r_time G ad ln al h.1 h.2.1 hxn).mono (fun q2 a2 hq => ?_)
      obtain ⟨rfl, e2⟩ := hq
      obtain rfl := e2.symm
      rw [zI_n (zTm rc st x), zI_add, zI_mx ⟨by omega, by omega⟩ ⟨by omega, by omega⟩, nI_1]
      exact ih (x + 1) (by omega)
  refine uX11_runLaid_26 X hR al ?_
  unfold vcX11_runLaid_26
  exact over n 0 (by omega)
end REFL3
