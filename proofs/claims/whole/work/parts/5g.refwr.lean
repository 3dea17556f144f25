-- needs: 5f
/-! THE REFERENCE: runWritten -/
section REFWR
variable (G : zG) (ad ln : Nat → Nat) (al : Nat → Nat → Int32) {n : Nat} {rc : Nat → zRec} {st : Nat → Nat}
theorem zRCr.ce {a : Nat → Nat → Int32} {w : (Nat → Int32) × (Nat → Int32)} (h : zRCr a w) {q i : Nat} (hq : q < 4) (hi : i < 1024) (v : Int32) : zRCr (up2 a (77 + q) i v) (w.1, fu w.2 (q * 1024 + i) v) := by
  refine ⟨fun j hj => ?_, fun q' i' hq' hi' => ?_⟩
  · rw [up2_name _ _ _ (by omega)]
    exact h.1 j hj
  · show _ = fu w.2 (q * 1024 + i) v (q' * 1024 + i')
    by_cases e : q' = q ∧ i' = i
    · obtain ⟨rfl, rfl⟩ := e
      rw [up2_self, fu_self]
    · rw [up2_ne _ _ (fun z => e ⟨by omega, z.2⟩), fu_ne _ _ (fun z => e (by omega))]
      exact h.2 q' i' hq' hi'
theorem zRCr.rg {a : Nat → Nat → Int32} {w : (Nat → Int32) × (Nat → Int32)} (h : zRCr a w) {i : Nat} (v : Int32) : zRCr (up2 a 25 i v) (fu w.1 i v, w.2) := by
  refine ⟨fun j hj => ?_, fun q' i' hq' hi' => ?_⟩
  · show _ = fu w.1 i v j
    by_cases e : j = i
    · subst e
      rw [up2_self, fu_self]
    · rw [up2_ne _ _ (fun z => e z.2), fu_ne _ _ e]
      exact h.1 j hj
  · rw [up2_name _ _ _ (by omega)]
    exact h.2 q' i' hq' hi'
theorem r_runWritten (h : zRr al n rc) (hs : zRst al st) {bg : Nat → Int32} (hb : ∀ i, i < 32 → al 24 i = bg i) : zMi G yX11_runWritten wsX11_runWritten rmX11_runWritten zTR ad ln [.ref (ad 0)] al (fun q a => q = nI (st 8 * n) ∧ zFr [25, 77, 78, 79, 80] al a ∧ zRCr a (zDoR rc n (st 8) (bg, zCe0))) := by
  refine zMi.of (cc := cX11_runWritten) (nL := 3) (rt := .int) (by decide) rfl (Nat.le_of_ble_eq_true rfl) (fun Z X hR => ?_)
  have hn := h.2.1
  have hR8 := hs.2.2 8 (by omega)
  have h18 : al 0 18 = nI (st 8) := hs.2.1.2.2.2.2
  have inner : ∀ (i : Nat), i < st 8 → ∀ (g x : Nat) (a : Nat → Nat → Int32), x + g = n → zFr [25, 77, 78, 79, 80] al a → zRCr a (zDoX rc i x (zDoR rc n i (bg, zCe0))) → (∀ a', zFr [25, 77, 78, 79, 80] al a' → zRCr a' (zDoR rc n (i + 1) (bg, zCe0)) → BX11_runWritten_6 G Z ad ln (nI (i + 1)) a') → BX11_runWritten_16 G Z ad ln (nI i) (nI x) a := by
    intro i hi g
    induction g with
    | zero =>
      intro x a hx hf hw kk
      refine uX11_runWritten_16 X hR _ _ a ?_
      unfold vcX11_runWritten_16
      have : x = n := by omega
      subst this
      rw [hf 0 (by decide), h.1, nI_1]
      exact ⟨fun _ => kk a hf hw, fun z => absurd (Int32.le_refl _) z⟩
    | succ g ih =>
      intro x a hx hf hw kk
      refine uX11_runWritten_16 X hR _ _ a ?_
      unfold vcX11_runWritten_16 vcX11_runWritten_170
      have hxn : x < n := by omega
      have h' : zRr a n rc := h.fr hf (by rw [hf 0 (by decide)]) (by decide)
      obtain ⟨rw', ok⟩ := h'.2.2 x hxn
      have v : vp_in (nI x) 49 := vp_in_nI (by omega) (by omega)
      obtain ⟨oc1, oc2, oc3⟩ := zOpc_k ok
      generalize hW : zDoX rc i x (zDoR rc n i (bg, zCe0)) = w at hw
      have step : zDoX rc i (x + 1) (zDoR rc n i (bg, zCe0)) = zDo (rc x) i w := by
        show zDo (rc x) i (zDoX rc i x (zDoR rc n i (bg, zCe0))) = _
        rw [hW]
      rw [hf 0 (by decide), h.1, nI_leI (by omega) (by omega), nI_clamp (by omega), rw'.1, oc2, oc3, nI_1, nI_1]
      refine ⟨fun z => absurd z (by omega), fun _ => ⟨v, fun k2 => ⟨v, fun k3 => ⟨v, v, v, v, ?_⟩, fun k3 => ⟨v, ?_⟩⟩, fun k2 => ⟨v, v, ?_⟩⟩⟩
      · obtain ⟨ra6, ra8⟩ := zRow_A rw' k2
        obtain ⟨rb6, rb8⟩ := zRow_B rw' k2 k3
        obtain ⟨t1, t2⟩ := zRec_tg ok k3
        rw [ra6]
        refine (r_written G ad ln a (s := (rc x).2.2.2.2.2.2.1) (v := (rc x).2.2.2.2.2.2.2.1) (rg := w.1) ok.2.2.2.2.2.2.2.1 ra8 hw.1).mono (fun q4 a4 hq => ⟨v, v, ?_⟩)
        obtain ⟨rfl, e4⟩ := hq
        obtain rfl := e4.symm
        rw [rb6]
        refine (r_written G ad ln a (s := (rc x).2.2.2.2.2.2.2.2.1) (v := (rc x).2.2.2.2.2.2.2.2.2) (rg := w.1) ok.2.2.2.2.2.2.2.2.1 rb8 hw.1).mono (fun q5 a5 hq => ?_)
        obtain ⟨rfl, e5⟩ := hq
        obtain rfl := e5.symm
        refine (r_result G ad ln a (rc x) k2 k3 _ _).mono (fun q6 a6 hq => ?_)
        obtain ⟨rfl, e6⟩ := hq
        obtain rfl := e6.symm
        rw [rw'.2.1, t2, nI_clamp (by omega)]
        refine ⟨vp_in_nI t1 (by omega), ih (x + 1) _ (by omega) (hf.up (by decide) _ _) ?_ kk⟩
        rw [step]
        unfold zDo
        rw [if_neg k3, if_neg k2]
        exact hw.rg _
      · obtain ⟨p1, p2, p3, p4⟩ := zPp_ok ok (Or.inr k3) (n := i) (by omega)
        obtain ⟨ra6, ra8⟩ := zRow_A rw' k2
        rw [rw'.2.2.1, p4, nI_clamp (by omega)]
        refine ⟨vp_in_nI p3 (by omega), (r_place G ad ln a h' hxn (Or.inr k3) (i := i) (by omega)).mono (fun q5 a5 hq => ⟨v, v, ?_⟩)⟩
        obtain ⟨rfl, e5⟩ := hq
        obtain rfl := e5.symm
        rw [ra6]
        refine (r_written G ad ln a (s := (rc x).2.2.2.2.2.2.1) (v := (rc x).2.2.2.2.2.2.2.1) (rg := w.1) ok.2.2.2.2.2.2.2.1 ra8 hw.1).mono (fun q6 a6 hq => ?_)
        obtain ⟨rfl, e6⟩ := hq
        obtain rfl := e6.symm
        rw [nI_clamp (by omega)]
        refine ⟨vp_in_nI p1 (by omega), ih (x + 1) _ (by omega) (hf.up ?_ _ _) ?_ kk⟩
        · have : rAr (rc x) = 0 ∨ rAr (rc x) = 1 ∨ rAr (rc x) = 2 ∨ rAr (rc x) = 3 := by omega
          rcases this with e | e | e | e <;> rw [e] <;> decide
        · rw [step]
          unfold zDo
          rw [if_pos k3, p2]
          exact hw.ce p3 p1 _
      · obtain ⟨p1, p2, p3, p4⟩ := zPp_ok ok (Or.inl k2) (n := i) (by omega)
        have k3 : ¬ (rc x).1 = 3 := fun z => by rw [k2] at z; exact absurd z (by decide)
        obtain ⟨t1, t2⟩ := zRec_tg ok k3
        rw [rw'.2.2.1, p4, nI_clamp (by omega), rw'.2.1, t2, nI_clamp (by omega)]
        refine ⟨vp_in_nI p3 (by omega), (r_place G ad ln a h' hxn (Or.inl k2) (i := i) (by omega)).mono (fun q4 a4 hq => ?_)⟩
        obtain ⟨rfl, e4⟩ := hq
        obtain rfl := e4.symm
        rw [nI_clamp (by omega)]
        refine ⟨vp_in_nI p1 (by omega), vp_in_nI t1 (by omega), ih (x + 1) _ (by omega) (hf.up (by decide) _ _) ?_ kk⟩
        rw [step]
        unfold zDo
        rw [if_neg k3, if_pos k2, p2, hw.2 _ _ p3 p1]
        exact hw.rg _
  have loop : ∀ (f i : Nat) (a : Nat → Nat → Int32), i + f = st 8 → zFr [25, 77, 78, 79, 80] al a → zRCr a (zDoR rc n i (bg, zCe0)) → BX11_runWritten_6 G Z ad ln (nI i) a := by
    intro f
    induction f with
    | zero =>
      intro i a hi hf hw
      refine uX11_runWritten_6 X hR _ a ?_
      unfold vcX11_runWritten_6
      have : i = st 8 := by omega
      subst this
      rw [hf 0 (by decide), h18, h.1]
      refine ⟨fun _ => ⟨?_, hf, hw⟩, fun z => absurd (Int32.le_refl _) z⟩
      rw [zI_n, zI_n, zI_n, zI_mul, Int.mul_comm]
      congr 1
    | succ f ih =>
      intro i a hi hf hw
      refine uX11_runWritten_6 X hR _ a ?_
      unfold vcX11_runWritten_6
      rw [hf 0 (by decide), h18, nI_leI (by omega) (by omega)]
      exact ⟨fun z => absurd z (by omega), fun _ => inner i (by omega) n 0 a (by omega) hf hw (fun a' hf' hw' => ih (i + 1) a' (by omega) hf' hw')⟩
  refine uX11_runWritten_0 X hR al ?_
  unfold vcX11_runWritten_0
  refine (r_beginRun G ad ln al hb).mono (fun a1 hq => ?_)
  exact loop (st 8) 0 a1 (by omega) hq.1 hq.2
end REFWR
