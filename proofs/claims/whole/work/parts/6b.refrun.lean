/-! THE REFERENCE: run, both ways -/
abbrev rmX11_run : Room := { frames := 3, cells := 1, slots := 128, locals := 73 }
theorem kX11_run_0 : Cond.fieldLink RX11 308 RX11 "thrown" "I" ∈ wsX11_run := by decide +kernel
theorem kX11_run_1 : zIn RX11 TX11 51 wsX11_run := by decide +kernel
theorem kX11_run_2 : Cond.fieldLink RX11 330 RX11 "loop" "Z" ∈ wsX11_run := by decide +kernel
theorem kX11_run_3 : Cond.fieldLink RX11 216 RX11 "distance" "I" ∈ wsX11_run := by decide +kernel
theorem kX11_run_4 : Cond.fieldLink RX11 316 RX11 "ran" "Z" ∈ wsX11_run := by decide +kernel
section RUNR
variable (G : zG) (ad ln : Nat → Nat) (al : Nat → Nat → Int32) {len : Nat} {ty : Nat → Int32} {st : Nat → Nat} {bg : Nat → Int32} {n : Nat} {rc : Nat → zRec} {re : Int32} {D : Nat} {ran : Bool} {rg ce : Nat → Int32}
theorem zIR.run {a a' : Nat → Nat → Int32} {ln' : Nat → Nat} {rg' ce' : Nat → Int32} (h : zIR a ln len ty st bg n rc re D ran rg ce) (hf : zFr (0 :: zLR) a a') (h0 : ∀ j, j ≠ 47 → j ≠ 50 → a' 0 j = a 0 j) (h47 : a' 0 47 = 1) (hr : zRCr a' (rg', ce')) (hl : ln' 28 < 2147483648) : zIR a' ln' len ty st bg n rc re D true rg' ce' := by
  obtain ⟨g1, g2, g3, g4, g5, g6, g7, g8, g9, g10, g11, g12⟩ := h
  refine ⟨?_, g2.fr (hf 11 (by decide)) (fun j _ _ => h0 j (by omega) (by omega)), ?_, g4.fr hf (h0 9 (by omega) (by omega)) (by decide), g5, ?_, ?_, ?_, ?_, h47, fun _ => hr, hl⟩
  · rw [h0 11 (by omega) (by omega), hf 10 (by decide)]
    exact g1
  · rw [hf 24 (by decide)]
    exact g3
  · rw [h0 46 (by omega) (by omega)]
    exact g6
  · rw [h0 48 (by omega) (by omega)]
    exact g7
  · rw [h0 33 (by omega) (by omega)]
    exact g8
  · exact g9.imp id (fun ⟨k1, k2, k3⟩ => ⟨k1, k2, k3.fr (fun j hj => h0 j (by omega) (by omega)) (hf 17 (by decide)) (hf 19 (by decide)) (hf 20 (by decide)) (hf 21 (by decide)) (hf 22 (by decide))⟩)
/-- what run owes -/
def zRunP (ad : Nat → Nat) (len : Nat) (ty : Nat → Int32) (st : Nat → Nat) (bg : Nat → Int32) (n : Nat) (rc : Nat → zRec) (re : Int32) (D : Nat) (ran : Bool) (rg ce : Nat → Int32) (l : Bool) (q : Int32) (u : zU) : Prop := u.1 = zTR ∧ (∀ k, k ≠ 28 → u.2.1 k = ad k) ∧
  ((n = 0 ∨ (l = true ∧ D = 0)) → u.2.2.2 0 50 = 1 ∧ zIR u.2.2.2 u.2.2.1 len ty st bg n rc re D ran rg ce) ∧
  (¬ (n = 0 ∨ (l = true ∧ D = 0)) → u.2.2.2 0 50 = 0 ∧ (l = true → q = nI (zLst n rc st D) ∧ zIR u.2.2.2 u.2.2.1 len ty st bg n rc re D true (zRgL n rc st D bg) (zLdW n rc st D bg).2.2) ∧ (l = false → q = nI (st 8 * n) ∧ zIR u.2.2.2 u.2.2.1 len ty st bg n rc re D true (zDoR rc n (st 8) (bg, zCe0)).1 (zDoR rc n (st 8) (bg, zCe0)).2))
theorem r_run (h : zIR al ln len ty st bg n rc re D ran rg ce) (l : Bool) : zMgi G yX11_run wsX11_run rmX11_run (zTR, ad, ln, al) [.ref (ad 0), .int (zb l)] (zRunP ad len ty st bg n rc re D ran rg ce l) := by
  refine zMgi.of (cc := cX11_run) (nL := 2) (rt := .int) (by decide) rfl (Nat.le_of_ble_eq_true rfl) (fun Z X hR => ?_)
  show zB G Z rmX11_run 2 zTR ad ln 0 0 0 [(0, .ref (ad 0)), (1, .int (zb l))] [] al
  have h46 : al 0 46 = (if n = 0 then 0 else 1) := h.2.2.2.2.2.1
  have h33 : al 0 33 = nI D := h.2.2.2.2.2.2.2.1
  have hD : D ≤ 200 := by
    rcases h.2.2.2.2.2.2.2.2.1 with e | ⟨n0, e, -⟩
    · omega
    · by_cases d : D = 0
      · omega
      · have := (zLy_ok (us := zUsC n rc) (h.gd ln (by omega)) (by rw [← e]; exact d)).1
        omega
  refine zb_aload_n X dX11_run_0 rfl 0 rfl ?_
  refine zb_iconst X (0 : Int32) dX11_run_1 (by decide) ?_
  refine zb_putI X 0 (by decide) 11 cdX11 rfl (C := RX11) (Tt := TX11) (N := 51) rfl kX11_run_1 tyX11 tyX11_ok nmX11 50 (by decide) rfl kX11_run_0 rfl rfl rfl rfl dX11_run_2 ?_
  refine zb_aload_n X dX11_run_5 rfl 0 rfl ?_
  refine zb_getI X 0 (by decide) 11 cdX11 rfl (C := RX11) (Tt := TX11) (N := 51) rfl kX11_run_1 46 (by decide) rfl kX11_run_2 rfl dX11_run_6 (if n = 0 then 0 else 1) (by rw [up2_ne _ _ (by decide)]; exact h46) ?_
  have ir := h.u50 ln 0
  -- refused
  have no : (n = 0 ∨ (l = true ∧ D = 0)) → zB G Z rmX11_run 2 zTR ad ln 0 0 23 [(0, .ref (ad 0)), (1, .int (zb l))] [] (up2 al 0 50 0) := by
    intro hb
    refine zb_widen (kc' := 1) (ks' := 128) (by omega) (by omega) ?_
    refine zb_aload_n X dX11_run_23 rfl 0 rfl ?_
    refine zb_iconst X (1 : Int32) dX11_run_24 (by decide) ?_
    refine zb_callVi (n := 1) X 0 (by decide) 11 cdX11 rfl (C := RX11) (Tt := TX11) (N := 51) rfl (r_no G ad ln _ 1) gX11_run_X11_no rfl (by decide +kernel) (by decide) rfl rfl (Nat.le_of_ble_eq_true rfl) dX11_run_25 (kc' := 1) (ks' := 128) rfl rfl (fun q a hq => ?_)
    obtain ⟨rfl, rfl⟩ := hq
    exact hR zTR ad ln 28 _ _ _ dX11_run_28 rfl ⟨rfl, fun _ _ => rfl, fun _ => ⟨up2_self (up2 al 0 50 0) 0 50 1, ir.u50 ln 1⟩, fun z => absurd hb z⟩
  have yes : n ≠ 0 → (l = true → D ≠ 0) → zB G Z rmX11_run 2 zTR ad ln 0 0 29 [(0, .ref (ad 0)), (1, .int (zb l))] [] (up2 al 0 50 0) := by
    intro n0 hl
    have ok : ¬ (n = 0 ∨ (l = true ∧ D = 0)) := fun z => z.elim n0 (fun z => hl z.1 z.2)
    refine zb_aload_n X dX11_run_29 rfl 0 rfl ?_
    refine zb_iconst X (1 : Int32) dX11_run_30 (by decide) ?_
    refine zb_putI X 0 (by decide) 11 cdX11 rfl (C := RX11) (Tt := TX11) (N := 51) rfl kX11_run_1 tyX11 tyX11_ok nmX11 47 (by decide) rfl kX11_run_4 rfl rfl rfl rfl dX11_run_31 ?_
    refine zb_iload_n X dX11_run_34 rfl 1 rfl ?_
    have f1 : zFr [0] al (up2 (up2 al 0 50 0) 0 47 1) := (zFr.rf.up (by decide) _ _).up (by decide) _ _
    have e0 : ∀ j, j ≠ 47 → j ≠ 50 → up2 (up2 al 0 50 0) 0 47 1 0 j = al 0 j := fun j j1 j2 => by rw [up2_ne _ _ (fun z => j1 z.2), up2_ne _ _ (fun z => j2 z.2)]
    have rr : zRr (up2 (up2 al 0 50 0) 0 47 1) n rc := h.2.2.2.1.fr f1 (e0 9 (by omega) (by omega)) (by decide)
    have rs : zRst (up2 (up2 al 0 50 0) 0 47 1) st := h.2.1.fr (f1 11 (by decide)) (fun j _ _ => e0 j (by omega) (by omega))
    have e47 : up2 (up2 al 0 50 0) 0 47 1 0 47 = 1 := up2_self _ _ _ _
    have e50 : up2 (up2 al 0 50 0) 0 47 1 0 50 = 0 := by rw [up2_ne _ _ (by decide), up2_self]
    generalize hA : up2 (up2 al 0 50 0) 0 47 1 = a1 at f1 e0 rr rs e47 e50
    have hb24 : ∀ i, i < 32 → a1 24 i = bg i := fun i hi => by rw [f1 24 (by decide)]; exact h.2.2.1 i hi
    refine zb_if_eq X 45 dX11_run_35 (by decide) (fun c1 => ?_) (fun c1 => ?_)
    · -- as written
      have lf : l = false := by
        cases l with
        | false => rfl
        | true => exact absurd c1 (by decide)
      refine zb_widen (kc' := 1) (ks' := 128) (by omega) (by omega) ?_
      refine zb_aload_n X dX11_run_45 rfl 0 rfl ?_
      refine zb_callVi (n := 0) X 0 (by decide) 11 cdX11 rfl (C := RX11) (Tt := TX11) (N := 51) rfl (r_runWritten G ad ln a1 rr rs hb24) gX11_run_X11_runWritten rfl (by decide +kernel) (by decide) rfl rfl (Nat.le_of_ble_eq_true rfl) dX11_run_46 (kc' := 1) (ks' := 128) rfl rfl (fun q a hq => ?_)
      obtain ⟨rfl, f2, hc⟩ := hq
      refine hR zTR ad ln 49 _ _ _ dX11_run_49 rfl ⟨rfl, fun _ _ => rfl, fun z => absurd z ok, fun _ => ⟨?_, fun z => ?_, fun _ => ⟨rfl, ?_⟩⟩⟩
      · show a 0 50 = 0
        rw [f2 0 (by decide)]
        exact e50
      · rw [lf] at z
        cases z
      · refine h.run ln (a' := a) (ln' := ln) ((f1.mono (by decide)).tr (f2.mono (by decide))) (fun j j1 j2 => ?_) ?_ hc h.2.2.2.2.2.2.2.2.2.2.2
        · rw [f2 0 (by decide)]
          exact e0 j j1 j2
        · rw [f2 0 (by decide)]
          exact e47
    · -- as laid
      have lt : l = true := by
        cases l with
        | false => exact absurd rfl c1
        | true => rfl
      have d := hl lt
      obtain ⟨-, eD, hrl⟩ := h.2.2.2.2.2.2.2.2.1.resolve_left d
      have gd := h.gd ln n0
      obtain ⟨l1, l2, l3⟩ := zLy_ok (us := zUsC n rc) gd (by rw [← eD]; exact d)
      rw [← eD] at l1 l2 l3
      obtain ⟨cy1, cy2, cy3, cy4, cy5⟩ := zCy_ok gd l1 l3 l2.1
      obtain ⟨k1, k2, k3, k4, sz, off, k5, k6, k7, k8⟩ := hrl
      obtain ⟨o1, o2⟩ := lF_ok k5
      have ld : zLdR a1 (fun _ => 128) n D sz rc st (zCy n rc st D) (lB n rc st (zUsC n rc) D) off bg := by
        refine ⟨rr, rs, h.2.2.2.2.1, ⟨?_, l1⟩, ⟨?_, o1.1, o1.2, o1.2, by decide⟩, fun x hx => ⟨?_, cy2 x hx⟩, fun x hx => ⟨?_, (o2 x hx).1, (o2 x hx).2, fun hb => lB_is hb⟩, hb24⟩
        · rw [e0 33 (by omega) (by omega)]
          exact h33
        · rw [e0 41 (by omega) (by omega)]
          exact k7
        · rw [f1 17 (by decide)]
          exact (k3 x hx).1
        · rw [f1 22 (by decide)]
          exact k8 x hx
      obtain ⟨ls1, ls2⟩ := zLst_is gd l1 l3 l2.1
      refine zb_aload_n X dX11_run_38 rfl 0 rfl ?_
      refine zb_callVgi (n := 0) X 0 (by decide) 11 cdX11 rfl (C := RX11) (Tt := TX11) (N := 51) rfl (r_runLaid G ad ln a1 ld h.2.2.2.2.2.2.2.2.2.2.2 (zNC_ok gd l1.1 cy4) ls1 ls2) gX11_run_X11_runLaid rfl (by decide +kernel) (by decide) rfl rfl (Nat.le_of_ble_eq_true rfl) dX11_run_39 (kc' := 1) (ks' := 128) rfl rfl (fun q u hq => ?_)
      obtain ⟨T', ad', ln', a2⟩ := u
      obtain ⟨rfl, eT, ead, eln, f2, g0, P0, hc, hg⟩ := hq
      have eT' : T' = zTR := eT
      subst eT'
      refine zb_goto X 49 dX11_run_42 (by decide) ?_
      obtain ⟨w1, w2⟩ := zLdW_eq (bg := bg) gd h.2.2.2.2.1 l1 l3 l2.1 k5 g0 P0
      have f2' : zFr zLR a1 a2 := f2
      refine hR zTR ad' ln' 49 _ _ _ dX11_run_49 rfl ⟨rfl, ead, fun z => absurd z ok, fun _ => ⟨?_, fun _ => ⟨rfl, ?_⟩, fun z => ?_⟩⟩
      · show a2 0 50 = 0
        rw [f2' 0 (by decide)]
        exact e50
      · refine h.run ln (a' := a2) (ln' := ln') ((f1.mono (by decide)).tr (f2'.mono (fun k hk => List.mem_cons_of_mem _ hk))) (fun j j1 j2 => ?_) ?_ ⟨fun i hi => ?_, fun q i hq hi => ?_⟩ eln
        · rw [f2' 0 (by decide)]
          exact e0 j j1 j2
        · rw [f2' 0 (by decide)]
          exact e47
        · have := hg i hi
          rw [w2 i] at this
          exact this
        · have := hc q i hq hi
          rw [w1] at this
          exact this
      · rw [lt] at z
        cases z
  refine zb_if_eq X 23 dX11_run_9 (by decide) (fun c1 => ?_) (fun c1 => ?_)
  · refine no (Or.inl (Decidable.byContradiction (fun n0 => ?_)))
    rw [if_neg n0] at c1
    exact absurd c1 (by decide)
  · have n0 : n ≠ 0 := fun n0 => c1 (if_pos n0)
    refine zb_iload_n X dX11_run_12 rfl 1 rfl ?_
    refine zb_if_eq X 29 dX11_run_13 (by decide) (fun c2 => ?_) (fun c2 => ?_)
    · refine yes n0 (fun z => ?_)
      rw [z] at c2
      exact absurd c2 (by decide)
    · have lt : l = true := by
        cases l with
        | false => exact absurd rfl c2
        | true => rfl
      refine zb_aload_n X dX11_run_16 rfl 0 rfl ?_
      refine zb_getI X 0 (by decide) 11 cdX11 rfl (C := RX11) (Tt := TX11) (N := 51) rfl kX11_run_1 33 (by decide) rfl kX11_run_3 rfl dX11_run_17 (nI D) (by rw [up2_ne _ _ (by decide)]; exact h33) ?_
      refine zb_if_ne X 29 dX11_run_20 (by decide) (fun c3 => ?_) (fun c3 => ?_)
      · refine yes n0 (fun _ z => c3 ?_)
        rw [z]
        rfl
      · rw [show (0 : Int32) = nI 0 from rfl, nI_eq (by omega) (by omega)] at c3
        exact no (Or.inr ⟨lt, c3⟩)
end RUNR
