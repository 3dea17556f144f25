/-! Arrays.copyOf: over a world of the one array; then as a row of any world -/
def zMgr (G : zG) (y : MethodName) (ws : List Cond) (rm : Room) (u : zU) (As : List Value) (post : Nat → zU → Prop) : Prop := ∀ sz : Nat, Met G.1 y ws rm (va_Pc As (zPre G u.1 u.2.1 u.2.2.1 u.2.2.2 sz)) (va_Qr (fun w : Nat × zU => post w.1 w.2) (fun w a t => a = w.2.2.1 w.1 ∧ zAtU G (va_A (zWU G.2.2 u) sz) w.2 t) (va_A (zWU G.2.2 u) sz)) rm.cells rm.slots (va_A (zWU G.2.2 u) sz)
/-- a reference is left: at any areturn -/
def zRr2 (G : zG) (Z : zC) (rm : Room) (nL : Nat) (cc : ByteArray) (post : Nat → zU → Prop) : Prop := ∀ (T : zT) (ad ln : Nat → Nat) (pc : Nat) (lv : List (Nat × Value)) (k : Nat) (al : Nat → Nat → Int32), decode cc pc = .ok (.areturn, 1) → post k (T, ad, ln, al) → zB G Z rm nL T ad ln rm.cells rm.slots pc lv [.ref (ad k)] al
theorem zMgr.of {G : zG} {y : MethodName} {ws ws' : List Cond} {rm : Room} {T : zT} {ad ln : Nat → Nat} {al : Nat → Nat → Int32} {As : List Value} {post : Nat → zU → Prop} {cc : ByteArray} {nL : Nat} {rt : FieldType} (hy : plainName y.cls = true) (hw : ws = .code y cc nL (some (.array rt)) :: ws') (hlen : (lg_sl As).length ≤ nL)
    (body : ∀ Z : zC, zX G Z cc nL y.cls ws → zRr2 G Z rm nL cc post → zB G Z rm nL T ad ln 0 0 0 (lv_args 0 As) [] al) : zMgr G y ws rm (T, ad, ln, al) As post := by
  show ∀ sz : Nat, Met G.1 y ws rm (va_Pc As (zPre G T ad ln al sz)) (va_Qr (fun w : Nat × zU => post w.1 w.2) (fun w a t => a = w.2.2.1 w.1 ∧ zAtU G (va_A (zW G.2.2 T ad al ln) sz) w.2 t) (va_A (zW G.2.2 T ad al ln) sz)) rm.cells rm.slots (va_A (zW G.2.2 T ad al ln) sz)
  intro sz
  refine Met.ofW (cc := cc) (maxL := nL) (ret := some (.array rt)) hy hw ?_
  intro p e s m args below meth c s₁ B hml hv
  obtain ⟨rfl, hsz, hP, hK, hD0, hE⟩ := hv
  have hts := atoms_spec (ws := ws) B.pre
  subst hsz
  have hD := hD0.self (sz := s.heap.size)
  generalize hAe : va_A (zW G.2.2 T ad al ln) s.heap.size = A at hD hE ⊢
  have hA : ∀ q : Nat, s.heap.size ≤ q → A q := fun q h => by rw [← hAe]; exact Or.inr h
  have hl := lv_entry As hlen
  rw [lg_entry_eq]
  obtain ⟨l, D, cy⟩ := G
  refine body (p, e, s, m, As.toArray, below, meth, c, A, MQ below (va_Qr (fun w : Nat × zU => post w.1 w.2) (fun w a t => a = w.2.2.1 w.1 ∧ zAtU (l, D, cy) A w.2 t) A) As.toArray s rm.cells rm.slots A) ⟨⟨B.exec, B.bytes, hml, findClass_of_methodNamed B.named, hts⟩, hK, hA, hE, B.notSynchronized⟩ ?_ s.heap [] _ hP hD va_S.rf hl
  intro T' ad' ln' pc lv k al' d hp H locs ls hP hD hS hl
  exact W.aret (v := .ref (ad' k)) (rt := .array rt) B.exec B.bytes B.returns (Or.inr ⟨_, rfl⟩) (Or.inr ⟨_, rfl⟩) (fun t ht hW => ⟨⟨(k, (T', ad', ln', al')), ad' k, rfl, hp, rfl, by rw [ht]; exact hP, va_K.moved hW.alike hK, hD⟩, hS.F ht⟩) hS.2.2 d B.notSynchronized
def zT0 : zT := (1, fun _ => .inr (2, 0, 0, 0))
def zT1 : zT := (2, fun _ => .inr (2, 0, 0, 0))
def zA1 (a0 q : Nat) : Nat → Nat := fun k => if k = 0 then a0 else q
def zL1 (f g : Nat → Int32) : Nat → Nat → Int32 := fun k => if k = 0 then f else g
theorem zW_0 (cy : Nat → ClassId) (ad : Nat → Nat) (al : Nat → Nat → Int32) (ln : Nat → Nat) : zW cy zT0 ad al ln = [(ad 0, .inl (cy 1, ln 0, .inl (al 0)))] := rfl
theorem zW_1 (cy : Nat → ClassId) (ad : Nat → Nat) (al : Nat → Nat → Int32) (ln : Nat → Nat) : zW cy zT1 ad al ln = [(ad 0, .inl (cy 1, ln 0, .inl (al 0))), (ad 1, .inl (cy 1, ln 1, .inl (al 1)))] := rfl
abbrev rmJ7_copyOf_59c91 (N : Nat) : Room := { frames := 1, cells := 1, slots := N, locals := 40 }
theorem kJ7_co_0 : Cond.arrayClass .int ∈ wsJ7_copyOf_59c91 := by decide +kernel
theorem kJ7_co_1 : Cond.methodLink RJ7 304 Lib.Math.min.name ∈ wsJ7_copyOf_59c91 := by decide +kernel
theorem kJ7_co_2 : Cond.static Lib.Math.min.name ∈ wsJ7_copyOf_59c91 := by decide +kernel
theorem kJ7_co_3 : Cond.initialized "java/lang/Math" ∈ wsJ7_copyOf_59c91 := by decide +kernel
theorem kJ7_co_4 : Cond.code Lib.Math.min.name Lib.Math.min.code 2 (some .int) ∈ wsJ7_copyOf_59c91 := by decide +kernel
theorem kJ7_co_5 : Cond.methodLink RJ7 150 arraycopyName ∈ wsJ7_copyOf_59c91 := by decide +kernel
theorem kJ7_co_6 : Cond.native arraycopyName ∈ wsJ7_copyOf_59c91 := by decide +kernel
theorem kJ7_co_7 : Cond.static arraycopyName ∈ wsJ7_copyOf_59c91 := by decide +kernel
theorem kJ7_co_8 : Cond.initialized "java/lang/System" ∈ wsJ7_copyOf_59c91 := by decide +kernel
theorem j_copyOf (G : zG) (ad ln : Nat → Nat) (al : Nat → Nat → Int32) {N : Nat} (h0 : ln 0 < N) (hN : N ≤ 100000) : zMgr G yJ7_copyOf_59c91 wsJ7_copyOf_59c91 (rmJ7_copyOf_59c91 N) (zT0, ad, ln, al) [.ref (ad 0), .int (nI N)] (fun k u => k = 1 ∧ u.1 = zT1 ∧ u.2.1 0 = ad 0 ∧ u.2.2.1 0 = ln 0 ∧ u.2.2.1 1 = N ∧ u.2.2.2 0 = al 0 ∧ u.2.2.2 1 = fun j => if j < ln 0 then al 0 j else 0) := by
  refine zMgr.of (cc := cJ7_copyOf_59c91) (nL := 3) (rt := .int) (by decide) rfl (Nat.le_of_ble_eq_true rfl) (fun Z X hR => ?_)
  show zB G Z (rmJ7_copyOf_59c91 N) 3 zT0 ad ln 0 0 0 [(0, .ref (ad 0)), (1, .int (nI N))] [] al
  refine zb_iload_n X dJ7_copyOf_59c91_0 rfl 1 rfl ?_
  refine zb_aload_n X dJ7_copyOf_59c91_1 rfl 0 rfl ?_
  refine zb_alen X 0 (by decide) 2 0 0 0 rfl (Or.inr rfl) dJ7_copyOf_59c91_2 ?_
  refine zb_icmp_ne X 14 dJ7_copyOf_59c91_3 (by decide) (fun c1 => ?_) (fun c1 => ?_)
  · refine zb_iload_n X dJ7_copyOf_59c91_14 rfl 1 rfl ?_
    refine zb_newa X kJ7_co_0 (N := N) ⟨nI_clamp (by omega), ?_⟩ (by omega) ⟨by show 0 + 1 ≤ 1; omega, by show 0 + N ≤ N; omega⟩ dJ7_copyOf_59c91_15 (fun q => ?_)
    · rw [show (0 : Int32) = nI 0 from rfl, nI_ltI (by omega) (by omega)]
      omega
    -- the two arrays as a world
    have go : zB G Z (rmJ7_copyOf_59c91 N) 3 zT1 (zA1 (ad 0) q) (zA1 (ln 0) N) (0 + 1) (0 + N) 17 [(0, .ref (zA1 (ad 0) q 0)), (1, .int (nI N))] [.ref (zA1 (ad 0) q 1)] (zL1 (al 0) (fun _ => 0)) := by
      refine zb_astore_n X (lv' := [(2, .ref (zA1 (ad 0) q 1)), (0, .ref (zA1 (ad 0) q 0)), (1, .int (nI N))]) dJ7_copyOf_59c91_17 rfl (by decide) rfl ?_
      refine zb_aload_n X dJ7_copyOf_59c91_18 rfl 1 rfl ?_
      refine zb_iconst X (0 : Int32) dJ7_copyOf_59c91_19 (by decide) ?_
      refine zb_aload_n X dJ7_copyOf_59c91_20 rfl 0 rfl ?_
      refine zb_iconst X (0 : Int32) dJ7_copyOf_59c91_21 (by decide) ?_
      refine zb_aload_n X dJ7_copyOf_59c91_22 rfl 1 rfl ?_
      refine zb_alen X 0 (by decide) 2 0 0 0 rfl (Or.inr rfl) dJ7_copyOf_59c91_23 ?_
      refine zb_iload_n X dJ7_copyOf_59c91_24 rfl 2 rfl ?_
      refine zb_mmin X kJ7_co_1 kJ7_co_2 kJ7_co_3 kJ7_co_4 ⟨⟨Nat.le_of_ble_eq_true rfl, Nat.le_of_ble_eq_true rfl⟩, by show 0 + 1 ≤ 1; omega, by show 0 + N ≤ N; omega⟩ dJ7_copyOf_59c91_25 ?_
      have e1 : (if nI N < nI (zLen (zA1 (ln 0) N) 0 (.inr (2, 0, 0, 0))) then nI N else nI (zLen (zA1 (ln 0) N) 0 (.inr (2, 0, 0, 0)))) = nI (ln 0) := by
        show (if nI N < nI (ln 0) then nI N else nI (ln 0)) = nI (ln 0)
        rw [if_neg (by rw [nI_ltI (by omega) (by omega)]; omega)]
      rw [e1]
      refine zb_acopy X 0 (by decide) 2 0 0 0 rfl (Or.inr rfl) 1 (by decide) 2 0 0 0 rfl (Or.inr rfl) ⟨rfl, rfl⟩ (ln 0) ⟨nI_clamp (by omega), ?_⟩ (Nat.le_refl _) (by show ln 0 ≤ N; omega) kJ7_co_5 kJ7_co_6 kJ7_co_7 kJ7_co_8 ⟨Nat.le_of_ble_eq_true rfl, Nat.le_of_ble_eq_true rfl⟩ dJ7_copyOf_59c91_28 ?_
      · rw [show (0 : Int32) = nI 0 from rfl, nI_ltI (by omega) (by omega)]
        omega
      refine zb_aload_n X dJ7_copyOf_59c91_31 rfl 0 rfl ?_
      refine zb_widen (kc' := 1) (ks' := N) (by omega) (by omega) ?_
      refine hR zT1 (zA1 (ad 0) q) (zA1 (ln 0) N) 32 _ 1 _ dJ7_copyOf_59c91_32 ⟨rfl, rfl, rfl, rfl, rfl, ?_, ?_⟩
      · show upA (zL1 (al 0) (fun _ => 0)) 1 (ln 0) (zL1 (al 0) (fun _ => 0) 0) 0 = al 0
        rw [upA_name _ _ _ (by decide)]
        rfl
      · show upA (zL1 (al 0) (fun _ => 0)) 1 (ln 0) (zL1 (al 0) (fun _ => 0) 0) 1 = _
        funext j
        unfold upA
        by_cases q2 : j < ln 0
        · rw [if_pos ⟨rfl, q2⟩, if_pos q2]
          rfl
        · rw [if_neg (fun z => q2 z.2), if_neg q2]
          rfl
    obtain ⟨l, D, cy⟩ := G
    obtain ⟨p, e, s, m, args, below, meth, c, A, Q⟩ := Z
    exact go
  · exfalso
    have : nI N = nI (ln 0) := c1
    rw [nI_eq (by omega) (by omega)] at this
    omega
section ZCO
variable {G : zG} {Z : zC} {rm : Room} {nL : Nat} {T : zT} {ad ln : Nat → Nat} {kc ks pc : Nat} {lv : List (Nat × Value)} {st : List Value} {al : Nat → Nat → Int32} {cc : ByteArray} {own : String} {Ts : List Cond} {index : Nat}
theorem zb_copyOf (X : zX G Z cc nL own Ts) (k : Nat) (hk : k < T.1) {a b c0 : Nat} (hd : T.2 k = .inr (2, a, b, c0)) {N : Nat} (h0 : ln k < N) (hN : N ≤ 100000) (hg : GoodIn Ts (va_wsS own index yJ7_copyOf_59c91 wsJ7_copyOf_59c91)) (hR : (2 ≤ rm.frames ∧ 62 ≤ rm.locals) ∧ kc + 1 ≤ rm.cells ∧ ks + N ≤ rm.slots) (hW8 : 2 * 0 + (st.map fun v => v.category).sum ≤ 8) (d : decode cc pc = .ok (.invokestatic index, 3)) (kk : ∀ q, zBq G Z rm nL T ad ln (kc + 1) (ks + N) (pc + 3) lv (.ref q :: st) al q N (fun j => if j < ln k then al k j else 0)) : zB G Z rm nL T ad ln kc ks pc lv (.int (nI N) :: .ref (ad k) :: st) al := by
  obtain ⟨l, D, cy⟩ := G
  obtain ⟨p, e, s, m, args, below, meth, c, A, Q⟩ := Z
  obtain ⟨⟨hx, hb, hml, hown, hts⟩, hK, hA, hE, hlk⟩ := X
  intro H locs ls hP hD hS hl
  have he := zW_get (cy := cy) (ad := ad) (al := al) (ln := ln) hk
  rw [hd] at he
  have he' : (zW cy T ad al ln)[k]? = some (ad k, .inl (cy 1, ln k, .inl (al k))) := he
  have M := j_copyOf (l, D, cy) (fun _ => ad k) (fun _ => ln k) (fun _ => al k) h0 hN H.size
  have w0 : zWU cy (zT0, (fun _ => ad k), (fun _ => ln k), (fun _ => al k)) = [(ad k, .inl (cy 1, ln k, .inl (al k)))] := rfl
  have hFc : ∀ q, va_A [(ad k, (.inl (cy 1, ln k, .inl (al k)) : va_E))] H.size q → A q := fun q h => h.elim (fun ⟨i, e, h⟩ => by
      have : q = ad k := by
        match i, h with
        | 0, h => simp at h; exact h.1.symm
        | i + 1, h => simp at h
      rw [this]
      exact hD.2 k _ he') (fun h => hA q (Nat.le_trans hS.1 h))
  have hpre : ∀ U : State, U.heap = H → s.WarmedH U.vm → va_Pc [.ref (ad k), .int (nI N)] (zPre (l, D, cy) zT0 (fun _ => ad k) (fun _ => ln k) (fun _ => al k) H.size) [.ref (ad k), .int (nI N)].toArray U := fun U hU hW => by
    refine ⟨rfl, by rw [hU], ?_, va_K.moved hW.alike hK, ?_, hE.go hW hS hFc hU⟩
    · rw [hU]
      show va_P D vwCl [(ad k, .inl (cy 1, ln k, .inl (al k)))] H
      intro i x hi
      match i, hi with
      | 0, hi => simp at hi; rw [← hi]; exact hP k _ he'
      | i + 1, hi => simp at hi
    · show va_D (fun _ => True) [(ad k, .inl (cy 1, ln k, .inl (al k)))]
      refine ⟨fun i j p q hi hj _ => ?_, fun _ _ _ => trivial⟩
      have h1 := (List.getElem?_eq_some_iff.mp hi).1
      have h2 := (List.getElem?_eq_some_iff.mp hj).1
      simp at h1 h2
      omega
  refine va_callr (va_runS (As := [.ref (ad k), .int (nI N)]) (rest := st) ⟨hx, hb, hml, hown, hts⟩ M (va_cwS 2 hts hg rfl rfl rfl (by decide +kernel) ⟨hR.1.1, by show 8 + (3 + 11) + 40 ≤ rm.locals; omega⟩) ⟨zPre.blind, hpre⟩ rfl rfl hl.1 rfl hW8 d hR.2) hS (fun q _ h => hFc q h) hFc (fun w ra t H1 locs1 ht hvm hp hB hz hk1 hS1 => ?_)
  obtain ⟨k', T', ad', ln', al'⟩ := w
  obtain ⟨rfl, rfl, p3, p4, p5, p6, p7⟩ := hp
  obtain ⟨era, hP1, hK1, hD1⟩ := hB
  have era' : ra = ad' 1 := era
  subst era'
  rw [ht] at hP1
  have p3' : ad' 0 = ad k := p3
  have p4' : ln' 0 = ln k := p4
  have p5' : ln' 1 = N := p5
  have p6' : al' 0 = al k := p6
  have p7' : al' 1 = fun j => if j < ln k then al k j else 0 := p7
  have hP2 : va_P D vwCl [(ad k, .inl (cy 1, ln k, .inl (al k))), (ad' 1, .inl (cy 1, N, .inl (fun j => if j < ln k then al k j else 0)))] H1 := by
    have : va_P D vwCl (zW cy zT1 ad' al' ln') H1 := hP1
    rw [zW_1, p3', p4', p5', p6', p7'] at this
    exact this
  have hD2 : va_D (va_A [(ad k, (.inl (cy 1, ln k, .inl (al k)) : va_E))] H.size) [(ad k, .inl (cy 1, ln k, .inl (al k))), (ad' 1, .inl (cy 1, N, .inl (fun j => if j < ln k then al k j else 0)))] := by
    have : va_D (va_A [(ad k, (.inl (cy 1, ln k, .inl (al k)) : va_E))] H.size) (zW cy zT1 ad' al' ln') := hD1
    rw [zW_1, p3', p4', p5', p6', p7'] at this
    exact this
  have hq : H.size ≤ ad' 1 := by
    rcases hD2.2 1 _ rfl with ⟨i, e, h⟩ | h
    · exfalso
      have h1 : ad' 1 = ad k := by
        match i, h with
        | 0, h => simp at h; exact h.1.symm
        | i + 1, h => simp at h
      have := hD2.1 0 1 _ _ rfl rfl h1.symm
      omega
    · exact h
  refine kk (ad' 1) H1 locs1 ls ?_ ?_ hS1 hl
  · intro i x hi
    by_cases hlt : i < T.1
    · rw [List.getElem?_append_left (by rw [zW_len]; exact hlt)] at hi
      by_cases e1 : i = k
      · subst e1
        rw [he'] at hi
        rw [← Option.some.inj hi]
        exact hP2 0 _ rfl
      · refine (hP i x hi).kept (hk1 x.1 ((hP i x hi).lt) (fun z => ?_))
        have z : va_A [(ad k, (.inl (cy 1, ln k, .inl (al k)) : va_E))] H.size x.1 := z
        rcases z with ⟨i', e, h⟩ | h
        · have h1 : x.1 = ad k := by
            match i', h with
            | 0, h => simp at h; exact h.1.symm
            | i' + 1, h => simp at h
          exact e1 (hD.1 i k x _ hi he' h1)
        · have := (hP i x hi).lt
          omega
    · rw [List.getElem?_append_right (by rw [zW_len]; omega), zW_len] at hi
      have h1 := (List.getElem?_eq_some_iff.mp hi).1
      simp at h1
      rw [show i - T.1 = 0 by omega] at hi
      simp at hi
      rw [← hi]
      exact hP2 1 _ rfl
  · refine ⟨fun i j x y hi hj hxy => ?_, fun i x hi => ?_⟩
    · have sp : ∀ (i : Nat) (x : Nat × va_E), (zW cy T ad al ln ++ [(ad' 1, (.inl (cy 1, N, .inl (fun j => if j < ln k then al k j else 0)) : va_E))])[i]? = some x → (i < T.1 ∧ (zW cy T ad al ln)[i]? = some x ∧ x.1 < H.size) ∨ (i = T.1 ∧ x.1 = ad' 1) := by
        intro i x hi
        by_cases hlt : i < T.1
        · rw [List.getElem?_append_left (by rw [zW_len]; exact hlt)] at hi
          exact Or.inl ⟨hlt, hi, (hP i x hi).lt⟩
        · rw [List.getElem?_append_right (by rw [zW_len]; omega), zW_len] at hi
          have h1 := (List.getElem?_eq_some_iff.mp hi).1
          simp at h1
          rw [show i - T.1 = 0 by omega] at hi
          simp at hi
          exact Or.inr ⟨by omega, by rw [← hi]⟩
      rcases sp i x hi with ⟨a1, a2, a3⟩ | ⟨a1, a2⟩ <;> rcases sp j y hj with ⟨b1, b2, b3⟩ | ⟨b1, b2⟩
      · exact hD.1 i j x y a2 b2 hxy
      · omega
      · omega
      · omega
    · by_cases hlt : i < T.1
      · rw [List.getElem?_append_left (by rw [zW_len]; exact hlt)] at hi
        exact hD.2 i x hi
      · rw [List.getElem?_append_right (by rw [zW_len]; omega), zW_len] at hi
        have h1 := (List.getElem?_eq_some_iff.mp hi).1
        simp at h1
        rw [show i - T.1 = 0 by omega] at hi
        simp at hi
        rw [← hi]
        exact hA _ (Nat.le_trans hS.1 hq)
end ZCO
