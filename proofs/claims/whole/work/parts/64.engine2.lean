/-! MY ENGINE, grown: a world may have other cells afterwards -/
abbrev zU : Type := zT × (Nat → Nat) × (Nat → Nat) × (Nat → Nat → Int32)
abbrev zWU (cy : Nat → ClassId) (u : zU) : va_W := zW cy u.1 u.2.1 u.2.2.2 u.2.2.1
def zAtU (G : zG) (A : Nat → Prop) (u : zU) : State → Prop := zAt G u.1 u.2.1 u.2.2.1 A u.2.2.2
def zMgi (G : zG) (y : MethodName) (ws : List Cond) (rm : Room) (u : zU) (As : List Value) (post : Int32 → zU → Prop) : Prop := ∀ sz : Nat, Met G.1 y ws rm (va_Pc As (zPre G u.1 u.2.1 u.2.2.1 u.2.2.2 sz)) (va_Qi post (zAtU G (va_A (zWU G.2.2 u) sz)) (va_A (zWU G.2.2 u) sz)) rm.cells rm.slots (va_A (zWU G.2.2 u) sz)
def zMgv (G : zG) (y : MethodName) (ws : List Cond) (rm : Room) (u : zU) (As : List Value) (post : zU → Prop) : Prop := ∀ sz : Nat, Met G.1 y ws rm (va_Pc As (zPre G u.1 u.2.1 u.2.2.1 u.2.2.2 sz)) (va_Qv post (zAtU G (va_A (zWU G.2.2 u) sz)) (va_A (zWU G.2.2 u) sz)) rm.cells rm.slots (va_A (zWU G.2.2 u) sz)
theorem zMgi.of {G : zG} {y : MethodName} {ws ws' : List Cond} {rm : Room} {T : zT} {ad ln : Nat → Nat} {al : Nat → Nat → Int32} {As : List Value} {post : Int32 → zU → Prop} {cc : ByteArray} {nL : Nat} {rt : FieldType} (hy : plainName y.cls = true) (hw : ws = .code y cc nL (some rt) :: ws') (hlen : (lg_sl As).length ≤ nL)
    (body : ∀ Z : zC, zX G Z cc nL y.cls ws → (∀ (T : zT) (ad ln : Nat → Nat), zRi G Z rm nL T ad ln cc rt (fun r a => post r (T, ad, ln, a))) → zB G Z rm nL T ad ln 0 0 0 (lv_args 0 As) [] al) : zMgi G y ws rm (T, ad, ln, al) As post := by
  show ∀ sz : Nat, Met G.1 y ws rm (va_Pc As (zPre G T ad ln al sz)) (va_Qi post (zAtU G (va_A (zW G.2.2 T ad al ln) sz)) (va_A (zW G.2.2 T ad al ln) sz)) rm.cells rm.slots (va_A (zW G.2.2 T ad al ln) sz)
  intro sz
  refine Met.ofW (cc := cc) (maxL := nL) (ret := some rt) hy hw ?_
  intro p e s m args below meth c s₁ B hml hv
  obtain ⟨rfl, hsz, hP, hK, hD0, hE⟩ := hv
  have hts := atoms_spec (ws := ws) B.pre
  subst hsz
  have hD := hD0.self (sz := s.heap.size)
  generalize hAe : va_A (zW G.2.2 T ad al ln) s.heap.size = A at hD hE ⊢
  have hA : ∀ q : Nat, s.heap.size ≤ q → A q := fun q h => by rw [← hAe]; exact Or.inr h
  have hl := lv_entry As hlen
  rw [lg_entry_eq]
  obtain ⟨l, D, cy⟩ := G
  refine body (p, e, s, m, As.toArray, below, meth, c, A, MQ below (va_Qi post (zAtU (l, D, cy) A) A) As.toArray s rm.cells rm.slots A) ⟨⟨B.exec, B.bytes, hml, findClass_of_methodNamed B.named, hts⟩, hK, hA, hE, B.notSynchronized⟩ ?_ s.heap [] _ hP hD va_S.rf hl
  intro T' ad' ln' pc lv x al' d ho hp H locs ls hP hD hS hl
  exact W.zret (v := x) (ty := rt) B.exec B.bytes B.returns ho (fun t ht hW => ⟨⟨x, (T', ad', ln', al'), rfl, hp, by rw [ht]; exact hP, va_K.moved hW.alike hK, hD⟩, hS.F ht⟩) hS.2.2 d B.notSynchronized
theorem zMgv.of {G : zG} {y : MethodName} {ws ws' : List Cond} {rm : Room} {T : zT} {ad ln : Nat → Nat} {al : Nat → Nat → Int32} {As : List Value} {post : zU → Prop} {cc : ByteArray} {nL : Nat} (hy : plainName y.cls = true) (hw : ws = .code y cc nL none :: ws') (hlen : (lg_sl As).length ≤ nL)
    (body : ∀ Z : zC, zX G Z cc nL y.cls ws → (∀ (T : zT) (ad ln : Nat → Nat), zRv G Z rm nL T ad ln cc (fun a => post (T, ad, ln, a))) → zB G Z rm nL T ad ln 0 0 0 (lv_args 0 As) [] al) : zMgv G y ws rm (T, ad, ln, al) As post := by
  show ∀ sz : Nat, Met G.1 y ws rm (va_Pc As (zPre G T ad ln al sz)) (va_Qv post (zAtU G (va_A (zW G.2.2 T ad al ln) sz)) (va_A (zW G.2.2 T ad al ln) sz)) rm.cells rm.slots (va_A (zW G.2.2 T ad al ln) sz)
  intro sz
  refine Met.ofW (cc := cc) (maxL := nL) (ret := none) hy hw ?_
  intro p e s m args below meth c s₁ B hml hv
  obtain ⟨rfl, hsz, hP, hK, hD0, hE⟩ := hv
  have hts := atoms_spec (ws := ws) B.pre
  subst hsz
  have hD := hD0.self (sz := s.heap.size)
  generalize hAe : va_A (zW G.2.2 T ad al ln) s.heap.size = A at hD hE ⊢
  have hA : ∀ q : Nat, s.heap.size ≤ q → A q := fun q h => by rw [← hAe]; exact Or.inr h
  have hl := lv_entry As hlen
  rw [lg_entry_eq]
  obtain ⟨l, D, cy⟩ := G
  refine body (p, e, s, m, As.toArray, below, meth, c, A, MQ below (va_Qv post (zAtU (l, D, cy) A) A) As.toArray s rm.cells rm.slots A) ⟨⟨B.exec, B.bytes, hml, findClass_of_methodNamed B.named, hts⟩, hK, hA, hE, B.notSynchronized⟩ ?_ s.heap [] _ hP hD va_S.rf hl
  intro T' ad' ln' pc lv al' d hp H locs ls hP hD hS hl
  exact W.vret B.exec B.bytes B.returns (fun t ht hW => ⟨⟨(T', ad', ln', al'), rfl, hp, by rw [ht]; exact hP, va_K.moved hW.alike hK, hD⟩, hS.F ht⟩) hS.2.2 d B.notSynchronized
theorem zMgi.mono {G : zG} {y : MethodName} {ws : List Cond} {rm : Room} {u : zU} {As : List Value} {post post' : Int32 → zU → Prop} (h : zMgi G y ws rm u As post) (hp : ∀ r u, post r u → post' r u) : zMgi G y ws rm u As post' := by
  intro sz p e ha hc hk s m args below hf happ hP hKK
  obtain ⟨n, o, h1, h2, h3, ⟨⟨⟨r, u, q1, q2, q3⟩, q4⟩, q5⟩⟩ := h sz p e ha hc hk s m args below hf happ hP hKK
  exact ⟨n, o, h1, h2, h3, ⟨⟨⟨r, u, q1, hp r u q2, q3⟩, q4⟩, q5⟩⟩
theorem zMgv.mono {G : zG} {y : MethodName} {ws : List Cond} {rm : Room} {u : zU} {As : List Value} {post post' : zU → Prop} (h : zMgv G y ws rm u As post) (hp : ∀ u, post u → post' u) : zMgv G y ws rm u As post' := by
  intro sz p e ha hc hk s m args below hf happ hP hKK
  obtain ⟨n, o, h1, h2, h3, ⟨⟨⟨u, q1, q2, q3⟩, q4⟩, q5⟩⟩ := h sz p e ha hc hk s m args below hf happ hP hKK
  exact ⟨n, o, h1, h2, h3, ⟨⟨⟨u, q1, hp u q2, q3⟩, q4⟩, q5⟩⟩
section ZG
variable {G : zG} {Z : zC} {rm rm' : Room} {nL : Nat} {T : zT} {ad ln : Nat → Nat} {kc ks pc : Nat} {lv : List (Nat × Value)} {st stk : List Value} {al : Nat → Nat → Int32} {cc : ByteArray} {own : String} {Ts ws ws' : List Cond} {y : MethodName} {bytes : ByteArray} {maxL n index : Nat} {ret : Option FieldType} {As : List Value}
theorem zb_widen {kc' ks' : Nat} (h1 : kc ≤ kc') (h2 : ks ≤ ks') (kk : zB G Z rm nL T ad ln kc' ks' pc lv st al) : zB G Z rm nL T ad ln kc ks pc lv st al := by
  obtain ⟨l, D, cy⟩ := G
  obtain ⟨p, e, s, m, args, below, meth, c, A, Q⟩ := Z
  intro H locs ls hP hD hS hl
  exact W.widen h1 h2 (kk H locs ls hP hD hS hl)
theorem zb_callVgi (X : zX G Z cc nL own Ts) (k : Nat) (hk : k < T.1) (ci : Nat) (codes : List Nat) (hd : T.2 k = .inl (ci, codes)) {C : String} {Tt : u_T} {N : Nat} (hc : vwCl[ci]? = some (C, Tt, N)) {post : Int32 → zU → Prop} (M : zMgi G y ws rm' (T, ad, ln, al) (.ref (ad k) :: As) post) (hg : GoodIn Ts (wsV own index C y ws)) (hw : ws = .code y bytes maxL ret :: ws') (hd2 : y.cls = C ∧ y.cls ≠ "java/lang/invoke/MethodHandle" ∧ y.cls ≠ "java/lang/invoke/VarHandle" ∧ (parseMethodDescriptor y.desc).map (fun d => d.parameters.length) = some n) (hR : zFit rm rm' maxL kc ks) (hn : As.length = n) (hst : stk = As.reverse ++ .ref (ad k) :: st) (hW8 : 2 * 0 + (st.map fun v => v.category).sum ≤ 8) (d : decode cc pc = .ok (.invokevirtual index, 3)) {kc' ks' : Nat} (hkc : kc + rm'.cells = kc') (hks : ks + rm'.slots = ks') (kk : ∀ (r : Int32) (u : zU), post r u → zB G Z rm nL u.1 u.2.1 u.2.2.1 kc' ks' (pc + 3) lv (.int r :: st) u.2.2.2) : zB G Z rm nL T ad ln kc ks pc lv stk al := by
  subst hst
  subst hkc
  subst hks
  obtain ⟨l, D, cy⟩ := G
  obtain ⟨p, e, s, m, args, below, meth, c, A, Q⟩ := Z
  obtain ⟨⟨hx, hb, hml, hown, hts⟩, hK, hA, hE, hlk⟩ := X
  intro H locs ls hP hD hS hl
  have he := zW_get (cy := cy) (ad := ad) (al := al) (ln := ln) hk
  rw [hd] at he
  have hFc : ∀ q, va_A (zW cy T ad al ln) H.size q → A q := fun q h => h.elim (fun ⟨k, e, h⟩ => hD.2 k (q, e) h) (fun h => hA q (Nat.le_trans hS.1 h))
  have hpre : ∀ U : State, U.heap = H → s.WarmedH U.vm → va_Pc (.ref (ad k) :: As) (zPre (l, D, cy) T ad ln al H.size) (.ref (ad k) :: As).toArray U := fun U hU hW => ⟨rfl, by rw [hU], by rw [hU]; exact hP, va_K.moved hW.alike hK, hD.weaken (fun _ _ _ _ => trivial), hE.go hW hS hFc hU⟩
  refine va_calli (va_runV (As := As) (rest := st) ⟨hx, hb, hml, hown, hts⟩ (M H.size) (cwV n hts hg hw rfl rfl hd2 hR.1) ⟨zPre.blind, va_recv hK hP hc he, hpre⟩ rfl hn hl.1 rfl hW8 d hR.2) hS (fun q _ h => hFc q h) hFc (fun r u t H1 locs1 ht hvm hp hB hz hk1 hS1 => ?_)
  obtain ⟨hP1, hK1, hD1⟩ := hB
  rw [ht] at hP1
  exact kk r u hp H1 locs1 ls hP1 (hD1.weaken (fun _ _ _ h => hFc _ h)) hS1 hl
theorem zb_callVgv (X : zX G Z cc nL own Ts) (k : Nat) (hk : k < T.1) (ci : Nat) (codes : List Nat) (hd : T.2 k = .inl (ci, codes)) {C : String} {Tt : u_T} {N : Nat} (hc : vwCl[ci]? = some (C, Tt, N)) {post : zU → Prop} (M : zMgv G y ws rm' (T, ad, ln, al) (.ref (ad k) :: As) post) (hg : GoodIn Ts (wsV own index C y ws)) (hw : ws = .code y bytes maxL ret :: ws') (hd2 : y.cls = C ∧ y.cls ≠ "java/lang/invoke/MethodHandle" ∧ y.cls ≠ "java/lang/invoke/VarHandle" ∧ (parseMethodDescriptor y.desc).map (fun d => d.parameters.length) = some n) (hR : zFit rm rm' maxL kc ks) (hn : As.length = n) (hst : stk = As.reverse ++ .ref (ad k) :: st) (hW8 : 2 * 0 + (st.map fun v => v.category).sum ≤ 8) (d : decode cc pc = .ok (.invokevirtual index, 3)) {kc' ks' : Nat} (hkc : kc + rm'.cells = kc') (hks : ks + rm'.slots = ks') (kk : ∀ (u : zU), post u → zB G Z rm nL u.1 u.2.1 u.2.2.1 kc' ks' (pc + 3) lv st u.2.2.2) : zB G Z rm nL T ad ln kc ks pc lv stk al := by
  subst hst
  subst hkc
  subst hks
  obtain ⟨l, D, cy⟩ := G
  obtain ⟨p, e, s, m, args, below, meth, c, A, Q⟩ := Z
  obtain ⟨⟨hx, hb, hml, hown, hts⟩, hK, hA, hE, hlk⟩ := X
  intro H locs ls hP hD hS hl
  have he := zW_get (cy := cy) (ad := ad) (al := al) (ln := ln) hk
  rw [hd] at he
  have hFc : ∀ q, va_A (zW cy T ad al ln) H.size q → A q := fun q h => h.elim (fun ⟨k, e, h⟩ => hD.2 k (q, e) h) (fun h => hA q (Nat.le_trans hS.1 h))
  have hpre : ∀ U : State, U.heap = H → s.WarmedH U.vm → va_Pc (.ref (ad k) :: As) (zPre (l, D, cy) T ad ln al H.size) (.ref (ad k) :: As).toArray U := fun U hU hW => ⟨rfl, by rw [hU], by rw [hU]; exact hP, va_K.moved hW.alike hK, hD.weaken (fun _ _ _ _ => trivial), hE.go hW hS hFc hU⟩
  refine va_callv (va_runV (As := As) (rest := st) ⟨hx, hb, hml, hown, hts⟩ (M H.size) (cwV n hts hg hw rfl rfl hd2 hR.1) ⟨zPre.blind, va_recv hK hP hc he, hpre⟩ rfl hn hl.1 rfl hW8 d hR.2) hS (fun q _ h => hFc q h) hFc (fun u t H1 locs1 ht hvm hp hB hz hk1 hS1 => ?_)
  obtain ⟨hP1, hK1, hD1⟩ := hB
  rw [ht] at hP1
  exact kk u hp H1 locs1 ls hP1 (hD1.weaken (fun _ _ _ h => hFc _ h)) hS1 hl
/-- .. and one new array of ints, q, that no cell of the world knows yet -/
def zBq (G : zG) (Z : zC) (rm : Room) (nL : Nat) (T : zT) (ad ln : Nat → Nat) (kc ks : Nat) (pc : Nat) (lv : List (Nat × Value)) (st : List Value) (al : Nat → Nat → Int32) (q N : Nat) (f : Nat → Int32) : Prop := match G, Z with
  | (l, D, cy), (p, e, s, m, args, below, meth, c, A, Q) => ∀ (H : Heap) (locs : List Loc) (ls : Array Slot), va_P D vwCl (zW cy T ad al ln ++ [(q, .inl (cy 1, N, .inl f))]) H → va_D A (zW cy T ad al ln ++ [(q, .inl (cy 1, N, .inl f))]) → va_S A s.heap H locs → lv_has ls nL lv → W p l e rm s m args below meth c H locs kc ks Q (F0 m pc ls st)
theorem zb_newa (X : zX G Z cc nL own Ts) (harr : Cond.arrayClass .int ∈ Ts) {i : Int32} {N : Nat} (hN : i.toNatClampNeg = N ∧ ¬ i < 0) (hby : N * 4 ≤ 536870912) (hr : kc + 1 ≤ rm.cells ∧ ks + N ≤ rm.slots) (d : decode cc pc = .ok (.newarray .int, 2)) (kk : ∀ q, zBq G Z rm nL T ad ln (kc + 1) (ks + N) (pc + 2) lv (.ref q :: st) al q N (fun _ => 0)) : zB G Z rm nL T ad ln kc ks pc lv (.int i :: st) al := by
  obtain ⟨l, D, cy⟩ := G
  obtain ⟨p, e, s, m, args, below, meth, c, A, Q⟩ := Z
  obtain ⟨⟨hx, hb, hml, hown, hts⟩, hK, hA, hE, hlk⟩ := X
  intro H locs ls hP hD hS hl
  refine va_newa (D := D) (atype := .int) (ty := .int) (a0 := (N, .inl (fun _ => 0))) hx hb (hts _ harr) rfl hK hP hD hS hA (fun cA => ?_) hN.2 hN.1 hby hr.1 hr.2 d (fun q cA H1 hK1 hP1 hD1 hS1 => ?_)
  · rfl
  · have e1 : s.vm.findClass ("[" ++ FieldType.int.toString) = some (cy 1) := (hK.2 1 _ rfl).2
    have e2 : s.vm.findClass ("[" ++ FieldType.int.toString) = some cA := (hK1.2 4 _ rfl).2
    have e3 : cA = cy 1 := Option.some.inj (e2.symm.trans e1)
    subst e3
    exact kk q H1 locs ls hP1 hD1 hS1 hl
def adU (ad : Nat → Nat) (k q : Nat) : Nat → Nat := fun x => if x = k then q else ad x
def alU (al : Nat → Nat → Int32) (k : Nat) (f : Nat → Int32) : Nat → Nat → Int32 := fun x => if x = k then f else al x
theorem adU_self (ad : Nat → Nat) (k q : Nat) : adU ad k q k = q := if_pos rfl
theorem adU_ne (ad : Nat → Nat) {k x : Nat} (q : Nat) (h : x ≠ k) : adU ad k q x = ad x := if_neg h
theorem alU_self (al : Nat → Nat → Int32) (k : Nat) (f : Nat → Int32) : alU al k f k = f := if_pos rfl
theorem alU_ne (al : Nat → Nat → Int32) {k x : Nat} (f : Nat → Int32) (h : x ≠ k) : alU al k f x = al x := if_neg h
/-- no cell but k (in its field j) speaks of kk -/
def zOnly (T : zT) (k j kk : Nat) : Prop := ∀ k', k' < T.1 → k' ≠ kk → match T.2 k' with
  | .inl o => ∀ i : Nat, o.2[i]? = some (kk + 2) → k' = k ∧ i = j
  | .inr (t, a, b, c) => t ≤ 2 ∨ ∀ i, b + c * i ≠ kk
theorem zF_adU (ad : Nat → Nat) (q kk : Nat) (f : Nat → Int32) : ∀ (l : List Nat) (b : Nat), (∀ i : Nat, l[i]? ≠ some (kk + 2)) → zF (adU ad kk q) f b l = zF ad f b l
  | [], b, _ => rfl
  | c :: t, b, h => by
    have h0 := h 0
    simp at h0
    show zV (adU ad kk q) (f b) c :: zF (adU ad kk q) f (b + 1) t = zV ad (f b) c :: zF ad f (b + 1) t
    rw [zF_adU ad q kk f t (b + 1) (fun i => by have := h (i + 1); simp at this; exact this)]
    congr 1
    match c, h0 with
    | 0, _ => rfl
    | 1, _ => rfl
    | c + 2, h0 =>
      show Value.ref (adU ad kk q c) = Value.ref (ad c)
      rw [adU_ne _ _ (fun z => h0 (by omega))]
theorem zF_adUset (ad : Nat → Nat) (q kk : Nat) (f : Nat → Int32) : ∀ (l : List Nat) (b j : Nat), l[j]? = some (kk + 2) → (∀ i : Nat, l[i]? = some (kk + 2) → i = j) → zF (adU ad kk q) f b l = (zF ad f b l).set j (.ref q)
  | [], b, j, h, _ => by simp at h
  | c :: t, b, 0, h, hu => by
    simp at h
    subst h
    show Value.ref (adU ad kk q kk) :: zF (adU ad kk q) f (b + 1) t = (zV ad (f b) (kk + 2) :: zF ad f (b + 1) t).set 0 (.ref q)
    rw [adU_self, zF_adU ad q kk f t (b + 1) (fun i z => by have := hu (i + 1) (by simpa using z); omega)]
    rfl
  | c :: t, b, j + 1, h, hu => by
    simp at h
    have h0 : c ≠ kk + 2 := fun z => by have := hu 0 (by simp [z]); omega
    show zV (adU ad kk q) (f b) c :: zF (adU ad kk q) f (b + 1) t = (zV ad (f b) c :: zF ad f (b + 1) t).set (j + 1) (.ref q)
    rw [List.set_cons_succ, zF_adUset ad q kk f t (b + 1) j h (fun i z => by have := hu (i + 1) (by simpa using z); omega)]
    congr 1
    match c, h0 with
    | 0, _ => rfl
    | 1, _ => rfl
    | c + 2, h0 =>
      show Value.ref (adU ad kk q c) = Value.ref (ad c)
      rw [adU_ne _ _ (fun z => h0 (by omega))]
theorem va_reP {D : va_G} {cl : List vw_C} {L L' : va_W} {H : Heap} (φ : Nat → Nat) (h : ∀ i x, L'[i]? = some x → L[φ i]? = some x) (hP : va_P D cl L H) : va_P D cl L' H := fun i x hi => hP (φ i) x (h i x hi)
theorem va_reD {A : Nat → Prop} {L L' : va_W} (φ : Nat → Nat) (h : ∀ i x, L'[i]? = some x → L[φ i]? = some x) (inj : ∀ i j, i < L'.length → j < L'.length → φ i = φ j → i = j) (hD : va_D A L) : va_D A L' :=
  ⟨fun i j p q hi hj e => inj i j (List.getElem?_eq_some_iff.mp hi).1 (List.getElem?_eq_some_iff.mp hj).1 (hD.1 (φ i) (φ j) p q (h i p hi) (h j q hj) e), fun i x hi => hD.2 (φ i) x (h i x hi)⟩
theorem zW_len (cy : Nat → ClassId) (T : zT) (ad : Nat → Nat) (al : Nat → Nat → Int32) (ln : Nat → Nat) : (zW cy T ad al ln).length = T.1 := by simp [zW]
theorem zEn_adU {cy : Nat → ClassId} {k j kk q k' : Nat} (ho : zOnly T k j kk) (h1 : k' < T.1) (h2 : k' ≠ k) (h3 : k' ≠ kk) (f : Nat → Int32) (len : Nat) : zEn cy (adU ad kk q) f len (T.2 k') = zEn cy ad f len (T.2 k') := by
  have h := ho k' h1 h3
  match hT : T.2 k' with
  | .inl o =>
    rw [hT] at h
    show Sum.inr (o.1, zF (adU ad kk q) f 0 o.2) = Sum.inr (o.1, zF ad f 0 o.2)
    rw [zF_adU ad q kk f o.2 0 (fun i z => h2 (h i z).1)]
  | .inr (0, a, b, c) => rfl
  | .inr (1, a, b, c) => rfl
  | .inr (2, a, b, c) => rfl
  | .inr (3, a, b, c) =>
    rw [hT] at h
    have h := h.resolve_left (by omega)
    have e : zRow (adU ad kk q) b c = zRow ad b c := by
      funext i
      unfold zRow
      rw [adU_ne _ _ (h i)]
    show Sum.inl (cy 2, a, _) = Sum.inl (cy 2, a, _)
    rw [e]
  | .inr (t + 4, a, b, c) =>
    rw [hT] at h
    have h := h.resolve_left (by omega)
    have e : zRow (adU ad kk q) b c = zRow ad b c := by
      funext i
      unfold zRow
      rw [adU_ne _ _ (h i)]
    show Sum.inl (cy 3, a, _) = Sum.inl (cy 3, a, _)
    rw [e]
theorem zq_put {q N : Nat} {f : Nat → Int32} (X : zX G Z cc nL own Ts) (k kk j : Nat) (hk : k < T.1) (hkk : kk < T.1) (hne : k ≠ kk) (ci : Nat) (codes : List Nat) (hd : T.2 k = .inl (ci, codes)) {C ref : String} {Tt : u_T} {N0 index : Nat} (hc : vwCl[ci]? = some (C, Tt, N0)) (hin : zIn C Tt N0 Ts) (ty0 : Nat → FieldType) (hty : ∀ k, k < N0 → parseFieldDescriptor (Tt k).2.2.1 = some (ty0 k)) (hnm : ∀ a, a < N0 → ∀ b, b < N0 → a ≠ b → (Tt a).2.1 ≠ (Tt b).2.1) (hj : j < N0) (hcode : codes[j]? = some (kk + 2)) (hlink : Cond.fieldLink own index ref (Tt j).2.1 (Tt j).2.2.1 ∈ Ts) (hsame : (Tt j).1 = ref) (hfin : (Tt j).2.2.2 = false) (hn : ∀ q, narrow (ty0 j) (.ref q) = .ref q) (hfit : ∀ q, fits (ty0 j) (.ref q) = true) (ho : zOnly T k j kk) {a b c0 : Nat} (hdk : T.2 kk = .inr (2, a, b, c0)) (d : decode cc pc = .ok (.putfield index, 3)) (kk' : zB G Z rm nL T (adU ad kk q) (adU ln kk N) kc ks (pc + 3) lv st (alU al kk f)) : zBq G Z rm nL T ad ln kc ks pc lv (.ref q :: .ref (ad k) :: st) al q N f := by
  obtain ⟨l, D, cy⟩ := G
  obtain ⟨p, e, s, m, args, below, meth, c, A, Q⟩ := Z
  obtain ⟨⟨hx, hb, hml, hown, hts⟩, hK, hA, hE, hlk⟩ := X
  intro H locs ls hP hD hS hl
  subst hsame
  have he : (zW cy T ad al ln ++ [(q, .inl (cy 1, N, .inl f))])[k]? = some (ad k, .inr (ci, zF ad (al k) 0 codes)) := by
    rw [List.getElem?_append_left (by rw [zW_len]; exact hk), zW_get hk, hd]
    rfl
  refine va_put (D := D) (ci := ci) (v := .ref q) hx hb hts hin ty0 hty hnm hown hK hP hD hS k he hc j hj (hts _ hlink) (fun _ h9 => h9) hfin (hty j hj) (hn q) (hfit q) (by rw [zF_len]; exact (List.getElem?_eq_some_iff.mp hcode).1) d (fun H1 locs1 hP1 hD1 hS1 => ?_)
  have key : ∀ (i : Nat) x, (zW cy T (adU ad kk q) (alU al kk f) (adU ln kk N))[i]? = some x → ((zW cy T ad al ln ++ ([(q, Sum.inl (cy 1, N, Sum.inl f))] : va_W)).set k (ad k, Sum.inr (ci, (zF ad (al k) 0 codes).set j (.ref q))))[if i = kk then T.1 else i]? = some x := by
    intro i x hi
    have hlt : i < T.1 := by
      have := (List.getElem?_eq_some_iff.mp hi).1
      rw [zW_len] at this
      exact this
    rw [zW_get hlt] at hi
    rw [← Option.some.inj hi]
    by_cases e1 : i = kk
    · subst e1
      rw [if_pos rfl, List.getElem?_set_ne (by omega), List.getElem?_append_right (by rw [zW_len]; exact Nat.le_refl _), zW_len, Nat.sub_self, adU_self, alU_self, adU_self, hdk]
      rfl
    · rw [if_neg e1, adU_ne _ _ e1, alU_ne _ _ e1, adU_ne _ _ e1]
      by_cases e2 : i = k
      · subst e2
        rw [List.getElem?_set_self (by rw [List.length_append, zW_len]; omega), hd]
        show some (ad i, Sum.inr (ci, _)) = some (ad i, Sum.inr (ci, zF (adU ad kk q) (al i) 0 codes))
        have h9 := ho i hk hne
        rw [hd] at h9
        rw [zF_adUset ad q kk (al i) codes 0 j hcode (fun i z => (h9 i z).2)]
      · rw [List.getElem?_set_ne (Ne.symm e2), List.getElem?_append_left (by rw [zW_len]; exact hlt), zW_get hlt, zEn_adU ho hlt e2 e1]
  have inj : ∀ i i', i < (zW cy T (adU ad kk q) (alU al kk f) (adU ln kk N)).length → i' < (zW cy T (adU ad kk q) (alU al kk f) (adU ln kk N)).length → (if i = kk then T.1 else i) = (if i' = kk then T.1 else i') → i = i' := by
    intro i i' h1 h2 h3
    rw [zW_len] at h1 h2
    split at h3 <;> split at h3 <;> omega
  exact kk' H1 locs1 ls (va_reP _ key hP1) (va_reD _ key inj hD1) hS1 hl
end ZG
