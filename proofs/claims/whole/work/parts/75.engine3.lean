/-! MY ENGINE, with exceptions: what a method that may throw owes -/
def zExN : List String := ["java/lang/RuntimeException", "java/lang/Exception"]
def zExc : List String := ["java/lang/IndexOutOfBoundsException", "java/lang/IllegalArgumentException", "java/lang/IllegalStateException", "java/util/NoSuchElementException"]
def zStr : List (Nat × String) := [(82, "the tape would have more than 4096 bytes"), (93, "not 0 to the length of the tape"), (109, "no such setting"), (114, "outside of the setting's limits"), (116, "no such register"), (122, "no such count"), (136, "no such row"), (147, "no such wait"), (155, "there is no loop"), (183, "the loop is not laid"), (200, "nothing of that number is known of a row"), (218, "there was no run"), (223, "no such array, or no such int of it")]
def zDcl : List MethodName := [Bundle.initS "java/lang/RuntimeException", Bundle.initS "java/lang/Exception", Bundle.initS Bundle.tN]
def zBad (E : String) : List Cond := Cond.castable E E :: zDcl.map Cond.declares
theorem va_Nw.warmDc {x : MethodName} {s U : State} (hW : s.WarmedH U.vm) (hZ : va_Nw (.declares x) s) : va_Nw (.declares x) U := va_tabs rfl (rfl : (s.setVm U.vm).vm = U.vm) (by rw [Cond.declares_setVm hW.alike]; exact hZ)
/-- what a throw finds around the world -/
def zEx (l : Launch) (A : Nat → Prop) (U : State) (H : Heap) : Prop := l.stackTraces = false ∧ vx_Zq Bundle.tN "UNASSIGNED_STACK" Bundle.steD A U H ∧ vx_Zq Bundle.tN "SUPPRESSED_SENTINEL" Bundle.listD A U H ∧ (∀ E ∈ zExc, va_Nw (.castable E E) U) ∧ (∀ x ∈ zDcl, va_Nw (.declares x) U) ∧ ∀ q ∈ zStr, ∃ sa, vk_R "LoopForge" q.1 q.2 sa U
theorem zEx.go {l : Launch} {A B : Nat → Prop} {s U : State} {H : Heap} {locs : List Loc} (h : zEx l A s s.heap) (hW : s.WarmedH U.vm) (hS : va_S A s.heap H locs) (hAB : ∀ q, B q → A q) (hU : U.heap = H) : zEx l B U U.heap := by
  obtain ⟨h1, h2, h3, h4, h6, h5⟩ := h
  rw [hU]
  exact ⟨h1, (vx_Zq.moved hW.alike (h2.kept hS.2.1)).narrow hAB, (vx_Zq.moved hW.alike (h3.kept hS.2.1)).narrow hAB, fun E hE => (h4 E hE).warmC hW, fun x hx => (h6 x hx).warmDc hW, fun q hq => by obtain ⟨sa, hsa⟩ := h5 q hq; exact ⟨sa, hsa.warm hW⟩⟩
theorem zEx.same {l : Launch} {A : Nat → Prop} {s U : State} (h : zEx l A s s.heap) (hvm : s.vm = U.vm) (hU : U.heap = s.heap) : zEx l A U U.heap :=
  h.go (locs := []) (by rw [← hvm]; exact State.WarmedH.refl s) ⟨Nat.le_refl _, fun _ _ _ => rfl, fun _ h => nomatch h⟩ (fun _ h => h) hU
def zPreX (G : zG) (T : zT) (ad ln : Nat → Nat) (al : Nat → Nat → Int32) (sz : Nat) : State → Prop := fun U => zPre G T ad ln al sz U ∧ zEx G.1 (va_A (zW G.2.2 T ad al ln) sz) U U.heap
theorem zPreX.blind {G : zG} {T : zT} {ad ln : Nat → Nat} {al : Nat → Nat → Int32} {sz : Nat} {As : List Value} : FrameBlind (va_Pc As (zPreX G T ad ln al sz)) := by
  intro a U g mk q
  obtain ⟨q0, q1, q2⟩ := q
  exact ⟨q0, (zPre.blind a U g mk (⟨q0, q1⟩ : va_Pc As (zPre G T ad ln al sz) _ U)).2, q2.same rfl rfl⟩
/-- y at these arguments and this world answers an int, or throws -/
def zXi (G : zG) (y : MethodName) (ws : List Cond) (rm : Room) (u : zU) (As : List Value) (post : Int32 → zU → Prop) (px : String → zU → Prop) : Prop := ∀ sz : Nat, vx_Met G.1 y ws rm (va_Pc As (zPreX G u.1 u.2.1 u.2.2.1 u.2.2.2 sz)) (va_Qi post (zAtU G (va_A (zWU G.2.2 u) sz)) (va_A (zWU G.2.2 u) sz)) (vx_X (fun _ : zU => True) (fun E u' t => px E u' ∧ zAtU G (va_A (zWU G.2.2 u) sz) u' t) (va_A (zWU G.2.2 u) sz)) rm.cells rm.slots (va_A (zWU G.2.2 u) sz)
def zEZ (G : zG) (Z : zC) : Prop := match G, Z with
  | (l, _, _), (_, _, s, _, _, _, _, _, A, _) => zEx l A s s.heap
/-- 'throw new E("text")' at pc -/
def zTh (G : zG) (Z : zC) (rm : Room) (nL : Nat) (cc : ByteArray) (ws : List Cond) (px : String → zU → Prop) : Prop := ∀ (T : zT) (ad ln : Nat → Nat) (kc ks pc : Nat) (lv : List (Nat × Value)) (al : Nat → Nat → Int32) (E text : String) (ik is ic : Nat), E ∈ zExc → (is, text) ∈ zStr → Bundle.fit E = true → decode cc pc = .ok (.new ik, 3) → decode cc (pc + 3) = .ok (.dup, 1) → decode cc (pc + 4) = .ok (.ldc is, 2) → decode cc (pc + 6) = .ok (.invokespecial ic, 3) → decode cc (pc + 9) = .ok (.athrow, 1) → Cond.classLink "LoopForge" ik E ∈ ws → Cond.initialized E ∈ ws → (∀ w ∈ (vx_atS "LoopForge" ic E zExN).filter goodWord, w ∈ ws) → (∀ w ∈ (vx_atS "LoopForge" ic E zExN).filter (fun w => !goodWord w), w ∈ zBad E) → (∀ w ∈ Cond.classLink "LoopForge" ik E :: Cond.initialized E :: vx_atS "LoopForge" ic E zExN, vx_ot w = true) → (6 ≤ rm.frames ∧ 82 ≤ rm.locals) ∧ kc + 1 ≤ rm.cells ∧ ks + 6 ≤ rm.slots → px E (T, ad, ln, al) → zB G Z rm nL T ad ln kc ks pc lv [] al
theorem zXi.of {G : zG} {y : MethodName} {ws ws' : List Cond} {rm : Room} {T : zT} {ad ln : Nat → Nat} {al : Nat → Nat → Int32} {As : List Value} {post : Int32 → zU → Prop} {px : String → zU → Prop} {cc : ByteArray} {nL : Nat} {rt : FieldType} (hy : plainName y.cls = true) (hcl : y.cls = "LoopForge") (hw : ws = .code y cc nL (some rt) :: ws') (hlen : (lg_sl As).length ≤ nL)
    (body : ∀ Z : zC, zX G Z cc nL y.cls ws → zEZ G Z → (∀ (T : zT) (ad ln : Nat → Nat), zRi G Z rm nL T ad ln cc rt (fun r a => post r (T, ad, ln, a))) → zTh G Z rm nL cc ws px → zB G Z rm nL T ad ln 0 0 0 (lv_args 0 As) [] al) : zXi G y ws rm (T, ad, ln, al) As post px := by
  show ∀ sz : Nat, vx_Met G.1 y ws rm (va_Pc As (zPreX G T ad ln al sz)) (va_Qi post (zAtU G (va_A (zW G.2.2 T ad al ln) sz)) (va_A (zW G.2.2 T ad al ln) sz)) (vx_X (fun _ : zU => True) (fun E u' t => px E u' ∧ zAtU G (va_A (zW G.2.2 T ad al ln) sz) u' t) (va_A (zW G.2.2 T ad al ln) sz)) rm.cells rm.slots (va_A (zW G.2.2 T ad al ln) sz)
  intro sz
  refine vx_ofW (cc := cc) (maxL := nL) (ret := some rt) hy hw ?_
  intro p e s m args below meth c s₁ B hml hex hv
  obtain ⟨rfl, ⟨hsz, hP, hK, hD0, hE⟩, hEx⟩ := hv
  have hts := atoms_spec (ws := ws) B.pre
  subst hsz
  have hD := hD0.self (sz := s.heap.size)
  generalize hAe : va_A (zW G.2.2 T ad al ln) s.heap.size = A at hD hE hEx ⊢
  have hA : ∀ q : Nat, s.heap.size ≤ q → A q := fun q h => by rw [← hAe]; exact Or.inr h
  have hl := lv_entry As hlen
  rw [lg_entry_eq]
  obtain ⟨l, D, cy⟩ := G
  have hown := findClass_of_methodNamed B.named
  refine body (p, e, s, m, As.toArray, below, meth, c, A, vx_MQ below (va_Qi post (zAtU (l, D, cy) A) A) (vx_X (fun _ : zU => True) (fun E u' t => px E u' ∧ zAtU (l, D, cy) A u' t) A) As.toArray s rm.cells rm.slots A) ⟨⟨B.exec, B.bytes, hml, hown, hts⟩, hK, hA, hE, B.notSynchronized⟩ hEx ?_ ?_ s.heap [] _ hP hD va_S.rf hl
  · intro T' ad' ln' pc lv x al' d ho hp H locs ls hP hD hS hl
    exact vx_ret (W.zret (v := x) (ty := rt) B.exec B.bytes B.returns ho (fun t ht hW => ⟨⟨x, (T', ad', ln', al'), rfl, hp, by rw [ht]; exact hP, va_K.moved hW.alike hK, hD⟩, hS.F ht⟩) hS.2.2 d B.notSynchronized)
  · intro T' ad' ln' kc ks pc lv al' E text ik is ic e1 e2 hfit d0 d3 d4 d6 d9 w1 w2 w3 w4 w5 hr hp H locs ls hP hD hS hl
    obtain ⟨x1, x2, x3, x4, x6, x5⟩ := hEx
    obtain ⟨sa, hsa⟩ := x5 _ e2
    rw [hcl] at hown
    refine vx_throwS (cls := E) (text := text) (names := zExN) (sa := sa) (A := A) B.exec B.bytes x1 hown hfit (by decide) (hts _ w1) (hts _ w2) hsa (vx_hat (B := zBad E) (fun w hw => hts _ (w3 w hw)) w4 (vx_c (va_Nw.use (A := As.toArray) rfl (x4 E e1)) (fun w hw => by obtain ⟨x, hx, rfl⟩ := List.mem_map.mp hw; exact va_Nw.use rfl (x6 x hx)))) w5 x2 x3 hS (by rw [hl.1, hml]) d0 d3 d4 d6 d9 (fun x hx => absurd (hex x hx) id) (by show 2 + 3 < rm.frames; omega) (by show 0 + (13 * (2 + 1) + 43) ≤ rm.locals; omega) hr.2.1 hr.2.2 B.notSynchronized (fun t ha hz hk => ?_) hS.2.2 hr.2.1 hr.2.2
    refine ⟨(T', ad', ln', al'), trivial, ⟨hp, hP.kept (fun k q hk9 => hk q.1 (hP k q hk9).lt), va_K.moved ha hK, hD⟩, Nat.le_trans hS.1 hz, fun q hq hq2 => ?_⟩
    rw [hk q (Nat.lt_of_lt_of_le hq hS.1)]
    exact hS.2.1 q hq hq2
theorem zXi.mono {G : zG} {y : MethodName} {ws : List Cond} {rm : Room} {u : zU} {As : List Value} {post post' : Int32 → zU → Prop} {px px' : String → zU → Prop} (h : zXi G y ws rm u As post px) (hp : ∀ r u, post r u → post' r u) (hx : ∀ E u, px E u → px' E u) : zXi G y ws rm u As post' px' := by
  intro sz p e ha hc hk s m args below hf happ hP hKK
  obtain ⟨n, o, h1, h2, h3, q⟩ := h sz p e ha hc hk s m args below hf happ hP hKK
  refine ⟨n, o, h1, h2, h3, ?_⟩
  rcases q with ⟨⟨⟨r, u, q1, q2, q3⟩, q4⟩, q5⟩ | ⟨q, q1, E, ce, L, ⟨u, t0, ⟨q2, q3⟩, q4⟩, q5⟩
  · exact Or.inl ⟨⟨⟨r, u, q1, hp r u q2, q3⟩, q4⟩, q5⟩
  · exact Or.inr ⟨q, q1, E, ce, L, ⟨u, t0, ⟨hx E u q2, q3⟩, q4⟩, q5⟩
section ZN
variable {G : zG} {Z : zC} {rm : Room} {nL : Nat} {T : zT} {ad ln : Nat → Nat} {kc ks pc : Nat} {lv lv' : List (Nat × Value)} {st : List Value} {al : Nat → Nat → Int32} {cc : ByteArray} {own : String} {Ts : List Cond}
theorem zb_aload_nN (X : zX G Z cc nL own Ts) {k : Fin 4} {i : Nat} (d : decode cc pc = .ok (.aload_n k, 1)) (hi : (k : Nat) = i) (j : Nat) (h : lv[j]? = some (i, .null)) (kk : zB G Z rm nL T ad ln kc ks (pc + 1) lv (.null :: st) al) : zB G Z rm nL T ad ln kc ks pc lv st al := by
  obtain ⟨l, D, cy⟩ := G
  obtain ⟨p, e, s, m, args, below, meth, c, A, Q⟩ := Z
  obtain ⟨⟨hx, hb, hml, hown, hts⟩, hK, hA, hE, hlk⟩ := X
  intro H locs ls hP hD hS hl
  exact lv_aload_nN hx hb d hi (lv_at hl j h) (kk H locs ls hP hD hS hl)
theorem zb_astore_nN (X : zX G Z cc nL own Ts) {k : Fin 4} {i : Nat} (d : decode cc pc = .ok (.astore_n k, 1)) (hi : (k : Nat) = i) (hn : i < nL) (hl' : (i, Value.null) :: lv.filter (fun q => !(q.1 == i) && !(q.1 + 1 == i && q.2.category == 2)) = lv') (kk : zB G Z rm nL T ad ln kc ks (pc + 1) lv' st al) : zB G Z rm nL T ad ln kc ks pc lv (.null :: st) al := by
  obtain ⟨l, D, cy⟩ := G
  obtain ⟨p, e, s, m, args, below, meth, c, A, Q⟩ := Z
  obtain ⟨⟨hx, hb, hml, hown, hts⟩, hK, hA, hE, hlk⟩ := X
  intro H locs ls hP hD hS hl
  exact lv_astore_nN hx hb d hi hl hn hl' (fun ls hl => kk H locs ls hP hD hS hl)
theorem zb_ifnonnull (X : zX G Z cc nL own Ts) {x : Nat} {off : Int} (tgt : Nat) (d : decode cc pc = .ok (.ifnonnull off, 3)) (ht : (pc : Int) + off = (tgt : Int)) (kk : zB G Z rm nL T ad ln kc ks tgt lv st al) : zB G Z rm nL T ad ln kc ks pc lv (.ref x :: st) al := by
  obtain ⟨l, D, cy⟩ := G
  obtain ⟨p, e, s, m, args, below, meth, c, A, Q⟩ := Z
  obtain ⟨⟨hx, hb, hml, hown, hts⟩, hK, hA, hE, hlk⟩ := X
  intro H locs ls hP hD hS hl
  exact lv_ifnonnull hx hb d ht (kk H locs ls hP hD hS hl)
theorem zb_ifnonnullN (X : zX G Z cc nL own Ts) {off : Int} (d : decode cc pc = .ok (.ifnonnull off, 3)) (kk : zB G Z rm nL T ad ln kc ks (pc + 3) lv st al) : zB G Z rm nL T ad ln kc ks pc lv (.null :: st) al := by
  obtain ⟨l, D, cy⟩ := G
  obtain ⟨p, e, s, m, args, below, meth, c, A, Q⟩ := Z
  obtain ⟨⟨hx, hb, hml, hown, hts⟩, hK, hA, hE, hlk⟩ := X
  intro H locs ls hP hD hS hl
  exact lv_ifnonnullN hx hb d (kk H locs ls hP hD hS hl)
end ZN
