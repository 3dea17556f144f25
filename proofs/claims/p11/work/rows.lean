section
/-! EVIDENCE: a start that meets every premise and from which the law ends with a throw. The witness's own start, with one class more in the table (a second class of the kind 'array of int', whose own clone throws: aload_0, athrow), and SETTING_FIRST's array of that class -/
def zz_C : Class := { start1.cArr "another" 30 .int with interfaces := #[22], methods := #[Lib.HandJ.method "clone" "()Ljava/lang/Object;" [] (some (.object "java/lang/Object")) 0x1 1 ⟨#[0x2a, 0xbf]⟩] }
def zz_S : State := { start1.about with
  vm := { start1.about.vm with classes := start1.about.vm.classes.push zz_C }
  heap := start1.about.heap.modify 6 (fun c => { c with cls := 38 }) }
def zz_st (n : Nat) : State := stepsAlone start1.p0.tables start1.e0 n zz_S
/-- the law has not ended here -/
def zz_ok (s : State) : Bool := match s.frames with
  | .throwing _ :: r => decide (1 < r.length)
  | fs => decide (1 < fs.length)
def zz_9 : State := zz_st 9
def zz_b : List Frame := zz_9.frames.tail
def zz_f : JFrame := (zz_9.topJava?).getD { method := ⟨0, 0⟩, pc := 0, locals := #[], stack := [], locked := none }
def zz_T : State := (zz_9.pushCell { cls := 33, slots := Array.replicate 4096 (.int 0), vm := .none }).setTop { zz_f with pc := 10, stack := .ref zz_9.heap.size :: zz_f.stack.tail }
def zz_y : MethodName := ⟨"LoopForge", "<init>", "()V"⟩
theorem zz_d8 : decode prog_1_method_1_code 8 = .ok (.newarray .byte, 2) := by decide +kernel
end
section
theorem zz_cur : zz_9.cur < zz_9.threads.size := by decide +kernel
theorem zz_isS : zz_9.topJava?.isSome = true := by decide +kernel
theorem zz_top : zz_9.topJava? = some zz_f := by
  obtain ⟨g, hg⟩ := Option.isSome_iff_exists.mp zz_isS
  unfold zz_f
  rw [hg]
  rfl
theorem zz_fr : zz_9.frames = .java zz_f :: zz_b := by
  obtain ⟨r, hr⟩ := State.topJava?_eq_some.mp zz_top
  unfold zz_b
  rw [hr]
  rfl
theorem zz_fm : zz_f.method = ⟨2, 0⟩ := by decide +kernel
theorem zz_fpc : zz_f.pc = 8 := by decide +kernel
theorem zz_fst : zz_f.stack = [.int 4096, .ref zz_S.heap.size] := by decide +kernel
def zz_a : Array Value := #[.ref zz_S.heap.size]
def zz_R : Room := { frames := 2, cells := 1, slots := 4096, locals := 30 }
def zz_s : State := zz_9.setFrames (.invoking ⟨2, 0⟩ zz_a :: zz_b)
theorem zz_sfr : zz_s.frames = .invoking ⟨2, 0⟩ zz_a :: zz_b := State.frames_setFrames _ zz_cur
theorem zz_scur : zz_s.cur < zz_s.threads.size := State.cur_lt_of_frames zz_sfr
theorem zz_nm : zz_s.methodNamed? zz_y = some ⟨2, 0⟩ := by decide +kernel
theorem zz_hears : zz_s.hears ⟨2, 0⟩ zz_b = true := by decide +kernel
theorem zz_ripe : zz_s.classRipe ⟨2, 0⟩ = true := by decide +kernel
theorem zz_room : zz_s.hasRoom start1.e0.platform zz_R = true := by decide +kernel
theorem zz_m1 : (zz_s.vm.method? ⟨2, 0⟩).map (fun x => (decide (x.sig.returnType = none), x.locks)) = some (true, false) := by decide +kernel
theorem zz_m2 : ((zz_s.vm.method? ⟨2, 0⟩).bind (fun x => x.code)).map (fun c => decide (c.code = prog_1_method_1_code)) = some true := by decide +kernel
theorem zz_arr : (Cond.arrayClass (newarray.typeOf .byte)).before zz_a zz_s = true := by decide +kernel
theorem zz_run9 : zz_s.status = .running ∧ zz_s.curStatus? = some .runnable ∧ zz_s.alone = true := by decide +kernel
theorem zz_cA : zz_s.vm.findClass ("[" ++ (newarray.typeOf .byte).toString) = some 33 := by decide +kernel
end
section
/-- one newarray of bytes, by the library's own law, from any state that stands in a method's frame -/
theorem zz_gen {p : Program} {e : Env} (S : State) (f : JFrame) (b : List Frame) (a : Array Value) (R : Room) (y : MethodName) (cc : ByteArray) (m : MethodId) (cB : ClassId) {n : Int32} {rest : List Value} (ha : launch0.admits e) (hc : FairCas e.choices) (hk : FairClock e.choices) (hfr : S.frames = .java f :: b) (hexec : p.tables.exec = Jvm.exec)
    (hnm : (S.setFrames (.invoking m a :: b)).methodNamed? y = some m) (hh : (S.setFrames (.invoking m a :: b)).hears m b = true) (hr : (S.setFrames (.invoking m a :: b)).classRipe m = true) (hroom : (S.setFrames (.invoking m a :: b)).hasRoom e.platform R = true)
    (hm1 : ((S.setFrames (.invoking m a :: b)).vm.method? m).map (fun x => (decide (x.sig.returnType = none), x.locks)) = some (true, false)) (hm2 : (((S.setFrames (.invoking m a :: b)).vm.method? m).bind (fun x => x.code)).map (fun c => decide (c.code = cc)) = some true)
    (harr : (Cond.arrayClass (newarray.typeOf .byte)).before a (S.setFrames (.invoking m a :: b)) = true) (hrun : (S.setFrames (.invoking m a :: b)).status = .running ∧ (S.setFrames (.invoking m a :: b)).curStatus? = some .runnable ∧ (S.setFrames (.invoking m a :: b)).alone = true)
    (hcA : (S.setFrames (.invoking m a :: b)).vm.findClass ("[" ++ (newarray.typeOf .byte).toString) = some cB) (hpl : plainName y.cls = true) (hfm : f.method = m) (hd : decode cc f.pc = .ok (.newarray .byte, 2)) (hst : f.stack = .int n :: rest) (hn : ¬ n < 0) (hby : n.toNatClampNeg * componentBytes (newarray.typeOf .byte) ≤ 536870912) (hR : 1 ≤ R.cells ∧ n.toNatClampNeg ≤ R.slots) :
    Steps p.tables e b S ((S.pushCell { cls := cB, slots := Array.replicate n.toNatClampNeg (defaultValue (newarray.typeOf .byte)), vm := .none }).setTop { f with pc := f.pc + 2, stack := .ref S.heap.size :: rest }) := by
  have hcur0 := State.cur_lt_of_frames hfr
  generalize hs : S.setFrames (.invoking m a :: b) = s at *
  have sfr : s.frames = .invoking m a :: b := by rw [← hs]; exact State.frames_setFrames _ hcur0
  have scur := State.cur_lt_of_frames sfr
  have s1 : (s.setFrames (.java (entryFrame m a 1) :: b)).frames = .java (entryFrame m a 1) :: b := State.frames_setFrames _ scur
  obtain ⟨meth, hmeth⟩ : ∃ x, s.vm.method? m = some x := by
    cases h : s.vm.method? m with
    | none => rw [h] at hm1; cases hm1
    | some x => exact ⟨x, rfl⟩
  rw [hmeth] at hm1 hm2
  obtain ⟨c, hcode⟩ : ∃ c, meth.code = some c := by
    cases h : meth.code with
    | none => simp [h] at hm2
    | some c => exact ⟨c, rfl⟩
  have hbytes : c.code = cc := by simpa [hcode] using hm2
  have hret : meth.sig.returnType = none ∧ meth.locks = false := by simpa using hm1
  have ht1 := State.topJava?_of_frames s1
  have hplain : (s.setFrames (.java (entryFrame m a 1) :: b)).plainMethod m := by
    refine State.plainMethod.of_name ?_
    intro k hk
    obtain ⟨k', hk', hn⟩ := className_of_methodNamed hnm
    cases (show s.vm.classes[m.cls]? = some k from hk).symm.trans hk'
    rw [hn]
    exact hpl
  have hAt : At (s.setFrames (.java (entryFrame m a 1) :: b)) m c b :=
    ⟨by rw [ht1]; rfl, ⟨[], by rw [s1]; rfl⟩, hrun.1, by simpa using hrun.2.1, by simpa using hrun.2.2, by rw [State.code?_eq]; simp [State.setFrames, hmeth, hcode], hplain⟩
  have B : BodyLoose p launch0 y (headSpec [] R) cc 1 none e s m a b meth c (s.setFrames (.java (entryFrame m a 1) :: b)) :=
    ⟨ha, hc, hk, hexec, sfr, hnm, hh, hr, hroom, rfl, hmeth, hret.1, hret.2, hbytes, rfl, hAt⟩
  have X := Stand.of_body B
  obtain ⟨cA, kA, comp, h1, h2, h3, X', st⟩ := X.newarrayPrim (atype := .byte) hexec harr (g := f) hfm (by rw [hbytes]; exact hd) hst hn hby (by show 0 + 1 ≤ R.cells; omega) (by show 0 + _ ≤ R.slots; omega)
  have e33 : cA = cB := Option.some.inj (h1.symm.trans hcA)
  subst e33
  obtain ⟨t, ht, -⟩ := State.frames_cons hfr
  have eS : s.setFrames (.java f :: b) = S := by
    rw [← hs, State.setFrames_setFrames, ← hfr]
    exact State.setFrames_self ht
  have eA : (s.setFrames (.java (entryFrame m a 1) :: b)).setTop f = S := by
    rw [State.setTop_of_frames _ s1, State.setFrames_setFrames]
    exact eS
  have hheap : (s.setFrames (.java (entryFrame m a 1) :: b)).heap.size = S.heap.size := by rw [← hs]; rfl
  have key := fun tg => st tg
  rw [eA, hheap] at key
  refine key _ ?_
  have hpush : ∀ (U : State) (fs : List Frame) (x : Cell), (U.setFrames fs).pushCell x = (U.pushCell x).setFrames fs := fun U fs x => rfl
  have e2 : ∀ (x : Cell) (g : JFrame), ((s.setFrames (.java (entryFrame m a 1) :: b)).pushCell x).setTop g = (S.pushCell x).setTop g := by
    intro x g
    have f1 : ((s.setFrames (.java (entryFrame m a 1) :: b)).pushCell x).frames = .java (entryFrame m a 1) :: b := s1
    have f2 : (S.pushCell x).frames = .java f :: b := hfr
    rw [State.setTop_of_frames _ f1, State.setTop_of_frames _ f2, ← hs, hpush, hpush, State.setFrames_setFrames, State.setFrames_setFrames]
  rw [e2]
  exact Steps.refl _
theorem zz_go : Steps start1.p0.tables start1.e0 zz_b zz_9 zz_T := by
  have h := zz_gen (p := start1.p0) (e := start1.e0) zz_9 zz_f zz_b zz_a zz_R zz_y prog_1_method_1_code ⟨2, 0⟩ 33 (n := 4096) (rest := [.ref zz_S.heap.size]) (launch0.admits_env _ _ _) fairChoices_fair.cas fairChoices_fair.clock zz_fr rfl zz_nm zz_hears zz_ripe zz_room zz_m1 zz_m2 zz_arr zz_run9 zz_cA (by decide) zz_fm (by rw [zz_fpc]; exact zz_d8) zz_fst (by decide) (by decide) (by decide)
  have e : zz_T = (zz_9.pushCell { cls := 33, slots := Array.replicate (4096 : Int32).toNatClampNeg (defaultValue (newarray.typeOf .byte)), vm := .none }).setTop { zz_f with pc := zz_f.pc + 2, stack := .ref zz_9.heap.size :: [.ref zz_S.heap.size] } := by
    unfold zz_T
    rw [zz_fpc, zz_fst]
    rfl
  rw [e]
  exact h
end
section
theorem zz_ended {s : State} {o : Outcome} (h : Ended s Lib.HandBits.below0 o) : zz_ok s = false := by
  cases o with
  | threw a =>
    have h : s.frames = .throwing a :: Lib.HandBits.below0 := h
    unfold zz_ok
    rw [h]
    rfl
  | returned v =>
    have h : s.frames = .native { method := ⟨0, 0⟩, args := #[], awaiting := false, answer := some (.returned v) } :: [] := h
    unfold zz_ok
    rw [h]
    rfl
theorem zz_within {s : State} (h : Within s zz_b) : zz_ok s = true := by
  obtain ⟨above, h1, h2, h3⟩ := h
  have hb : zz_b.length = 2 := by decide +kernel
  cases above with
  | nil => exact absurd rfl h2
  | cons x t =>
    have hl : (t ++ zz_b).length = t.length + 2 := by rw [List.length_append, hb]
    unfold zz_ok
    rw [h1, List.cons_append]
    cases x <;> first | exact decide_eq_true (by omega) | exact decide_eq_true (by show 1 < (t ++ zz_b).length + 1; omega)
theorem zz_k1 : ∀ n, n < 10 → zz_ok (zz_st n) = true := by decide +kernel
theorem zz_k2 : ∀ n, n < 9 → zz_ok (stepsAlone start1.p0.tables start1.e0 n zz_T) = true := by decide +kernel
/-- the end: the exception has left the law -/
def zz_endB (s : State) : Bool := decide (s.status = .running) && match s.frames with
  | [.throwing a, .native f] => decide (a = 6) && decide (f.method = ⟨0, 0⟩) && decide (f.args = #[]) && decide (f.stage = 0) && decide (f.saved = #[]) && !f.awaiting && f.answer.isNone && f.locked.isNone && decide (f.words = 0)
  | _ => false
theorem zz_k3 : zz_endB (stepsAlone start1.p0.tables start1.e0 9 zz_T) = true := by decide +kernel
theorem zz_endS {s : State} (h : zz_endB s = true) : s.status = .running ∧ s.frames = .throwing 6 :: Lib.HandBits.below0 := by
  unfold zz_endB at h
  rw [Bool.and_eq_true] at h
  obtain ⟨h1, h2⟩ := h
  refine ⟨of_decide_eq_true h1, ?_⟩
  split at h2
  · rename_i a f hf
    rw [hf]
    obtain ⟨m, ar, sta, sav, aw, an, lo, wo⟩ := f
    simp only [Bool.and_eq_true, decide_eq_true_eq, Bool.not_eq_true', Option.isNone_iff_eq_none] at h2
    obtain ⟨⟨⟨⟨⟨⟨⟨⟨e1, e2⟩, e3⟩, e4⟩, e5⟩, e6⟩, e7⟩, e8⟩, e9⟩ := h2
    subst e1 e2 e3 e4 e5 e6 e7 e8 e9
    rfl
  · cases h2
theorem zz_N : ∃ N, (∀ n, n < N → zz_ok (stepsAlone start1.p0.tables start1.e0 n zz_S) = true) ∧ (stepsAlone start1.p0.tables start1.e0 N zz_S).status = .running ∧ (stepsAlone start1.p0.tables start1.e0 N zz_S).frames = .throwing 6 :: Lib.HandBits.below0 := by
  obtain ⟨k, hk, wk⟩ := zz_go
  have e9 : ∀ j, stepsAlone start1.p0.tables start1.e0 (9 + j) zz_S = stepsAlone start1.p0.tables start1.e0 j zz_9 := fun j => stepsAlone_add _ _ 9 j zz_S
  have eT : ∀ j, stepsAlone start1.p0.tables start1.e0 (9 + (k + j)) zz_S = stepsAlone start1.p0.tables start1.e0 j zz_T := fun j => by rw [e9, stepsAlone_add, hk]
  refine ⟨9 + (k + 9), fun n hn => ?_, ?_⟩
  · rcases Nat.lt_or_ge n 10 with q | q
    · exact zz_k1 n q
    · rcases Nat.lt_or_ge n (9 + k) with q2 | q2
      · obtain ⟨j, rfl⟩ : ∃ j, n = 9 + j := ⟨n - 9, by omega⟩
        rw [e9]
        exact zz_within (wk j (by omega))
      · obtain ⟨j, rfl⟩ : ∃ j, n = 9 + (k + j) := ⟨n - 9 - k, by omega⟩
        rw [eT]
        exact zz_k2 j (by omega)
  · rw [eT]
    exact zz_endS zz_k3
end
section
/-! which words hold at the bad start -/
def zz_g (c : Cond) : Bool := su_isCode c || c.before start1.args0 zz_S
theorem zz_split {α : Type} {p : α → Bool} (n a : Nat) (l : List α) (h1 : ((l.drop a).take n).all p = true) (h2 : (l.drop (a + n)).all p = true) : (l.drop a).all p = true := by
  refine start1.su_all_split p n (l.drop a) h1 ?_
  rw [List.drop_drop]
  exact h2
theorem zz_split0 {α : Type} {p : α → Bool} (l : List α) (h : (l.drop 0).all p = true) : l.all p = true := h
theorem zz_push {s s' : State} {C : Class} (hv : s'.vm.classes = s.vm.classes.push C) {x : MethodName} {meth : Method} (h : (s.methodNamed? x).bind s.vm.method? = some meth) : (s'.methodNamed? x).bind s'.vm.method? = some meth := by
  obtain ⟨m, h1, h2⟩ := Option.bind_eq_some_iff.mp h
  have hat : ∀ c k, s.vm.classes[c]? = some k → s'.vm.classes[c]? = some k := fun c k hk => by
    have hl := (Array.getElem?_eq_some_iff.mp hk).1
    rw [hv, Array.getElem?_push, if_neg (by omega)]
    exact hk
  refine Option.bind_eq_some_iff.mpr ⟨m, ?_, ?_⟩
  · simp only [State.methodNamed?, Option.bind_eq_bind, Option.bind_eq_some_iff, Option.pure_def, Option.some.injEq] at h1 ⊢
    obtain ⟨c, hc, k, hk, i, hi, e⟩ := h1
    refine ⟨c, ?_, k, hat c k hk, i, hi, e⟩
    unfold Vm.findClass at hc ⊢
    rw [hv, Array.findIdx?_push, hc]
    rfl
  · unfold Vm.method? at h2 ⊢
    simp only [Option.bind_eq_bind, Option.bind_eq_some_iff] at h2 ⊢
    obtain ⟨k, hk, e⟩ := h2
    exact ⟨k, hat _ k hk, e⟩
theorem zz_codeG {s s' : State} {C : Class} (hv : s'.vm.classes = s.vm.classes.push C) {a : Array Value} {x : MethodName} {bytes : ByteArray} {maxL : Nat} {ret : Option FieldType} (h : (Cond.code x bytes maxL ret).before a s = true) : (Cond.code x bytes maxL ret).before a s' = true := by
  simp only [Cond.before, Cond.holds, Cond.value] at h ⊢
  cases hb : (s.methodNamed? x).bind s.vm.method? with
  | none =>
    rw [hb] at h
    simp at h
  | some meth =>
    rw [hb] at h
    rw [zz_push hv hb]
    exact h
theorem zz_words {l : List Cond} (h1 : l.all zz_g = true) (h2 : ∀ c ∈ l, c.before start1.args0 start1.about = true) : ∀ c ∈ l, c.before start1.args0 zz_S = true := by
  intro c hc
  have h := List.all_eq_true.mp h1 c hc
  unfold zz_g at h
  cases hq : su_isCode c with
  | false => rw [hq] at h; exact h
  | true =>
    cases c with
    | code x bytes maxL ret => exact zz_codeG (s := start1.about) (C := zz_C) rfl (h2 _ hc)
    | _ => cases hq
set_option maxRecDepth 16384 in
theorem zz_w1_0 : ((tables_1_1.drop 0).take 30).all zz_g = true := by decide +kernel
set_option maxRecDepth 16384 in
theorem zz_w1_30 : ((tables_1_1.drop 30).take 30).all zz_g = true := by decide +kernel
set_option maxRecDepth 16384 in
theorem zz_w1_60 : ((tables_1_1.drop 60).take 30).all zz_g = true := by decide +kernel
set_option maxRecDepth 16384 in
theorem zz_w1_90 : ((tables_1_1.drop 90).take 30).all zz_g = true := by decide +kernel
set_option maxRecDepth 16384 in
theorem zz_w1_120 : ((tables_1_1.drop 120).take 30).all zz_g = true := by decide +kernel
set_option maxRecDepth 16384 in
theorem zz_w1_150 : ((tables_1_1.drop 150).take 30).all zz_g = true := by decide +kernel
set_option maxRecDepth 16384 in
theorem zz_w1_180 : ((tables_1_1.drop 180).take 30).all zz_g = true := by decide +kernel
set_option maxRecDepth 16384 in
theorem zz_w1_210 : ((tables_1_1.drop 210).take 30).all zz_g = true := by decide +kernel
theorem zz_w1_240 : (tables_1_1.drop 240).all zz_g = true := by decide +kernel
theorem zz_w1 : tables_1_1.all zz_g = true := zz_split0 _ (zz_split 30 0 _ zz_w1_0 (zz_split 30 30 _ zz_w1_30 (zz_split 30 60 _ zz_w1_60 (zz_split 30 90 _ zz_w1_90 (zz_split 30 120 _ zz_w1_120 (zz_split 30 150 _ zz_w1_150 (zz_split 30 180 _ zz_w1_180 (zz_split 30 210 _ zz_w1_210 zz_w1_240))))))))
end
section
set_option maxRecDepth 16384 in
theorem zz_w2_0 : ((tables_1_2.drop 0).take 30).all zz_g = true := by decide +kernel
set_option maxRecDepth 16384 in
theorem zz_w2_30 : ((tables_1_2.drop 30).take 30).all zz_g = true := by decide +kernel
set_option maxRecDepth 16384 in
theorem zz_w2_60 : ((tables_1_2.drop 60).take 30).all zz_g = true := by decide +kernel
set_option maxRecDepth 16384 in
theorem zz_w2_90 : ((tables_1_2.drop 90).take 30).all zz_g = true := by decide +kernel
set_option maxRecDepth 16384 in
theorem zz_w2_120 : ((tables_1_2.drop 120).take 30).all zz_g = true := by decide +kernel
set_option maxRecDepth 16384 in
theorem zz_w2_150 : ((tables_1_2.drop 150).take 30).all zz_g = true := by decide +kernel
set_option maxRecDepth 16384 in
theorem zz_w2_180 : ((tables_1_2.drop 180).take 30).all zz_g = true := by decide +kernel
set_option maxRecDepth 16384 in
theorem zz_w2_210 : ((tables_1_2.drop 210).take 30).all zz_g = true := by decide +kernel
theorem zz_w2_240 : (tables_1_2.drop 240).all zz_g = true := by decide +kernel
theorem zz_w2 : tables_1_2.all zz_g = true := zz_split0 _ (zz_split 30 0 _ zz_w2_0 (zz_split 30 30 _ zz_w2_30 (zz_split 30 60 _ zz_w2_60 (zz_split 30 90 _ zz_w2_90 (zz_split 30 120 _ zz_w2_120 (zz_split 30 150 _ zz_w2_150 (zz_split 30 180 _ zz_w2_180 (zz_split 30 210 _ zz_w2_210 zz_w2_240))))))))
end
section
set_option maxRecDepth 16384 in
theorem zz_w3_0 : ((tables_1_3.drop 0).take 30).all zz_g = true := by decide +kernel
set_option maxRecDepth 16384 in
theorem zz_w3_30 : ((tables_1_3.drop 30).take 30).all zz_g = true := by decide +kernel
set_option maxRecDepth 16384 in
theorem zz_w3_60 : ((tables_1_3.drop 60).take 30).all zz_g = true := by decide +kernel
set_option maxRecDepth 16384 in
theorem zz_w3_90 : ((tables_1_3.drop 90).take 30).all zz_g = true := by decide +kernel
set_option maxRecDepth 16384 in
theorem zz_w3_120 : ((tables_1_3.drop 120).take 30).all zz_g = true := by decide +kernel
set_option maxRecDepth 16384 in
theorem zz_w3_150 : ((tables_1_3.drop 150).take 30).all zz_g = true := by decide +kernel
set_option maxRecDepth 16384 in
theorem zz_w3_180 : ((tables_1_3.drop 180).take 30).all zz_g = true := by decide +kernel
set_option maxRecDepth 16384 in
theorem zz_w3_210 : ((tables_1_3.drop 210).take 30).all zz_g = true := by decide +kernel
theorem zz_w3_240 : (tables_1_3.drop 240).all zz_g = true := by decide +kernel
theorem zz_w3 : tables_1_3.all zz_g = true := zz_split0 _ (zz_split 30 0 _ zz_w3_0 (zz_split 30 30 _ zz_w3_30 (zz_split 30 60 _ zz_w3_60 (zz_split 30 90 _ zz_w3_90 (zz_split 30 120 _ zz_w3_120 (zz_split 30 150 _ zz_w3_150 (zz_split 30 180 _ zz_w3_180 (zz_split 30 210 _ zz_w3_210 zz_w3_240))))))))
end
section
set_option maxRecDepth 16384 in
theorem zz_w4_0 : ((tables_1_4.drop 0).take 30).all zz_g = true := by decide +kernel
set_option maxRecDepth 16384 in
theorem zz_w4_30 : ((tables_1_4.drop 30).take 30).all zz_g = true := by decide +kernel
set_option maxRecDepth 16384 in
theorem zz_w4_60 : ((tables_1_4.drop 60).take 30).all zz_g = true := by decide +kernel
set_option maxRecDepth 16384 in
theorem zz_w4_90 : ((tables_1_4.drop 90).take 30).all zz_g = true := by decide +kernel
set_option maxRecDepth 16384 in
theorem zz_w4_120 : ((tables_1_4.drop 120).take 30).all zz_g = true := by decide +kernel
set_option maxRecDepth 16384 in
theorem zz_w4_150 : ((tables_1_4.drop 150).take 30).all zz_g = true := by decide +kernel
set_option maxRecDepth 16384 in
theorem zz_w4_180 : ((tables_1_4.drop 180).take 30).all zz_g = true := by decide +kernel
set_option maxRecDepth 16384 in
theorem zz_w4_210 : ((tables_1_4.drop 210).take 30).all zz_g = true := by decide +kernel
theorem zz_w4_240 : (tables_1_4.drop 240).all zz_g = true := by decide +kernel
theorem zz_w4 : tables_1_4.all zz_g = true := zz_split0 _ (zz_split 30 0 _ zz_w4_0 (zz_split 30 30 _ zz_w4_30 (zz_split 30 60 _ zz_w4_60 (zz_split 30 90 _ zz_w4_90 (zz_split 30 120 _ zz_w4_120 (zz_split 30 150 _ zz_w4_150 (zz_split 30 180 _ zz_w4_180 (zz_split 30 210 _ zz_w4_210 zz_w4_240))))))))
end
section
set_option maxRecDepth 16384 in
theorem zz_w5_0 : ((tables_1_5.drop 0).take 30).all zz_g = true := by decide +kernel
set_option maxRecDepth 16384 in
theorem zz_w5_30 : ((tables_1_5.drop 30).take 30).all zz_g = true := by decide +kernel
set_option maxRecDepth 16384 in
theorem zz_w5_60 : ((tables_1_5.drop 60).take 30).all zz_g = true := by decide +kernel
set_option maxRecDepth 16384 in
theorem zz_w5_90 : ((tables_1_5.drop 90).take 30).all zz_g = true := by decide +kernel
set_option maxRecDepth 16384 in
theorem zz_w5_120 : ((tables_1_5.drop 120).take 30).all zz_g = true := by decide +kernel
set_option maxRecDepth 16384 in
theorem zz_w5_150 : ((tables_1_5.drop 150).take 30).all zz_g = true := by decide +kernel
set_option maxRecDepth 16384 in
theorem zz_w5_180 : ((tables_1_5.drop 180).take 30).all zz_g = true := by decide +kernel
set_option maxRecDepth 16384 in
theorem zz_w5_210 : ((tables_1_5.drop 210).take 30).all zz_g = true := by decide +kernel
theorem zz_w5_240 : (tables_1_5.drop 240).all zz_g = true := by decide +kernel
theorem zz_w5 : tables_1_5.all zz_g = true := zz_split0 _ (zz_split 30 0 _ zz_w5_0 (zz_split 30 30 _ zz_w5_30 (zz_split 30 60 _ zz_w5_60 (zz_split 30 90 _ zz_w5_90 (zz_split 30 120 _ zz_w5_120 (zz_split 30 150 _ zz_w5_150 (zz_split 30 180 _ zz_w5_180 (zz_split 30 210 _ zz_w5_210 zz_w5_240))))))))
end
section
set_option maxRecDepth 16384 in
theorem zz_w6_0 : ((tables_1_6.drop 0).take 30).all zz_g = true := by decide +kernel
set_option maxRecDepth 16384 in
theorem zz_w6_30 : ((tables_1_6.drop 30).take 30).all zz_g = true := by decide +kernel
set_option maxRecDepth 16384 in
theorem zz_w6_60 : ((tables_1_6.drop 60).take 30).all zz_g = true := by decide +kernel
set_option maxRecDepth 16384 in
theorem zz_w6_90 : ((tables_1_6.drop 90).take 30).all zz_g = true := by decide +kernel
set_option maxRecDepth 16384 in
theorem zz_w6_120 : ((tables_1_6.drop 120).take 30).all zz_g = true := by decide +kernel
set_option maxRecDepth 16384 in
theorem zz_w6_150 : ((tables_1_6.drop 150).take 30).all zz_g = true := by decide +kernel
set_option maxRecDepth 16384 in
theorem zz_w6_180 : ((tables_1_6.drop 180).take 30).all zz_g = true := by decide +kernel
set_option maxRecDepth 16384 in
theorem zz_w6_210 : ((tables_1_6.drop 210).take 30).all zz_g = true := by decide +kernel
theorem zz_w6_240 : (tables_1_6.drop 240).all zz_g = true := by decide +kernel
theorem zz_w6 : tables_1_6.all zz_g = true := zz_split0 _ (zz_split 30 0 _ zz_w6_0 (zz_split 30 30 _ zz_w6_30 (zz_split 30 60 _ zz_w6_60 (zz_split 30 90 _ zz_w6_90 (zz_split 30 120 _ zz_w6_120 (zz_split 30 150 _ zz_w6_150 (zz_split 30 180 _ zz_w6_180 (zz_split 30 210 _ zz_w6_210 zz_w6_240))))))))
end
section
set_option maxRecDepth 16384 in
theorem zz_w7_0 : ((tables_1_7.drop 0).take 30).all zz_g = true := by decide +kernel
set_option maxRecDepth 16384 in
theorem zz_w7_30 : ((tables_1_7.drop 30).take 30).all zz_g = true := by decide +kernel
set_option maxRecDepth 16384 in
theorem zz_w7_60 : ((tables_1_7.drop 60).take 30).all zz_g = true := by decide +kernel
set_option maxRecDepth 16384 in
theorem zz_w7_90 : ((tables_1_7.drop 90).take 30).all zz_g = true := by decide +kernel
theorem zz_w7_120 : (tables_1_7.drop 120).all zz_g = true := by decide +kernel
theorem zz_w7 : tables_1_7.all zz_g = true := zz_split0 _ (zz_split 30 0 _ zz_w7_0 (zz_split 30 30 _ zz_w7_30 (zz_split 30 60 _ zz_w7_60 (zz_split 30 90 _ zz_w7_90 zz_w7_120))))
end
section
theorem zz_all : ∀ c ∈ (Cond.code x code maxLocals ret :: tables_1), c.before start1.args0 zz_S = true := by
  intro c hc
  have hw := start1.words
  rcases List.mem_cons.mp hc with h | h
  · rw [h]
    exact zz_codeG (s := start1.about) (C := zz_C) rfl (hw _ (List.mem_cons_self ..))
  · have hm : ∀ q ∈ tables_1, q.before start1.args0 start1.about = true := fun q hq => hw q (List.mem_cons_of_mem _ hq)
    have h1 : c ∈ tables_1_1 ++ (tables_1_2 ++ (tables_1_3 ++ (tables_1_4 ++ (tables_1_5 ++ (tables_1_6 ++ tables_1_7))))) := h
    have hm' : ∀ q, q ∈ tables_1_1 ++ (tables_1_2 ++ (tables_1_3 ++ (tables_1_4 ++ (tables_1_5 ++ (tables_1_6 ++ tables_1_7))))) → q.before start1.args0 start1.about = true := fun q hq => hm q hq
    rcases List.mem_append.mp h1 with h2 | h1
    · exact zz_words zz_w1 (fun q hq => hm' q (List.mem_append.mpr (Or.inl hq))) c h2
    rcases List.mem_append.mp h1 with h2 | h1
    · exact zz_words zz_w2 (fun q hq => hm' q (List.mem_append.mpr (Or.inr (List.mem_append.mpr (Or.inl hq))))) c h2
    rcases List.mem_append.mp h1 with h2 | h1
    · exact zz_words zz_w3 (fun q hq => hm' q (List.mem_append.mpr (Or.inr (List.mem_append.mpr (Or.inr (List.mem_append.mpr (Or.inl hq))))))) c h2
    rcases List.mem_append.mp h1 with h2 | h1
    · exact zz_words zz_w4 (fun q hq => hm' q (List.mem_append.mpr (Or.inr (List.mem_append.mpr (Or.inr (List.mem_append.mpr (Or.inr (List.mem_append.mpr (Or.inl hq))))))))) c h2
    rcases List.mem_append.mp h1 with h2 | h1
    · exact zz_words zz_w5 (fun q hq => hm' q (List.mem_append.mpr (Or.inr (List.mem_append.mpr (Or.inr (List.mem_append.mpr (Or.inr (List.mem_append.mpr (Or.inr (List.mem_append.mpr (Or.inl hq))))))))))) c h2
    rcases List.mem_append.mp h1 with h2 | h1
    · exact zz_words zz_w6 (fun q hq => hm' q (List.mem_append.mpr (Or.inr (List.mem_append.mpr (Or.inr (List.mem_append.mpr (Or.inr (List.mem_append.mpr (Or.inr (List.mem_append.mpr (Or.inr (List.mem_append.mpr (Or.inl hq))))))))))))) c h2
    exact zz_words zz_w7 (fun q hq => hm' q (List.mem_append.mpr (Or.inr (List.mem_append.mpr (Or.inr (List.mem_append.mpr (Or.inr (List.mem_append.mpr (Or.inr (List.mem_append.mpr (Or.inr (List.mem_append.mpr (Or.inr hq))))))))))))) c h1
set_option maxRecDepth 16384 in
theorem zz_at : AtStart classFile x code maxLocals ret World_1 tables_1 room_1 Calls_1 rest_1 Pre_1 launch0 start1.p0 start1.e0 zz_S ⟨0, 0⟩ start1.args0 Lib.HandBits.below0 :=
  ⟨lists_1, trivial, launch0.admits_env _ _ _, launch0.least_env, fairChoices_fair.cas, fairChoices_fair.clock, rfl, by decide +kernel, by decide +kernel,
    (Spec.applies_iff rfl).mpr ⟨rfl, rfl, rfl, by decide +kernel, by decide +kernel, by decide +kernel, launch0.hasRoom_least _ room_1 (by decide +kernel) (by decide +kernel) (by decide +kernel) (by decide +kernel) (by decide +kernel) (by decide +kernel), atoms_intro zz_all⟩,
    trivial, (show rest_1_c.before start1.args0 zz_S = true by decide +kernel), (show (Cond.and given_1 narrow_1).before start1.args0 zz_S = true by decide +kernel)⟩
/-- while it runs, the frames below lie there as they lay -/
def zz_nat (f : NFrame) : Bool := decide (f.method = ⟨0, 0⟩) && decide (f.args = #[]) && decide (f.stage = 0) && decide (f.saved = #[]) && !f.awaiting && f.answer.isNone && f.locked.isNone && decide (f.words = 0)
theorem zz_natE {f : NFrame} (h : zz_nat f = true) : [Frame.native f] = Lib.HandBits.below0 := by
  unfold zz_nat at h
  obtain ⟨m, ar, sta, sav, aw, an, lo, wo⟩ := f
  simp only [Bool.and_eq_true, decide_eq_true_eq, Bool.not_eq_true', Option.isNone_iff_eq_none] at h
  obtain ⟨⟨⟨⟨⟨⟨⟨e2, e3⟩, e4⟩, e5⟩, e6⟩, e7⟩, e8⟩, e9⟩ := h
  subst e2 e3 e4 e5 e6 e7 e8 e9
  rfl
def zz_inB (fs : List Frame) : Bool := match fs.reverse with
  | .native f :: _ :: _ :: _ => zz_nat f
  | [.native f, .throwing _] => false && zz_nat f
  | [.native f, _] => zz_nat f
  | _ => false
theorem zz_inW {fs : List Frame} (h : zz_inB fs = true) : ∃ above, fs = above ++ Lib.HandBits.below0 ∧ above ≠ [] ∧ ∀ a, above ≠ [.throwing a] := by
  unfold zz_inB at h
  split at h
  · rename_i f x y r hf
    have e : fs = (x :: y :: r).reverse ++ [.native f] := by rw [← List.reverse_reverse fs, hf, List.reverse_cons]
    refine ⟨(x :: y :: r).reverse, by rw [← zz_natE h]; exact e, fun z => ?_, fun a z => ?_⟩
    · have := congrArg List.length z
      simp at this
    · have := congrArg List.length z
      simp at this
  · cases h
  · rename_i f x hx hf
    have e : fs = [x] ++ [.native f] := by rw [← List.reverse_reverse fs, hf, List.reverse_cons]; rfl
    refine ⟨[x], by rw [← zz_natE h]; exact e, (fun z => by cases z), fun a z => ?_⟩
    injection z with z1 z2
    exact hx a z1
  · cases h
theorem zz_j1 : ∀ n, n < 10 → zz_inB (zz_st n).frames = true := by decide +kernel
theorem zz_j2 : ∀ n, n < 9 → zz_inB (stepsAlone start1.p0.tables start1.e0 n zz_T).frames = true := by decide +kernel
theorem zz_j3 : zz_inB zz_b = true := by decide +kernel
theorem zz_M : ∃ N, (∀ n, n < N → Within (stepsAlone start1.p0.tables start1.e0 n zz_S) Lib.HandBits.below0) ∧ (stepsAlone start1.p0.tables start1.e0 N zz_S).status = .running ∧ (stepsAlone start1.p0.tables start1.e0 N zz_S).frames = .throwing 6 :: Lib.HandBits.below0 := by
  obtain ⟨k, hk, wk⟩ := zz_go
  have e9 : ∀ j, stepsAlone start1.p0.tables start1.e0 (9 + j) zz_S = stepsAlone start1.p0.tables start1.e0 j zz_9 := fun j => stepsAlone_add _ _ 9 j zz_S
  have eT : ∀ j, stepsAlone start1.p0.tables start1.e0 (9 + (k + j)) zz_S = stepsAlone start1.p0.tables start1.e0 j zz_T := fun j => by rw [e9, stepsAlone_add, hk]
  refine ⟨9 + (k + 9), fun n hn => ?_, ?_⟩
  · rcases Nat.lt_or_ge n 10 with q | q
    · exact zz_inW (zz_j1 n q)
    · rcases Nat.lt_or_ge n (9 + k) with q2 | q2
      · obtain ⟨j, rfl⟩ : ∃ j, n = 9 + j := ⟨n - 9, by omega⟩
        rw [e9]
        obtain ⟨above, a1, a2, a3⟩ := wk j (by omega)
        obtain ⟨ab, b1, b2, b3⟩ := zz_inW zz_j3
        refine ⟨above ++ ab, by rw [a1, b1, List.append_assoc], fun z => a2 (List.append_eq_nil_iff.mp z).1, fun a z => ?_⟩
        have := congrArg List.length z
        rw [List.length_append] at this
        have l1 : 0 < above.length := List.length_pos_iff.mpr a2
        have l2 : 0 < ab.length := List.length_pos_iff.mpr b2
        simp at this
        omega
      · obtain ⟨j, rfl⟩ : ∃ j, n = 9 + (k + j) := ⟨n - 9 - k, by omega⟩
        rw [eT]
        exact zz_inW (zz_j2 j (by omega))
  · rw [eT]
    exact zz_endS zz_k3
/-- the first part of the claim falls: the law ends there with a throw -/
theorem zz_falls1 : RefutedClaimed_1_1 := by
  obtain ⟨N, h0, h1, h2⟩ := zz_M
  refine ⟨launch0, start1.p0, start1.e0, zz_S, ⟨0, 0⟩, start1.args0, Lib.HandBits.below0, rfl, zz_at, N, .threw 6, h0, h1, h2, fun h => ?_⟩
  have h := h.1
  exact Bool.false_ne_true h
/-- and so does the second -/
theorem zz_falls2 : RefutedClaimed_1_2 := by
  obtain ⟨N, h0, h1, h2⟩ := zz_M
  refine ⟨launch0, start1.p0, start1.e0, zz_S, ⟨0, 0⟩, start1.args0, Lib.HandBits.below0, rfl, zz_at, N, .threw 6, h0, h1, h2, fun h => ?_⟩
  have h := h.1
  exact Bool.false_ne_true h
/-- the claim, as it is written, is false -/
theorem zz_false : ¬ Claimed_1_1 := by
  intro h
  obtain ⟨g1, g2, g3, -, g5, g6, g7, g8, g9, g10, g11, g12, g13⟩ := zz_at
  obtain ⟨n, o, hw, hr, he, hp⟩ := h launch0 rfl g1 g2 start1.p0 start1.e0 g3 g5 g6 zz_S ⟨0, 0⟩ start1.args0 Lib.HandBits.below0 g7 g8 g9 g10 ⟨g11, g12, g13⟩
  obtain ⟨N, n1, n2, n3⟩ := zz_N
  rcases Nat.lt_trichotomy n N with q | q | q
  · have := n1 n q
    rw [zz_ended he] at this
    cases this
  · subst q
    cases o with
    | threw a => exact Bool.false_ne_true hp.1
    | returned v =>
      have he : (stepsAlone start1.p0.tables start1.e0 n zz_S).frames = .native { method := ⟨0, 0⟩, args := #[], awaiting := false, answer := some (.returned v) } :: [] := he
      rw [n3] at he
      cases he
  · obtain ⟨above, w1, w2, w3⟩ := hw N q
    rw [n3] at w1
    have w4 : ([.throwing 6] : List Frame) = above := List.append_cancel_right (w1 : [.throwing 6] ++ Lib.HandBits.below0 = above ++ Lib.HandBits.below0)
    exact w3 6 w4.symm
end
