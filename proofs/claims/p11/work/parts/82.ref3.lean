/-- one newarray of bytes, by the library's own law, from any state that stands in a method's frame -/
theorem zz_gen {p : Program} {e : Env} (S : State) (f : JFrame) (b : List Frame) (a : Array Value) (R : Room) (y : MethodName) (cc : ByteArray) (m : MethodId) (cB : ClassId) {n : Int32} {rest : List Value} (ha : launch0.admits e) (hc : FairCas e.choices) (hk : FairClock e.choices) (hfr : S.frames = .java f :: b) (hexec : p.tables.exec = Jvm.exec)
    (hnm : (S.setFrames (.invoking m a :: b)).methodNamed? y = some m) (hh : (S.setFrames (.invoking m a :: b)).hears m b = true) (hr : (S.setFrames (.invoking m a :: b)).classRipe m = true) (hroom : (S.setFrames (.invoking m a :: b)).hasRoom e.platform R = true)
    (hm1 : ((S.setFrames (.invoking m a :: b)).vm.method? m).map (fun x => (decide (x.sig.returnType = none), x.locks)) = some (true, false)) (hm2 : (((S.setFrames (.invoking m a :: b)).vm.method? m).bind (fun x => x.code)).map (fun c => decide (c.code = cc)) = some true)
    (harr : (Cond.arrayClass (newarray.typeOf .byte)).before a (S.setFrames (.invoking m a :: b)) = true) (hrun : (S.setFrames (.invoking m a :: b)).status = .running ∧ (S.setFrames (.invoking m a :: b)).curStatus? = some .runnable ∧ (S.setFrames (.invoking m a :: b)).alone = true)
    (hcA : (S.setFrames (.invoking m a :: b)).vm.findClass ("[" ++ (newarray.typeOf .byte).toString) = some cB) (hpl : plainName y.cls = true) (hfm : f.method = m) (hd : decode cc f.pc = .ok (.newarray .byte, 2)) (hst : f.stack = .int n :: rest) (hn : ¬ n < 0) (hby : n.toNatClampNeg * componentBytes (newarray.typeOf .byte) ≤ 536870912) (hR : 1 ≤ R.cells ∧ n.toNatClampNeg ≤ R.slots) :
    Steps p.tables e b S ((S.pushCell { cls := cB, slots := Array.replicate n.toNatClampNeg (defaultValue (newarray.typeOf .byte)), vm := .none }).setTop { f with pc := f.pc + 2, stack := .ref S.heap.size :: rest }) := by
  have hcur0 := State.cur_lt_of_frames hfr
  generalize hs : S.setFrames (.invoking m a :: b) = s at *
  have sfr : s.frames = .invoking m a :: b := by rw [← hs]; exact State.frames_setFrames _ hcur0
  have scur := State.cur_lt_of_frames sfr
  have s1 : (s.setFrames (.java (entryFrame m a 1) :: b)).frames = .java (entryFrame m a 1) :: b := State.frames_setFrames _ scur
  obtain ⟨meth, hmeth⟩ : ∃ x, s.vm.method? m = some x := by
    cases h : s.vm.method? m with
    | none => rw [h] at hm1; cases hm1
    | some x => exact ⟨x, rfl⟩
  rw [hmeth] at hm1 hm2
  obtain ⟨c, hcode⟩ : ∃ c, meth.code = some c := by
    cases h : meth.code with
    | none => simp [h] at hm2
    | some c => exact ⟨c, rfl⟩
  have hbytes : c.code = cc := by simpa [hcode] using hm2
  have hret : meth.sig.returnType = none ∧ meth.locks = false := by simpa using hm1
  have ht1 := State.topJava?_of_frames s1
  have hplain : (s.setFrames (.java (entryFrame m a 1) :: b)).plainMethod m := by
    refine State.plainMethod.of_name ?_
    intro k hk
    obtain ⟨k', hk', hn⟩ := className_of_methodNamed hnm
    cases (show s.vm.classes[m.cls]? = some k from hk).symm.trans hk'
    rw [hn]
    exact hpl
  have hAt : At (s.setFrames (.java (entryFrame m a 1) :: b)) m c b :=
    ⟨by rw [ht1]; rfl, ⟨[], by rw [s1]; rfl⟩, hrun.1, by simpa using hrun.2.1, by simpa using hrun.2.2, by rw [State.code?_eq]; simp [State.setFrames, hmeth, hcode], hplain⟩
  have B : BodyLoose p launch0 y (headSpec [] R) cc 1 none e s m a b meth c (s.setFrames (.java (entryFrame m a 1) :: b)) :=
    ⟨ha, hc, hk, hexec, sfr, hnm, hh, hr, hroom, rfl, hmeth, hret.1, hret.2, hbytes, rfl, hAt⟩
  have X := Stand.of_body B
  obtain ⟨cA, kA, comp, h1, h2, h3, X', st⟩ := X.newarrayPrim (atype := .byte) hexec harr (g := f) hfm (by rw [hbytes]; exact hd) hst hn hby (by show 0 + 1 ≤ R.cells; omega) (by show 0 + _ ≤ R.slots; omega)
  have e33 : cA = cB := Option.some.inj (h1.symm.trans hcA)
  subst e33
  obtain ⟨t, ht, -⟩ := State.frames_cons hfr
  have eS : s.setFrames (.java f :: b) = S := by
    rw [← hs, State.setFrames_setFrames, ← hfr]
    exact State.setFrames_self ht
  have eA : (s.setFrames (.java (entryFrame m a 1) :: b)).setTop f = S := by
    rw [State.setTop_of_frames _ s1, State.setFrames_setFrames]
    exact eS
  have hheap : (s.setFrames (.java (entryFrame m a 1) :: b)).heap.size = S.heap.size := by rw [← hs]; rfl
  have key := fun tg => st tg
  rw [eA, hheap] at key
  refine key _ ?_
  have hpush : ∀ (U : State) (fs : List Frame) (x : Cell), (U.setFrames fs).pushCell x = (U.pushCell x).setFrames fs := fun U fs x => rfl
  have e2 : ∀ (x : Cell) (g : JFrame), ((s.setFrames (.java (entryFrame m a 1) :: b)).pushCell x).setTop g = (S.pushCell x).setTop g := by
    intro x g
    have f1 : ((s.setFrames (.java (entryFrame m a 1) :: b)).pushCell x).frames = .java (entryFrame m a 1) :: b := s1
    have f2 : (S.pushCell x).frames = .java f :: b := hfr
    rw [State.setTop_of_frames _ f1, State.setTop_of_frames _ f2, ← hs, hpush, hpush, State.setFrames_setFrames, State.setFrames_setFrames]
  rw [e2]
  exact Steps.refl _
theorem zz_go : Steps start1.p0.tables start1.e0 zz_b zz_9 zz_T := by
  have h := zz_gen (p := start1.p0) (e := start1.e0) zz_9 zz_f zz_b zz_a zz_R zz_y prog_1_method_1_code ⟨2, 0⟩ 33 (n := 4096) (rest := [.ref zz_S.heap.size]) (launch0.admits_env _ _ _) fairChoices_fair.cas fairChoices_fair.clock zz_fr rfl zz_nm zz_hears zz_ripe zz_room zz_m1 zz_m2 zz_arr zz_run9 zz_cA (by decide) zz_fm (by rw [zz_fpc]; exact zz_d8) zz_fst (by decide) (by decide) (by decide)
  have e : zz_T = (zz_9.pushCell { cls := 33, slots := Array.replicate (4096 : Int32).toNatClampNeg (defaultValue (newarray.typeOf .byte)), vm := .none }).setTop { zz_f with pc := zz_f.pc + 2, stack := .ref zz_9.heap.size :: [.ref zz_S.heap.size] } := by
    unfold zz_T
    rw [zz_fpc, zz_fst]
    rfl
  rw [e]
  exact h
