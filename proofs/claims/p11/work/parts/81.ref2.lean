theorem zz_cur : zz_9.cur < zz_9.threads.size := by decide +kernel
theorem zz_isS : zz_9.topJava?.isSome = true := by decide +kernel
theorem zz_top : zz_9.topJava? = some zz_f := by
  obtain ⟨g, hg⟩ := Option.isSome_iff_exists.mp zz_isS
  unfold zz_f
  rw [hg]
  rfl
theorem zz_fr : zz_9.frames = .java zz_f :: zz_b := by
  obtain ⟨r, hr⟩ := State.topJava?_eq_some.mp zz_top
  unfold zz_b
  rw [hr]
  rfl
theorem zz_fm : zz_f.method = ⟨2, 0⟩ := by decide +kernel
theorem zz_fpc : zz_f.pc = 8 := by decide +kernel
theorem zz_fst : zz_f.stack = [.int 4096, .ref zz_S.heap.size] := by decide +kernel
def zz_a : Array Value := #[.ref zz_S.heap.size]
def zz_R : Room := { frames := 2, cells := 1, slots := 4096, locals := 30 }
def zz_s : State := zz_9.setFrames (.invoking ⟨2, 0⟩ zz_a :: zz_b)
theorem zz_sfr : zz_s.frames = .invoking ⟨2, 0⟩ zz_a :: zz_b := State.frames_setFrames _ zz_cur
theorem zz_scur : zz_s.cur < zz_s.threads.size := State.cur_lt_of_frames zz_sfr
theorem zz_nm : zz_s.methodNamed? zz_y = some ⟨2, 0⟩ := by decide +kernel
theorem zz_hears : zz_s.hears ⟨2, 0⟩ zz_b = true := by decide +kernel
theorem zz_ripe : zz_s.classRipe ⟨2, 0⟩ = true := by decide +kernel
theorem zz_room : zz_s.hasRoom start1.e0.platform zz_R = true := by decide +kernel
theorem zz_m1 : (zz_s.vm.method? ⟨2, 0⟩).map (fun x => (decide (x.sig.returnType = none), x.locks)) = some (true, false) := by decide +kernel
theorem zz_m2 : ((zz_s.vm.method? ⟨2, 0⟩).bind (fun x => x.code)).map (fun c => decide (c.code = prog_1_method_1_code)) = some true := by decide +kernel
theorem zz_arr : (Cond.arrayClass (newarray.typeOf .byte)).before zz_a zz_s = true := by decide +kernel
theorem zz_run9 : zz_s.status = .running ∧ zz_s.curStatus? = some .runnable ∧ zz_s.alone = true := by decide +kernel
theorem zz_cA : zz_s.vm.findClass ("[" ++ (newarray.typeOf .byte).toString) = some 33 := by decide +kernel
