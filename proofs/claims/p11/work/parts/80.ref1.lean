/-! EVIDENCE: a start that meets every premise and from which the law ends with a throw. The witness's own start, with one class more in the table (a second class of the kind 'array of int', whose own clone throws: aload_0, athrow), and SETTING_FIRST's array of that class -/
def zz_C : Class := { start1.cArr "another" 30 .int with interfaces := #[22], methods := #[Lib.HandJ.method "clone" "()Ljava/lang/Object;" [] (some (.object "java/lang/Object")) 0x1 1 ⟨#[0x2a, 0xbf]⟩] }
def zz_S : State := { start1.about with
  vm := { start1.about.vm with classes := start1.about.vm.classes.push zz_C }
  heap := start1.about.heap.modify 6 (fun c => { c with cls := 38 }) }
def zz_st (n : Nat) : State := stepsAlone start1.p0.tables start1.e0 n zz_S
/-- the law has not ended here -/
def zz_ok (s : State) : Bool := match s.frames with
  | .throwing _ :: r => decide (1 < r.length)
  | fs => decide (1 < fs.length)
def zz_9 : State := zz_st 9
def zz_b : List Frame := zz_9.frames.tail
def zz_f : JFrame := (zz_9.topJava?).getD { method := ⟨0, 0⟩, pc := 0, locals := #[], stack := [], locked := none }
def zz_T : State := (zz_9.pushCell { cls := 33, slots := Array.replicate 4096 (.int 0), vm := .none }).setTop { zz_f with pc := 10, stack := .ref zz_9.heap.size :: zz_f.stack.tail }
def zz_y : MethodName := ⟨"LoopForge", "<init>", "()V"⟩
theorem zz_d8 : decode prog_1_method_1_code 8 = .ok (.newarray .byte, 2) := by decide +kernel
