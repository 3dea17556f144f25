/-! which words hold at the bad start -/
def zz_g (c : Cond) : Bool := su_isCode c || c.before start1.args0 zz_S
theorem zz_split {α : Type} {p : α → Bool} (n a : Nat) (l : List α) (h1 : ((l.drop a).take n).all p = true) (h2 : (l.drop (a + n)).all p = true) : (l.drop a).all p = true := by
  refine start1.su_all_split p n (l.drop a) h1 ?_
  rw [List.drop_drop]
  exact h2
theorem zz_split0 {α : Type} {p : α → Bool} (l : List α) (h : (l.drop 0).all p = true) : l.all p = true := h
theorem zz_push {s s' : State} {C : Class} (hv : s'.vm.classes = s.vm.classes.push C) {x : MethodName} {meth : Method} (h : (s.methodNamed? x).bind s.vm.method? = some meth) : (s'.methodNamed? x).bind s'.vm.method? = some meth := by
  obtain ⟨m, h1, h2⟩ := Option.bind_eq_some_iff.mp h
  have hat : ∀ c k, s.vm.classes[c]? = some k → s'.vm.classes[c]? = some k := fun c k hk => by
    have hl := (Array.getElem?_eq_some_iff.mp hk).1
    rw [hv, Array.getElem?_push, if_neg (by omega)]
    exact hk
  refine Option.bind_eq_some_iff.mpr ⟨m, ?_, ?_⟩
  · simp only [State.methodNamed?, Option.bind_eq_bind, Option.bind_eq_some_iff, Option.pure_def, Option.some.injEq] at h1 ⊢
    obtain ⟨c, hc, k, hk, i, hi, e⟩ := h1
    refine ⟨c, ?_, k, hat c k hk, i, hi, e⟩
    unfold Vm.findClass at hc ⊢
    rw [hv, Array.findIdx?_push, hc]
    rfl
  · unfold Vm.method? at h2 ⊢
    simp only [Option.bind_eq_bind, Option.bind_eq_some_iff] at h2 ⊢
    obtain ⟨k, hk, e⟩ := h2
    exact ⟨k, hat _ k hk, e⟩
theorem zz_codeG {s s' : State} {C : Class} (hv : s'.vm.classes = s.vm.classes.push C) {a : Array Value} {x : MethodName} {bytes : ByteArray} {maxL : Nat} {ret : Option FieldType} (h : (Cond.code x bytes maxL ret).before a s = true) : (Cond.code x bytes maxL ret).before a s' = true := by
  simp only [Cond.before, Cond.holds, Cond.value] at h ⊢
  cases hb : (s.methodNamed? x).bind s.vm.method? with
  | none =>
    rw [hb] at h
    simp at h
  | some meth =>
    rw [hb] at h
    rw [zz_push hv hb]
    exact h
theorem zz_words {l : List Cond} (h1 : l.all zz_g = true) (h2 : ∀ c ∈ l, c.before start1.args0 start1.about = true) : ∀ c ∈ l, c.before start1.args0 zz_S = true := by
  intro c hc
  have h := List.all_eq_true.mp h1 c hc
  unfold zz_g at h
  cases hq : su_isCode c with
  | false => rw [hq] at h; exact h
  | true =>
    cases c with
    | code x bytes maxL ret => exact zz_codeG (s := start1.about) (C := zz_C) rfl (h2 _ hc)
    | _ => cases hq
set_option maxRecDepth 16384 in
theorem zz_w1_0 : ((tables_1_1.drop 0).take 30).all zz_g = true := by decide +kernel
set_option maxRecDepth 16384 in
theorem zz_w1_30 : ((tables_1_1.drop 30).take 30).all zz_g = true := by decide +kernel
set_option maxRecDepth 16384 in
theorem zz_w1_60 : ((tables_1_1.drop 60).take 30).all zz_g = true := by decide +kernel
set_option maxRecDepth 16384 in
theorem zz_w1_90 : ((tables_1_1.drop 90).take 30).all zz_g = true := by decide +kernel
set_option maxRecDepth 16384 in
theorem zz_w1_120 : ((tables_1_1.drop 120).take 30).all zz_g = true := by decide +kernel
set_option maxRecDepth 16384 in
theorem zz_w1_150 : ((tables_1_1.drop 150).take 30).all zz_g = true := by decide +kernel
set_option maxRecDepth 16384 in
theorem zz_w1_180 : ((tables_1_1.drop 180).take 30).all zz_g = true := by decide +kernel
set_option maxRecDepth 16384 in
theorem zz_w1_210 : ((tables_1_1.drop 210).take 30).all zz_g = true := by decide +kernel
theorem zz_w1_240 : (tables_1_1.drop 240).all zz_g = true := by decide +kernel
theorem zz_w1 : tables_1_1.all zz_g = true := zz_split0 _ (zz_split 30 0 _ zz_w1_0 (zz_split 30 30 _ zz_w1_30 (zz_split 30 60 _ zz_w1_60 (zz_split 30 90 _ zz_w1_90 (zz_split 30 120 _ zz_w1_120 (zz_split 30 150 _ zz_w1_150 (zz_split 30 180 _ zz_w1_180 (zz_split 30 210 _ zz_w1_210 zz_w1_240))))))))
