/-! MY ENGINE. A system's cells have NAMES 0 .. n-1; 'ad' gives the address of a name, 'al k j' the int at field or element j of the cell named k, 'ln k' the length of an array whose length may change.
A description tells of a name: an object (its class's number in vwCl, its fields: 0 an int, 1 null, k+2 a reference to the cell named k) or an array (0: bytes, 1: ints, 2: ints, its length in ln, 3: Row[], 4: int[][]). -/
abbrev zDesc : Type := (Nat × List Nat) ⊕ (Nat × Nat × Nat × Nat)
abbrev zT : Type := Nat × (Nat → zDesc)
def zV (ad : Nat → Nat) (x : Int32) (c : Nat) : Value := match c with
  | 0 => .int x
  | 1 => .null
  | k + 2 => .ref (ad k)
def zF (ad : Nat → Nat) (f : Nat → Int32) : Nat → List Nat → List Value
  | _, [] => []
  | j, c :: t => zV ad (f j) c :: zF ad f (j + 1) t
def zRow (ad : Nat → Nat) (b c : Nat) : Nat → Option Nat := fun i => some (ad (b + c * i))
def zEn (cy : Nat → ClassId) (ad : Nat → Nat) (f : Nat → Int32) (len : Nat) (d : zDesc) : va_E := match d with
  | .inl o => .inr (o.1, zF ad f 0 o.2)
  | .inr (0, a, _, _) => .inl (cy 0, a, .inl f)
  | .inr (1, a, _, _) => .inl (cy 1, a, .inl f)
  | .inr (2, _, _, _) => .inl (cy 1, len, .inl f)
  | .inr (3, a, b, c) => .inl (cy 2, a, .inr (.inr (.inr (.inr (zRow ad b c)))))
  | .inr (_, a, b, c) => .inl (cy 3, a, .inr (.inr (.inr (.inr (zRow ad b c)))))
def zW (cy : Nat → ClassId) (T : zT) (ad : Nat → Nat) (al : Nat → Nat → Int32) (ln : Nat → Nat) : va_W := (List.range T.1).map (fun k => (ad k, zEn cy ad (al k) (ln k) (T.2 k)))
/-- al, but v at (k, j) -/
def up2 (al : Nat → Nat → Int32) (k j : Nat) (v : Int32) : Nat → Nat → Int32 := fun a b => if a = k ∧ b = j then v else al a b
theorem up2_self (al : Nat → Nat → Int32) (k j : Nat) (v : Int32) : up2 al k j v k j = v := by simp [up2]
theorem up2_ne (al : Nat → Nat → Int32) {k j a b : Nat} (v : Int32) (h : ¬ (a = k ∧ b = j)) : up2 al k j v a b = al a b := by simp only [up2, if_neg h]
theorem up2_name (al : Nat → Nat → Int32) {k a : Nat} (j : Nat) (v : Int32) (h : a ≠ k) : up2 al k j v a = al a := by funext b; simp [up2, h]
theorem up2_upd (al : Nat → Nat → Int32) (k j : Nat) (v : Int32) : up2 al k j v k = upd (al k) j v := by funext b; simp [up2, upd]
theorem zW_get {cy : Nat → ClassId} {T : zT} {ad : Nat → Nat} {al : Nat → Nat → Int32} {ln : Nat → Nat} {k : Nat} (h : k < T.1) : (zW cy T ad al ln)[k]? = some (ad k, zEn cy ad (al k) (ln k) (T.2 k)) := by
  simp [zW, h]
theorem zW_set {cy : Nat → ClassId} {T : zT} {ad : Nat → Nat} {al al' : Nat → Nat → Int32} {ln : Nat → Nat} {k : Nat} (h : k < T.1) (ho : ∀ a, a ≠ k → al' a = al a) : (zW cy T ad al ln).set k (ad k, zEn cy ad (al' k) (ln k) (T.2 k)) = zW cy T ad al' ln := by
  apply List.ext_getElem?
  intro i
  by_cases hi : i < T.1
  · by_cases hk : i = k
    · subst hk
      rw [List.getElem?_set_self (by simp [zW, hi]), zW_get hi]
    · rw [List.getElem?_set_ne (Ne.symm hk), zW_get hi, zW_get hi, ho i hk]
  · rw [List.getElem?_eq_none (by simp [zW]; omega), List.getElem?_eq_none (by simp [zW]; omega)]
theorem zF_get (ad : Nat → Nat) (f : Nat → Int32) : ∀ (l : List Nat) (b j c : Nat), l[j]? = some c → (zF ad f b l)[j]? = some (zV ad (f (b + j)) c)
  | [], b, j, c, h => by simp at h
  | x :: t, b, 0, c, h => by
    simp at h
    subst h
    simp [zF]
  | x :: t, b, j + 1, c, h => by
    simp at h
    have := zF_get ad f t (b + 1) j c h
    simp only [zF, List.getElem?_cons_succ]
    rw [this, show b + 1 + j = b + (j + 1) by omega]
theorem zF_len (ad : Nat → Nat) (f : Nat → Int32) : ∀ (l : List Nat) (b : Nat), (zF ad f b l).length = l.length
  | [], b => rfl
  | x :: t, b => by simp [zF, zF_len ad f t (b + 1)]
theorem zF_set (ad : Nat → Nat) (f : Nat → Int32) (v : Int32) : ∀ (l : List Nat) (b j : Nat), l[j]? = some 0 → (zF ad f b l).set j (.int v) = zF ad (upd f (b + j) v) b l
  | [], b, j, h => by simp at h
  | x :: t, b, 0, h => by
    simp at h
    subst h
    have key : ∀ (l : List Nat) (b' : Nat), b < b' → zF ad (upd f (b + 0) v) b' l = zF ad f b' l := by
      intro l
      induction l with
      | nil => intro b' _; rfl
      | cons y l ih => intro b' hb; simp only [zF]; rw [ih (b' + 1) (by omega), pk_un (by omega)]
    simp only [zF, List.set_cons_zero]
    rw [key t (b + 1) (by omega), show upd f (b + 0) v b = v from by rw [Nat.add_zero]; exact pk_us]
    rfl
  | x :: t, b, j + 1, h => by
    simp at h
    have := zF_set ad f v t (b + 1) j h
    simp only [zF, List.set_cons_succ]
    rw [this, show b + 1 + j = b + (j + 1) by omega, pk_un (by omega)]
/-- the launch, the classes' numbers and slots, the arrays' classes: the same for all methods -/
abbrev zG : Type := Launch × va_G × (Nat → ClassId)
/-- a method's body: the machine and what it owes -/
abbrev zC : Type := Program × Env × State × MethodId × Array Value × List Frame × Method × Code × (Nat → Prop) × (State → Prop)
abbrev zTy (cy : Nat → ClassId) : List (ClassId × FieldType) := [(cy 0, .byte), (cy 1, .int), (cy 2, .object "LoopForge$Row"), (cy 3, .array .int)]
/-- links to nest mates -/
def zNestM : List (String × Nat × MethodName) := [("LoopForge$Loop", 21, ⟨"LoopForge$Row", "<init>", "()V"⟩), ("LoopForge$Row", 11, ⟨"LoopForge$Operand", "<init>", "()V"⟩), ("LoopForge$Runner", 137, ⟨"LoopForge", "quotient", "(II)I"⟩), ("LoopForge$Runner", 152, ⟨"LoopForge", "rest", "(II)I"⟩), ("LoopForge$Runner", 166, ⟨"LoopForge", "roundsOfUse", "(II)I"⟩), ("LoopForge$Spans", 109, ⟨"LoopForge", "roundsOfUse", "(II)I"⟩), ("LoopForge$Spans", 115, ⟨"LoopForge", "rest", "(II)I"⟩), ("LoopForge$Spans", 125, ⟨"LoopForge", "quotient", "(II)I"⟩), ("LoopForge$Table", 118, ⟨"LoopForge", "isInGroup", "(II)Z"⟩), ("LoopForge$Table", 124, ⟨"LoopForge", "rest", "(II)I"⟩), ("LoopForge$Waits", 135, ⟨"LoopForge", "quotient", "(II)I"⟩), ("LoopForge$Waits", 138, ⟨"LoopForge", "isInGroup", "(II)Z"⟩), ("LoopForge$Waits", 88, ⟨"LoopForge", "roundsOfUse", "(II)I"⟩)]
def zNestF : List (String × Nat) := [("LoopForge$Table", 127), ("LoopForge$Waits", 129)]
/-- a static array of ints of the class LoopForge, and what it holds -/
def zTab (n : String) (N : Nat) (f : Nat → Int32) (A : Nat → Prop) (U : State) (H : Heap) : Prop := ∃ t : Nat, va_Z "LoopForge" n "[I" (.ref t) A U H ∧ va_T .int t N (fun j => .int (f j)) A U H
def zSF (j : Nat) : Int32 := ([1, 3, 4, 1, 2, 1, 1, 4, 16] : List Int32).getD j 0
def zSL (j : Nat) : Int32 := ([20, 20, 20, 20, 8, 8, 8, 16, 64] : List Int32).getD j 0
def zGS (j : Nat) : Int32 := ([7, 4, 5, 6] : List Int32).getD j 0
/-- what is given of the surroundings: it stays while what lies outside of A stays -/
def zEv (A : Nat → Prop) (U : State) (H : Heap) : Prop := (∀ w ∈ zNestM, va_Nw (.methodLinkNest w.1 w.2.1 w.2.2 "LoopForge") U) ∧ (∀ w ∈ zNestF, va_Nw (.fieldLinkNest w.1 w.2 "LoopForge" "GROUP_SETTING" "[I" "LoopForge") U) ∧ zTab "SETTING_FIRST" 9 zSF A U H ∧ zTab "SETTING_LIMIT" 9 zSL A U H ∧ zTab "GROUP_SETTING" 4 zGS A U H
theorem zTab.go {n : String} {N : Nat} {f : Nat → Int32} {A B : Nat → Prop} {s U : State} {H H1 : Heap} (h : zTab n N f A s H) (hvm : s.vm.Alike U.vm) (hq : ∀ a : Nat, a < H.size → ¬ A a → H1[a]? = H[a]?) (hAB : ∀ q, B q → A q) : zTab n N f B U H1 := by
  obtain ⟨t, h1, h2⟩ := h
  exact ⟨t, ((h1.moved hvm).kept hq).narrow hAB, ((h2.moved hvm).kept hq).narrow hAB⟩
theorem zEv.go {A B : Nat → Prop} {s U : State} {H : Heap} {locs : List Loc} (h : zEv A s s.heap) (hW : s.WarmedH U.vm) (hS : va_S A s.heap H locs) (hAB : ∀ q, B q → A q) (hU : U.heap = H) : zEv B U U.heap := by
  obtain ⟨h1, h2, h3, h4, h5⟩ := h
  have hq : ∀ a : Nat, a < s.heap.size → ¬ A a → U.heap[a]? = s.heap[a]? := fun a h h' => by rw [hU]; exact hS.2.1 a h h'
  exact ⟨fun w hw => (h1 w hw).warmM hW, fun w hw => (h2 w hw).warmF hW, h3.go hW.alike hq hAB, h4.go hW.alike hq hAB, h5.go hW.alike hq hAB⟩
theorem zEv.same {A : Nat → Prop} {s U : State} (h : zEv A s s.heap) (hvm : s.vm = U.vm) (hU : U.heap = s.heap) : zEv A U U.heap := by
  obtain ⟨h1, h2, h3, h4, h5⟩ := h
  have ha : s.vm.Alike U.vm := by rw [← hvm]; exact Vm.Alike.refl s.vm
  have hq : ∀ a : Nat, a < s.heap.size → ¬ A a → U.heap[a]? = s.heap[a]? := fun a _ _ => by rw [hU]
  exact ⟨fun w hw => (h1 w hw).same rfl hvm, fun w hw => (h2 w hw).same rfl hvm, h3.go ha hq (fun _ h => h), h4.go ha hq (fun _ h => h), h5.go ha hq (fun _ h => h)⟩
/-- what holds all the way through a body -/
def zX (G : zG) (Z : zC) (cc : ByteArray) (nL : Nat) (own : String) (Ts : List Cond) : Prop := match G, Z with
  | (_, D, cy), (p, _, s, m, args, _, meth, c, A, _) => CallFix p m c cc nL s args Ts own ∧ va_K D vwCl (zTy cy) s ∧ (∀ q, s.heap.size ≤ q → A q) ∧ zEv A s s.heap ∧ meth.locks = false
/-- from here, with these locals, this stack, these cells, the body comes to what it owes -/
def zB (G : zG) (Z : zC) (rm : Room) (nL : Nat) (T : zT) (ad ln : Nat → Nat) (kc ks : Nat) (pc : Nat) (lv : List (Nat × Value)) (st : List Value) (al : Nat → Nat → Int32) : Prop := match G, Z with
  | (l, D, cy), (p, e, s, m, args, below, meth, c, A, Q) => ∀ (H : Heap) (locs : List Loc) (ls : Array Slot), va_P D vwCl (zW cy T ad al ln) H → va_D A (zW cy T ad al ln) → va_S A s.heap H locs → lv_has ls nL lv → W p l e rm s m args below meth c H locs kc ks Q (F0 m pc ls st)
section ZR
variable {G : zG} {Z : zC} {rm : Room} {nL : Nat} {T : zT} {ad ln : Nat → Nat} {kc ks pc : Nat} {lv lv' : List (Nat × Value)} {st : List Value} {al : Nat → Nat → Int32} {cc : ByteArray} {own : String} {Ts : List Cond}
theorem zb_iconst (X : zX G Z cc nL own Ts) {n : Int} (v : Int32) (d : decode cc pc = .ok (.iconst n, 1)) (hv : Int32.ofInt n = v) (kk : zB G Z rm nL T ad ln kc ks (pc + 1) lv (.int v :: st) al) : zB G Z rm nL T ad ln kc ks pc lv st al := by
  obtain ⟨l, D, cy⟩ := G
  obtain ⟨p, e, s, m, args, below, meth, c, A, Q⟩ := Z
  obtain ⟨⟨hx, hb, hml, hown, hts⟩, hK, hA, hE, hlk⟩ := X
  intro H locs ls hP hD hS hl
  exact lv_iconst hx hb d hv (kk H locs ls hP hD hS hl)
theorem zb_bipush (X : zX G Z cc nL own Ts) {n : Int} (v : Int32) (d : decode cc pc = .ok (.bipush n, 2)) (hv : (Int8.ofInt n).toInt32 = v) (kk : zB G Z rm nL T ad ln kc ks (pc + 2) lv (.int v :: st) al) : zB G Z rm nL T ad ln kc ks pc lv st al := by
  obtain ⟨l, D, cy⟩ := G
  obtain ⟨p, e, s, m, args, below, meth, c, A, Q⟩ := Z
  obtain ⟨⟨hx, hb, hml, hown, hts⟩, hK, hA, hE, hlk⟩ := X
  intro H locs ls hP hD hS hl
  exact lv_bipush hx hb d hv (kk H locs ls hP hD hS hl)
theorem zb_sipush (X : zX G Z cc nL own Ts) {n : Int} (v : Int32) (d : decode cc pc = .ok (.sipush n, 3)) (hv : (Int16.ofInt n).toInt32 = v) (kk : zB G Z rm nL T ad ln kc ks (pc + 3) lv (.int v :: st) al) : zB G Z rm nL T ad ln kc ks pc lv st al := by
  obtain ⟨l, D, cy⟩ := G
  obtain ⟨p, e, s, m, args, below, meth, c, A, Q⟩ := Z
  obtain ⟨⟨hx, hb, hml, hown, hts⟩, hK, hA, hE, hlk⟩ := X
  intro H locs ls hP hD hS hl
  exact lv_sipush hx hb d hv (kk H locs ls hP hD hS hl)
theorem zb_iload_n (X : zX G Z cc nL own Ts) {k : Fin 4} {i : Nat} {x : Int32} (d : decode cc pc = .ok (.iload_n k, 1)) (hi : (k : Nat) = i) (j : Nat) (h : lv[j]? = some (i, .int x)) (kk : zB G Z rm nL T ad ln kc ks (pc + 1) lv (.int x :: st) al) : zB G Z rm nL T ad ln kc ks pc lv st al := by
  obtain ⟨l, D, cy⟩ := G
  obtain ⟨p, e, s, m, args, below, meth, c, A, Q⟩ := Z
  obtain ⟨⟨hx, hb, hml, hown, hts⟩, hK, hA, hE, hlk⟩ := X
  intro H locs ls hP hD hS hl
  exact lv_iload_n hx hb d hi (lv_at hl j h) (kk H locs ls hP hD hS hl)
theorem zb_iload (X : zX G Z cc nL own Ts) {i : Nat} {x : Int32} (d : decode cc pc = .ok (.iload i, 2)) (j : Nat) (h : lv[j]? = some (i, .int x)) (kk : zB G Z rm nL T ad ln kc ks (pc + 2) lv (.int x :: st) al) : zB G Z rm nL T ad ln kc ks pc lv st al := by
  obtain ⟨l, D, cy⟩ := G
  obtain ⟨p, e, s, m, args, below, meth, c, A, Q⟩ := Z
  obtain ⟨⟨hx, hb, hml, hown, hts⟩, hK, hA, hE, hlk⟩ := X
  intro H locs ls hP hD hS hl
  exact lv_iload hx hb d (lv_at hl j h) (kk H locs ls hP hD hS hl)
theorem zb_aload_n (X : zX G Z cc nL own Ts) {k : Fin 4} {i : Nat} {x : Nat} (d : decode cc pc = .ok (.aload_n k, 1)) (hi : (k : Nat) = i) (j : Nat) (h : lv[j]? = some (i, .ref x)) (kk : zB G Z rm nL T ad ln kc ks (pc + 1) lv (.ref x :: st) al) : zB G Z rm nL T ad ln kc ks pc lv st al := by
  obtain ⟨l, D, cy⟩ := G
  obtain ⟨p, e, s, m, args, below, meth, c, A, Q⟩ := Z
  obtain ⟨⟨hx, hb, hml, hown, hts⟩, hK, hA, hE, hlk⟩ := X
  intro H locs ls hP hD hS hl
  exact lv_aload_n hx hb d hi (lv_at hl j h) (kk H locs ls hP hD hS hl)
theorem zb_aload (X : zX G Z cc nL own Ts) {i : Nat} {x : Nat} (d : decode cc pc = .ok (.aload i, 2)) (j : Nat) (h : lv[j]? = some (i, .ref x)) (kk : zB G Z rm nL T ad ln kc ks (pc + 2) lv (.ref x :: st) al) : zB G Z rm nL T ad ln kc ks pc lv st al := by
  obtain ⟨l, D, cy⟩ := G
  obtain ⟨p, e, s, m, args, below, meth, c, A, Q⟩ := Z
  obtain ⟨⟨hx, hb, hml, hown, hts⟩, hK, hA, hE, hlk⟩ := X
  intro H locs ls hP hD hS hl
  exact lv_aload hx hb d (lv_at hl j h) (kk H locs ls hP hD hS hl)
theorem zb_istore_n (X : zX G Z cc nL own Ts) {k : Fin 4} {i : Nat} {x : Int32} (d : decode cc pc = .ok (.istore_n k, 1)) (hi : (k : Nat) = i) (hn : i < nL) (hl' : (i, Value.int x) :: lv.filter (fun q => !(q.1 == i) && !(q.1 + 1 == i && q.2.category == 2)) = lv') (kk : zB G Z rm nL T ad ln kc ks (pc + 1) lv' st al) : zB G Z rm nL T ad ln kc ks pc lv (.int x :: st) al := by
  obtain ⟨l, D, cy⟩ := G
  obtain ⟨p, e, s, m, args, below, meth, c, A, Q⟩ := Z
  obtain ⟨⟨hx, hb, hml, hown, hts⟩, hK, hA, hE, hlk⟩ := X
  intro H locs ls hP hD hS hl
  exact lv_istore_n hx hb d hi hl hn hl' (fun ls hl => kk H locs ls hP hD hS hl)
theorem zb_istore (X : zX G Z cc nL own Ts) {i : Nat} {x : Int32} (d : decode cc pc = .ok (.istore i, 2)) (hn : i < nL) (hl' : (i, Value.int x) :: lv.filter (fun q => !(q.1 == i) && !(q.1 + 1 == i && q.2.category == 2)) = lv') (kk : zB G Z rm nL T ad ln kc ks (pc + 2) lv' st al) : zB G Z rm nL T ad ln kc ks pc lv (.int x :: st) al := by
  obtain ⟨l, D, cy⟩ := G
  obtain ⟨p, e, s, m, args, below, meth, c, A, Q⟩ := Z
  obtain ⟨⟨hx, hb, hml, hown, hts⟩, hK, hA, hE, hlk⟩ := X
  intro H locs ls hP hD hS hl
  exact lv_istore hx hb d hl hn hl' (fun ls hl => kk H locs ls hP hD hS hl)
theorem zb_astore_n (X : zX G Z cc nL own Ts) {k : Fin 4} {i : Nat} {x : Nat} (d : decode cc pc = .ok (.astore_n k, 1)) (hi : (k : Nat) = i) (hn : i < nL) (hl' : (i, Value.ref x) :: lv.filter (fun q => !(q.1 == i) && !(q.1 + 1 == i && q.2.category == 2)) = lv') (kk : zB G Z rm nL T ad ln kc ks (pc + 1) lv' st al) : zB G Z rm nL T ad ln kc ks pc lv (.ref x :: st) al := by
  obtain ⟨l, D, cy⟩ := G
  obtain ⟨p, e, s, m, args, below, meth, c, A, Q⟩ := Z
  obtain ⟨⟨hx, hb, hml, hown, hts⟩, hK, hA, hE, hlk⟩ := X
  intro H locs ls hP hD hS hl
  exact lv_astore_n hx hb d hi hl hn hl' (fun ls hl => kk H locs ls hP hD hS hl)
theorem zb_astore (X : zX G Z cc nL own Ts) {i : Nat} {x : Nat} (d : decode cc pc = .ok (.astore i, 2)) (hn : i < nL) (hl' : (i, Value.ref x) :: lv.filter (fun q => !(q.1 == i) && !(q.1 + 1 == i && q.2.category == 2)) = lv') (kk : zB G Z rm nL T ad ln kc ks (pc + 2) lv' st al) : zB G Z rm nL T ad ln kc ks pc lv (.ref x :: st) al := by
  obtain ⟨l, D, cy⟩ := G
  obtain ⟨p, e, s, m, args, below, meth, c, A, Q⟩ := Z
  obtain ⟨⟨hx, hb, hml, hown, hts⟩, hK, hA, hE, hlk⟩ := X
  intro H locs ls hP hD hS hl
  exact lv_astore hx hb d hl hn hl' (fun ls hl => kk H locs ls hP hD hS hl)
theorem zb_iinc (X : zX G Z cc nL own Ts) {i : Nat} {n : Int} {x : Int32} (v : Int32) (d : decode cc pc = .ok (.iinc i n, 3)) (j : Nat) (h : lv[j]? = some (i, .int x)) (hv : x + Int32.ofInt n = v) (hn : i < nL) (hl' : (i, Value.int v) :: lv.filter (fun q => !(q.1 == i) && !(q.1 + 1 == i && q.2.category == 2)) = lv') (kk : zB G Z rm nL T ad ln kc ks (pc + 3) lv' st al) : zB G Z rm nL T ad ln kc ks pc lv st al := by
  obtain ⟨l, D, cy⟩ := G
  obtain ⟨p, e, s, m, args, below, meth, c, A, Q⟩ := Z
  obtain ⟨⟨hx, hb, hml, hown, hts⟩, hK, hA, hE, hlk⟩ := X
  intro H locs ls hP hD hS hl
  exact lv_iinc hx hb d hl h hv hn hl' (fun ls hl => kk H locs ls hP hD hS hl)
theorem zb_dup (X : zX G Z cc nL own Ts) {v : Value} (d : decode cc pc = .ok (.dup, 1)) (hv : v.category = 1) (kk : zB G Z rm nL T ad ln kc ks (pc + 1) lv (v :: v :: st) al) : zB G Z rm nL T ad ln kc ks pc lv (v :: st) al := by
  obtain ⟨l, D, cy⟩ := G
  obtain ⟨p, e, s, m, args, below, meth, c, A, Q⟩ := Z
  obtain ⟨⟨hx, hb, hml, hown, hts⟩, hK, hA, hE, hlk⟩ := X
  intro H locs ls hP hD hS hl
  exact lv_dup hx hb d hv (kk H locs ls hP hD hS hl)
theorem zb_pop (X : zX G Z cc nL own Ts) {v : Value} (d : decode cc pc = .ok (.pop, 1)) (hv : v.category = 1) (kk : zB G Z rm nL T ad ln kc ks (pc + 1) lv st al) : zB G Z rm nL T ad ln kc ks pc lv (v :: st) al := by
  obtain ⟨l, D, cy⟩ := G
  obtain ⟨p, e, s, m, args, below, meth, c, A, Q⟩ := Z
  obtain ⟨⟨hx, hb, hml, hown, hts⟩, hK, hA, hE, hlk⟩ := X
  intro H locs ls hP hD hS hl
  exact lv_pop hx hb d hv (kk H locs ls hP hD hS hl)
theorem zb_dup2 (X : zX G Z cc nL own Ts) {v w : Value} (d : decode cc pc = .ok (.dup2, 1)) (hv : v.category = 1) (hw : w.category = 1) (kk : zB G Z rm nL T ad ln kc ks (pc + 1) lv (v :: w :: v :: w :: st) al) : zB G Z rm nL T ad ln kc ks pc lv (v :: w :: st) al := by
  obtain ⟨l, D, cy⟩ := G
  obtain ⟨p, e, s, m, args, below, meth, c, A, Q⟩ := Z
  obtain ⟨⟨hx, hb, hml, hown, hts⟩, hK, hA, hE, hlk⟩ := X
  intro H locs ls hP hD hS hl
  exact lv_dup2_11 hx hb d hv hw (kk H locs ls hP hD hS hl)
theorem zb_goto (X : zX G Z cc nL own Ts) {off : Int} (tgt : Nat) (d : decode cc pc = .ok (.goto off, 3)) (ht : (pc : Int) + off = (tgt : Int)) (kk : zB G Z rm nL T ad ln kc ks tgt lv st al) : zB G Z rm nL T ad ln kc ks pc lv st al := by
  obtain ⟨l, D, cy⟩ := G
  obtain ⟨p, e, s, m, args, below, meth, c, A, Q⟩ := Z
  obtain ⟨⟨hx, hb, hml, hown, hts⟩, hK, hA, hE, hlk⟩ := X
  intro H locs ls hP hD hS hl
  exact lv_goto hx hb d ht (kk H locs ls hP hD hS hl)
theorem zb_iadd (X : zX G Z cc nL own Ts) {x y : Int32} (d : decode cc pc = .ok (.iadd, 1)) (kk : zB G Z rm nL T ad ln kc ks (pc + 1) lv (.int (x + y) :: st) al) : zB G Z rm nL T ad ln kc ks pc lv (.int y :: .int x :: st) al := by
  obtain ⟨l, D, cy⟩ := G
  obtain ⟨p, e, s, m, args, below, meth, c, A, Q⟩ := Z
  obtain ⟨⟨hx, hb, hml, hown, hts⟩, hK, hA, hE, hlk⟩ := X
  intro H locs ls hP hD hS hl
  exact lv_iadd hx hb d (kk H locs ls hP hD hS hl)
theorem zb_isub (X : zX G Z cc nL own Ts) {x y : Int32} (d : decode cc pc = .ok (.isub, 1)) (kk : zB G Z rm nL T ad ln kc ks (pc + 1) lv (.int (x - y) :: st) al) : zB G Z rm nL T ad ln kc ks pc lv (.int y :: .int x :: st) al := by
  obtain ⟨l, D, cy⟩ := G
  obtain ⟨p, e, s, m, args, below, meth, c, A, Q⟩ := Z
  obtain ⟨⟨hx, hb, hml, hown, hts⟩, hK, hA, hE, hlk⟩ := X
  intro H locs ls hP hD hS hl
  exact lv_isub hx hb d (kk H locs ls hP hD hS hl)
theorem zb_imul (X : zX G Z cc nL own Ts) {x y : Int32} (d : decode cc pc = .ok (.imul, 1)) (kk : zB G Z rm nL T ad ln kc ks (pc + 1) lv (.int (x * y) :: st) al) : zB G Z rm nL T ad ln kc ks pc lv (.int y :: .int x :: st) al := by
  obtain ⟨l, D, cy⟩ := G
  obtain ⟨p, e, s, m, args, below, meth, c, A, Q⟩ := Z
  obtain ⟨⟨hx, hb, hml, hown, hts⟩, hK, hA, hE, hlk⟩ := X
  intro H locs ls hP hD hS hl
  exact lv_imul hx hb d (kk H locs ls hP hD hS hl)
theorem zb_iand (X : zX G Z cc nL own Ts) {x y : Int32} (d : decode cc pc = .ok (.iand, 1)) (kk : zB G Z rm nL T ad ln kc ks (pc + 1) lv (.int (x &&& y) :: st) al) : zB G Z rm nL T ad ln kc ks pc lv (.int y :: .int x :: st) al := by
  obtain ⟨l, D, cy⟩ := G
  obtain ⟨p, e, s, m, args, below, meth, c, A, Q⟩ := Z
  obtain ⟨⟨hx, hb, hml, hown, hts⟩, hK, hA, hE, hlk⟩ := X
  intro H locs ls hP hD hS hl
  exact lv_iand hx hb d (kk H locs ls hP hD hS hl)
theorem zb_ior (X : zX G Z cc nL own Ts) {x y : Int32} (d : decode cc pc = .ok (.ior, 1)) (kk : zB G Z rm nL T ad ln kc ks (pc + 1) lv (.int (x ||| y) :: st) al) : zB G Z rm nL T ad ln kc ks pc lv (.int y :: .int x :: st) al := by
  obtain ⟨l, D, cy⟩ := G
  obtain ⟨p, e, s, m, args, below, meth, c, A, Q⟩ := Z
  obtain ⟨⟨hx, hb, hml, hown, hts⟩, hK, hA, hE, hlk⟩ := X
  intro H locs ls hP hD hS hl
  exact lv_ior hx hb d (kk H locs ls hP hD hS hl)
theorem zb_ixor (X : zX G Z cc nL own Ts) {x y : Int32} (d : decode cc pc = .ok (.ixor, 1)) (kk : zB G Z rm nL T ad ln kc ks (pc + 1) lv (.int (x ^^^ y) :: st) al) : zB G Z rm nL T ad ln kc ks pc lv (.int y :: .int x :: st) al := by
  obtain ⟨l, D, cy⟩ := G
  obtain ⟨p, e, s, m, args, below, meth, c, A, Q⟩ := Z
  obtain ⟨⟨hx, hb, hml, hown, hts⟩, hK, hA, hE, hlk⟩ := X
  intro H locs ls hP hD hS hl
  exact lv_ixor hx hb d (kk H locs ls hP hD hS hl)
theorem zb_ishl (X : zX G Z cc nL own Ts) {x y : Int32} (d : decode cc pc = .ok (.ishl, 1)) (kk : zB G Z rm nL T ad ln kc ks (pc + 1) lv (.int (x <<< (y &&& 31)) :: st) al) : zB G Z rm nL T ad ln kc ks pc lv (.int y :: .int x :: st) al := by
  obtain ⟨l, D, cy⟩ := G
  obtain ⟨p, e, s, m, args, below, meth, c, A, Q⟩ := Z
  obtain ⟨⟨hx, hb, hml, hown, hts⟩, hK, hA, hE, hlk⟩ := X
  intro H locs ls hP hD hS hl
  exact lv_ishl hx hb d (kk H locs ls hP hD hS hl)
theorem zb_ishr (X : zX G Z cc nL own Ts) {x y : Int32} (d : decode cc pc = .ok (.ishr, 1)) (kk : zB G Z rm nL T ad ln kc ks (pc + 1) lv (.int (x >>> (y &&& 31)) :: st) al) : zB G Z rm nL T ad ln kc ks pc lv (.int y :: .int x :: st) al := by
  obtain ⟨l, D, cy⟩ := G
  obtain ⟨p, e, s, m, args, below, meth, c, A, Q⟩ := Z
  obtain ⟨⟨hx, hb, hml, hown, hts⟩, hK, hA, hE, hlk⟩ := X
  intro H locs ls hP hD hS hl
  exact lv_ishr hx hb d (kk H locs ls hP hD hS hl)
theorem zb_idiv (X : zX G Z cc nL own Ts) {x y : Int32} (d : decode cc pc = .ok (.idiv, 1)) (hne : ¬ y = 0) (kk : zB G Z rm nL T ad ln kc ks (pc + 1) lv (.int (x / y) :: st) al) : zB G Z rm nL T ad ln kc ks pc lv (.int y :: .int x :: st) al := by
  obtain ⟨l, D, cy⟩ := G
  obtain ⟨p, e, s, m, args, below, meth, c, A, Q⟩ := Z
  obtain ⟨⟨hx, hb, hml, hown, hts⟩, hK, hA, hE, hlk⟩ := X
  intro H locs ls hP hD hS hl
  exact lv_idiv hx hb d hne (kk H locs ls hP hD hS hl)
theorem zb_irem (X : zX G Z cc nL own Ts) {x y : Int32} (d : decode cc pc = .ok (.irem, 1)) (hne : ¬ y = 0) (kk : zB G Z rm nL T ad ln kc ks (pc + 1) lv (.int (x - x / y * y) :: st) al) : zB G Z rm nL T ad ln kc ks pc lv (.int y :: .int x :: st) al := by
  obtain ⟨l, D, cy⟩ := G
  obtain ⟨p, e, s, m, args, below, meth, c, A, Q⟩ := Z
  obtain ⟨⟨hx, hb, hml, hown, hts⟩, hK, hA, hE, hlk⟩ := X
  intro H locs ls hP hD hS hl
  exact lv_irem hx hb d hne (kk H locs ls hP hD hS hl)
theorem zb_ineg (X : zX G Z cc nL own Ts) {x : Int32} (d : decode cc pc = .ok (.ineg, 1)) (kk : zB G Z rm nL T ad ln kc ks (pc + 1) lv (.int (-x) :: st) al) : zB G Z rm nL T ad ln kc ks pc lv (.int x :: st) al := by
  obtain ⟨l, D, cy⟩ := G
  obtain ⟨p, e, s, m, args, below, meth, c, A, Q⟩ := Z
  obtain ⟨⟨hx, hb, hml, hown, hts⟩, hK, hA, hE, hlk⟩ := X
  intro H locs ls hP hD hS hl
  exact lv_ineg hx hb d (kk H locs ls hP hD hS hl)
theorem zb_i2b (X : zX G Z cc nL own Ts) {x : Int32} (d : decode cc pc = .ok (.i2b, 1)) (kk : zB G Z rm nL T ad ln kc ks (pc + 1) lv (.int x.toInt8.toInt32 :: st) al) : zB G Z rm nL T ad ln kc ks pc lv (.int x :: st) al := by
  obtain ⟨l, D, cy⟩ := G
  obtain ⟨p, e, s, m, args, below, meth, c, A, Q⟩ := Z
  obtain ⟨⟨hx, hb, hml, hown, hts⟩, hK, hA, hE, hlk⟩ := X
  intro H locs ls hP hD hS hl
  exact lv_i2b hx hb d rfl (kk H locs ls hP hD hS hl)
theorem zb_i2c (X : zX G Z cc nL own Ts) {x : Int32} (d : decode cc pc = .ok (.i2c, 1)) (kk : zB G Z rm nL T ad ln kc ks (pc + 1) lv (.int (x.toUInt32 % 65536).toInt32 :: st) al) : zB G Z rm nL T ad ln kc ks pc lv (.int x :: st) al := by
  obtain ⟨l, D, cy⟩ := G
  obtain ⟨p, e, s, m, args, below, meth, c, A, Q⟩ := Z
  obtain ⟨⟨hx, hb, hml, hown, hts⟩, hK, hA, hE, hlk⟩ := X
  intro H locs ls hP hD hS hl
  exact lv_i2c hx hb d rfl (kk H locs ls hP hD hS hl)
theorem zb_if_eq (X : zX G Z cc nL own Ts) {x : Int32} {off : Int} (tgt : Nat) (d : decode cc pc = .ok (.ifCond .eq off, 3)) (ht : (pc : Int) + off = (tgt : Int)) (kt : x = 0 → zB G Z rm nL T ad ln kc ks tgt lv st al) (kf : ¬ (x = 0) → zB G Z rm nL T ad ln kc ks (pc + 3) lv st al) : zB G Z rm nL T ad ln kc ks pc lv (.int x :: st) al := by
  obtain ⟨l, D, cy⟩ := G
  obtain ⟨p, e, s, m, args, below, meth, c, A, Q⟩ := Z
  obtain ⟨⟨hx, hb, hml, hown, hts⟩, hK, hA, hE, hlk⟩ := X
  intro H locs ls hP hD hS hl
  exact lv_if_eq hx hb d ht (fun q => kt q H locs ls hP hD hS hl) (fun q => kf q H locs ls hP hD hS hl)
theorem zb_if_ne (X : zX G Z cc nL own Ts) {x : Int32} {off : Int} (tgt : Nat) (d : decode cc pc = .ok (.ifCond .ne off, 3)) (ht : (pc : Int) + off = (tgt : Int)) (kt : ¬ x = 0 → zB G Z rm nL T ad ln kc ks tgt lv st al) (kf : x = 0 → zB G Z rm nL T ad ln kc ks (pc + 3) lv st al) : zB G Z rm nL T ad ln kc ks pc lv (.int x :: st) al := by
  obtain ⟨l, D, cy⟩ := G
  obtain ⟨p, e, s, m, args, below, meth, c, A, Q⟩ := Z
  obtain ⟨⟨hx, hb, hml, hown, hts⟩, hK, hA, hE, hlk⟩ := X
  intro H locs ls hP hD hS hl
  exact lv_if_ne hx hb d ht (fun q => kt q H locs ls hP hD hS hl) (fun q => kf q H locs ls hP hD hS hl)
theorem zb_if_lt (X : zX G Z cc nL own Ts) {x : Int32} {off : Int} (tgt : Nat) (d : decode cc pc = .ok (.ifCond .lt off, 3)) (ht : (pc : Int) + off = (tgt : Int)) (kt : x < 0 → zB G Z rm nL T ad ln kc ks tgt lv st al) (kf : ¬ (x < 0) → zB G Z rm nL T ad ln kc ks (pc + 3) lv st al) : zB G Z rm nL T ad ln kc ks pc lv (.int x :: st) al := by
  obtain ⟨l, D, cy⟩ := G
  obtain ⟨p, e, s, m, args, below, meth, c, A, Q⟩ := Z
  obtain ⟨⟨hx, hb, hml, hown, hts⟩, hK, hA, hE, hlk⟩ := X
  intro H locs ls hP hD hS hl
  exact lv_if_lt hx hb d ht (fun q => kt q H locs ls hP hD hS hl) (fun q => kf q H locs ls hP hD hS hl)
theorem zb_if_ge (X : zX G Z cc nL own Ts) {x : Int32} {off : Int} (tgt : Nat) (d : decode cc pc = .ok (.ifCond .ge off, 3)) (ht : (pc : Int) + off = (tgt : Int)) (kt : 0 ≤ x → zB G Z rm nL T ad ln kc ks tgt lv st al) (kf : ¬ (0 ≤ x) → zB G Z rm nL T ad ln kc ks (pc + 3) lv st al) : zB G Z rm nL T ad ln kc ks pc lv (.int x :: st) al := by
  obtain ⟨l, D, cy⟩ := G
  obtain ⟨p, e, s, m, args, below, meth, c, A, Q⟩ := Z
  obtain ⟨⟨hx, hb, hml, hown, hts⟩, hK, hA, hE, hlk⟩ := X
  intro H locs ls hP hD hS hl
  exact lv_if_ge hx hb d ht (fun q => kt q H locs ls hP hD hS hl) (fun q => kf q H locs ls hP hD hS hl)
theorem zb_if_gt (X : zX G Z cc nL own Ts) {x : Int32} {off : Int} (tgt : Nat) (d : decode cc pc = .ok (.ifCond .gt off, 3)) (ht : (pc : Int) + off = (tgt : Int)) (kt : 0 < x → zB G Z rm nL T ad ln kc ks tgt lv st al) (kf : ¬ (0 < x) → zB G Z rm nL T ad ln kc ks (pc + 3) lv st al) : zB G Z rm nL T ad ln kc ks pc lv (.int x :: st) al := by
  obtain ⟨l, D, cy⟩ := G
  obtain ⟨p, e, s, m, args, below, meth, c, A, Q⟩ := Z
  obtain ⟨⟨hx, hb, hml, hown, hts⟩, hK, hA, hE, hlk⟩ := X
  intro H locs ls hP hD hS hl
  exact lv_if_gt hx hb d ht (fun q => kt q H locs ls hP hD hS hl) (fun q => kf q H locs ls hP hD hS hl)
theorem zb_if_le (X : zX G Z cc nL own Ts) {x : Int32} {off : Int} (tgt : Nat) (d : decode cc pc = .ok (.ifCond .le off, 3)) (ht : (pc : Int) + off = (tgt : Int)) (kt : x ≤ 0 → zB G Z rm nL T ad ln kc ks tgt lv st al) (kf : ¬ (x ≤ 0) → zB G Z rm nL T ad ln kc ks (pc + 3) lv st al) : zB G Z rm nL T ad ln kc ks pc lv (.int x :: st) al := by
  obtain ⟨l, D, cy⟩ := G
  obtain ⟨p, e, s, m, args, below, meth, c, A, Q⟩ := Z
  obtain ⟨⟨hx, hb, hml, hown, hts⟩, hK, hA, hE, hlk⟩ := X
  intro H locs ls hP hD hS hl
  exact lv_if_le hx hb d ht (fun q => kt q H locs ls hP hD hS hl) (fun q => kf q H locs ls hP hD hS hl)
theorem zb_icmp_eq (X : zX G Z cc nL own Ts) {x y : Int32} {off : Int} (tgt : Nat) (d : decode cc pc = .ok (.if_icmp .eq off, 3)) (ht : (pc : Int) + off = (tgt : Int)) (kt : x = y → zB G Z rm nL T ad ln kc ks tgt lv st al) (kf : ¬ (x = y) → zB G Z rm nL T ad ln kc ks (pc + 3) lv st al) : zB G Z rm nL T ad ln kc ks pc lv (.int y :: .int x :: st) al := by
  obtain ⟨l, D, cy⟩ := G
  obtain ⟨p, e, s, m, args, below, meth, c, A, Q⟩ := Z
  obtain ⟨⟨hx, hb, hml, hown, hts⟩, hK, hA, hE, hlk⟩ := X
  intro H locs ls hP hD hS hl
  exact lv_icmp_eq hx hb d ht (fun q => kt q H locs ls hP hD hS hl) (fun q => kf q H locs ls hP hD hS hl)
theorem zb_icmp_ne (X : zX G Z cc nL own Ts) {x y : Int32} {off : Int} (tgt : Nat) (d : decode cc pc = .ok (.if_icmp .ne off, 3)) (ht : (pc : Int) + off = (tgt : Int)) (kt : ¬ x = y → zB G Z rm nL T ad ln kc ks tgt lv st al) (kf : x = y → zB G Z rm nL T ad ln kc ks (pc + 3) lv st al) : zB G Z rm nL T ad ln kc ks pc lv (.int y :: .int x :: st) al := by
  obtain ⟨l, D, cy⟩ := G
  obtain ⟨p, e, s, m, args, below, meth, c, A, Q⟩ := Z
  obtain ⟨⟨hx, hb, hml, hown, hts⟩, hK, hA, hE, hlk⟩ := X
  intro H locs ls hP hD hS hl
  exact lv_icmp_ne hx hb d ht (fun q => kt q H locs ls hP hD hS hl) (fun q => kf q H locs ls hP hD hS hl)
theorem zb_icmp_lt (X : zX G Z cc nL own Ts) {x y : Int32} {off : Int} (tgt : Nat) (d : decode cc pc = .ok (.if_icmp .lt off, 3)) (ht : (pc : Int) + off = (tgt : Int)) (kt : x < y → zB G Z rm nL T ad ln kc ks tgt lv st al) (kf : ¬ (x < y) → zB G Z rm nL T ad ln kc ks (pc + 3) lv st al) : zB G Z rm nL T ad ln kc ks pc lv (.int y :: .int x :: st) al := by
  obtain ⟨l, D, cy⟩ := G
  obtain ⟨p, e, s, m, args, below, meth, c, A, Q⟩ := Z
  obtain ⟨⟨hx, hb, hml, hown, hts⟩, hK, hA, hE, hlk⟩ := X
  intro H locs ls hP hD hS hl
  exact lv_icmp_lt hx hb d ht (fun q => kt q H locs ls hP hD hS hl) (fun q => kf q H locs ls hP hD hS hl)
theorem zb_icmp_ge (X : zX G Z cc nL own Ts) {x y : Int32} {off : Int} (tgt : Nat) (d : decode cc pc = .ok (.if_icmp .ge off, 3)) (ht : (pc : Int) + off = (tgt : Int)) (kt : y ≤ x → zB G Z rm nL T ad ln kc ks tgt lv st al) (kf : ¬ (y ≤ x) → zB G Z rm nL T ad ln kc ks (pc + 3) lv st al) : zB G Z rm nL T ad ln kc ks pc lv (.int y :: .int x :: st) al := by
  obtain ⟨l, D, cy⟩ := G
  obtain ⟨p, e, s, m, args, below, meth, c, A, Q⟩ := Z
  obtain ⟨⟨hx, hb, hml, hown, hts⟩, hK, hA, hE, hlk⟩ := X
  intro H locs ls hP hD hS hl
  exact lv_icmp_ge hx hb d ht (fun q => kt q H locs ls hP hD hS hl) (fun q => kf q H locs ls hP hD hS hl)
theorem zb_icmp_gt (X : zX G Z cc nL own Ts) {x y : Int32} {off : Int} (tgt : Nat) (d : decode cc pc = .ok (.if_icmp .gt off, 3)) (ht : (pc : Int) + off = (tgt : Int)) (kt : y < x → zB G Z rm nL T ad ln kc ks tgt lv st al) (kf : ¬ (y < x) → zB G Z rm nL T ad ln kc ks (pc + 3) lv st al) : zB G Z rm nL T ad ln kc ks pc lv (.int y :: .int x :: st) al := by
  obtain ⟨l, D, cy⟩ := G
  obtain ⟨p, e, s, m, args, below, meth, c, A, Q⟩ := Z
  obtain ⟨⟨hx, hb, hml, hown, hts⟩, hK, hA, hE, hlk⟩ := X
  intro H locs ls hP hD hS hl
  exact lv_icmp_gt hx hb d ht (fun q => kt q H locs ls hP hD hS hl) (fun q => kf q H locs ls hP hD hS hl)
theorem zb_icmp_le (X : zX G Z cc nL own Ts) {x y : Int32} {off : Int} (tgt : Nat) (d : decode cc pc = .ok (.if_icmp .le off, 3)) (ht : (pc : Int) + off = (tgt : Int)) (kt : x ≤ y → zB G Z rm nL T ad ln kc ks tgt lv st al) (kf : ¬ (x ≤ y) → zB G Z rm nL T ad ln kc ks (pc + 3) lv st al) : zB G Z rm nL T ad ln kc ks pc lv (.int y :: .int x :: st) al := by
  obtain ⟨l, D, cy⟩ := G
  obtain ⟨p, e, s, m, args, below, meth, c, A, Q⟩ := Z
  obtain ⟨⟨hx, hb, hml, hown, hts⟩, hK, hA, hE, hlk⟩ := X
  intro H locs ls hP hD hS hl
  exact lv_icmp_le hx hb d ht (fun q => kt q H locs ls hP hD hS hl) (fun q => kf q H locs ls hP hD hS hl)
/-- a class's own words among those at hand, and a field's -/
abbrev zIn (C : String) (Tt : u_T) (N : Nat) (Ts : List Cond) : Prop := ∀ w ∈ u_ws C Tt N, w ∈ Ts
theorem zb_getI (X : zX G Z cc nL own Ts) (k : Nat) (hk : k < T.1) (ci : Nat) (codes : List Nat) (hd : T.2 k = .inl (ci, codes)) {C ref : String} {Tt : u_T} {N index : Nat} (hc : vwCl[ci]? = some (C, Tt, N)) (hin : zIn C Tt N Ts) (j : Nat) (hj : j < N) (hcode : codes[j]? = some 0) (hlink : Cond.fieldLink own index ref (Tt j).2.1 (Tt j).2.2.1 ∈ Ts) (hsame : (Tt j).1 = ref) (d : decode cc pc = .ok (.getfield index, 3)) (v : Int32) (hv : al k j = v) (kk : zB G Z rm nL T ad ln kc ks (pc + 3) lv (.int v :: st) al) : zB G Z rm nL T ad ln kc ks pc lv (.ref (ad k) :: st) al := by
  obtain ⟨l, D, cy⟩ := G
  obtain ⟨p, e, s, m, args, below, meth, c, A, Q⟩ := Z
  obtain ⟨⟨hx, hb, hml, hown, hts⟩, hK, hA, hE, hlk⟩ := X
  intro H locs ls hP hD hS hl
  subst hsame
  have he := zW_get (cy := cy) (ad := ad) (al := al) (ln := ln) hk
  rw [hd] at he
  subst hv
  exact va_get (D := D) (ci := ci) (v := .int (al k j)) hx hb hts hin hown hK hP k he hc j hj (hts _ hlink) (fun _ h9 => h9) (by rw [zF_get ad (al k) codes 0 j 0 hcode, Nat.zero_add]; rfl) d (kk H locs ls hP hD hS hl)
theorem zb_getR (X : zX G Z cc nL own Ts) (k : Nat) (hk : k < T.1) (ci : Nat) (codes : List Nat) (hd : T.2 k = .inl (ci, codes)) {C ref : String} {Tt : u_T} {N index : Nat} (hc : vwCl[ci]? = some (C, Tt, N)) (hin : zIn C Tt N Ts) (j : Nat) (hj : j < N) (r : Nat) (hcode : codes[j]? = some (r + 2)) (hlink : Cond.fieldLink own index ref (Tt j).2.1 (Tt j).2.2.1 ∈ Ts) (hsame : (Tt j).1 = ref) (d : decode cc pc = .ok (.getfield index, 3)) (kk : zB G Z rm nL T ad ln kc ks (pc + 3) lv (.ref (ad r) :: st) al) : zB G Z rm nL T ad ln kc ks pc lv (.ref (ad k) :: st) al := by
  obtain ⟨l, D, cy⟩ := G
  obtain ⟨p, e, s, m, args, below, meth, c, A, Q⟩ := Z
  obtain ⟨⟨hx, hb, hml, hown, hts⟩, hK, hA, hE, hlk⟩ := X
  intro H locs ls hP hD hS hl
  subst hsame
  have he := zW_get (cy := cy) (ad := ad) (al := al) (ln := ln) hk
  rw [hd] at he
  exact va_get (D := D) (ci := ci) (v := .ref (ad r)) hx hb hts hin hown hK hP k he hc j hj (hts _ hlink) (fun _ h9 => h9) (by rw [zF_get ad (al k) codes 0 j (r + 2) hcode]; rfl) d (kk H locs ls hP hD hS hl)
theorem zb_getN (X : zX G Z cc nL own Ts) (k : Nat) (hk : k < T.1) (ci : Nat) (codes : List Nat) (hd : T.2 k = .inl (ci, codes)) {C ref : String} {Tt : u_T} {N index : Nat} (hc : vwCl[ci]? = some (C, Tt, N)) (hin : zIn C Tt N Ts) (j : Nat) (hj : j < N) (hcode : codes[j]? = some 1) (hlink : Cond.fieldLink own index ref (Tt j).2.1 (Tt j).2.2.1 ∈ Ts) (hsame : (Tt j).1 = ref) (d : decode cc pc = .ok (.getfield index, 3)) (kk : zB G Z rm nL T ad ln kc ks (pc + 3) lv (.null :: st) al) : zB G Z rm nL T ad ln kc ks pc lv (.ref (ad k) :: st) al := by
  obtain ⟨l, D, cy⟩ := G
  obtain ⟨p, e, s, m, args, below, meth, c, A, Q⟩ := Z
  obtain ⟨⟨hx, hb, hml, hown, hts⟩, hK, hA, hE, hlk⟩ := X
  intro H locs ls hP hD hS hl
  subst hsame
  have he := zW_get (cy := cy) (ad := ad) (al := al) (ln := ln) hk
  rw [hd] at he
  exact va_get (D := D) (ci := ci) (v := .null) hx hb hts hin hown hK hP k he hc j hj (hts _ hlink) (fun _ h9 => h9) (by rw [zF_get ad (al k) codes 0 j 1 hcode]; rfl) d (kk H locs ls hP hD hS hl)
theorem zb_putI (X : zX G Z cc nL own Ts) (k : Nat) (hk : k < T.1) (ci : Nat) (codes : List Nat) (hd : T.2 k = .inl (ci, codes)) {C ref : String} {Tt : u_T} {N index : Nat} (hc : vwCl[ci]? = some (C, Tt, N)) (hin : zIn C Tt N Ts) (ty0 : Nat → FieldType) (hty : ∀ k, k < N → parseFieldDescriptor (Tt k).2.2.1 = some (ty0 k)) (hnm : ∀ a, a < N → ∀ b, b < N → a ≠ b → (Tt a).2.1 ≠ (Tt b).2.1) (j : Nat) (hj : j < N) (hcode : codes[j]? = some 0) (hlink : Cond.fieldLink own index ref (Tt j).2.1 (Tt j).2.2.1 ∈ Ts) (hsame : (Tt j).1 = ref) (hfin : (Tt j).2.2.2 = false) {v : Int32} (hn : narrow (ty0 j) (.int v) = .int v) (hfit : fits (ty0 j) (.int v) = true) (d : decode cc pc = .ok (.putfield index, 3)) (kk : zB G Z rm nL T ad ln kc ks (pc + 3) lv st (up2 al k j v)) : zB G Z rm nL T ad ln kc ks pc lv (.int v :: .ref (ad k) :: st) al := by
  obtain ⟨l, D, cy⟩ := G
  obtain ⟨p, e, s, m, args, below, meth, c, A, Q⟩ := Z
  obtain ⟨⟨hx, hb, hml, hown, hts⟩, hK, hA, hE, hlk⟩ := X
  intro H locs ls hP hD hS hl
  subst hsame
  have he := zW_get (cy := cy) (ad := ad) (al := al) (ln := ln) hk
  rw [hd] at he
  have hset : (zW cy T ad al ln).set k (ad k, .inr (ci, (zF ad (al k) 0 codes).set j (.int v))) = zW cy T ad (up2 al k j v) ln := by
    rw [← zW_set (al := al) (al' := up2 al k j v) hk (fun a ha => up2_name al j v ha), hd, up2_upd, zF_set ad (al k) v codes 0 j hcode, Nat.zero_add]
    rfl
  exact va_put (D := D) (ci := ci) (v := .int v) hx hb hts hin ty0 hty hnm hown hK hP hD hS k he hc j hj (hts _ hlink) (fun _ h9 => h9) hfin (hty j hj) hn hfit (by rw [zF_len]; exact (List.getElem?_eq_some_iff.mp hcode).1) d (fun H1 locs1 hP1 hD1 hS1 => kk H1 locs1 ls (by rw [← hset]; exact hP1) (by rw [← hset]; exact hD1) hS1 hl)
/-- the length of an array of ints -/
def zLen (ln : Nat → Nat) (k : Nat) (d : zDesc) : Nat := match d with
  | .inr (1, a, _, _) => a
  | .inr (2, _, _, _) => ln k
  | _ => 0
theorem zEn_int {cy : Nat → ClassId} {ad ln : Nat → Nat} {f : Nat → Int32} {k t a b c : Nat} (ht : t = 1 ∨ t = 2) : zEn cy ad f (ln k) (.inr (t, a, b, c)) = .inl (cy 1, zLen ln k (.inr (t, a, b, c)), .inl f) := by
  rcases ht with rfl | rfl <;> rfl
theorem zb_iald (X : zX G Z cc nL own Ts) (k : Nat) (hk : k < T.1) (t a b c0 : Nat) (hd : T.2 k = .inr (t, a, b, c0)) (ht : t = 1 ∨ t = 2) {i : Int32} (j : Nat) (hj : i.toNatClampNeg = j) (hin : vp_in i (zLen ln k (.inr (t, a, b, c0)))) (d : decode cc pc = .ok (.iaload, 1)) (v : Int32) (hv : al k j = v) (kk : zB G Z rm nL T ad ln kc ks (pc + 1) lv (.int v :: st) al) : zB G Z rm nL T ad ln kc ks pc lv (.int i :: .ref (ad k) :: st) al := by
  obtain ⟨l, D, cy⟩ := G
  obtain ⟨p, e, s, m, args, below, meth, c, A, Q⟩ := Z
  obtain ⟨⟨hx, hb, hml, hown, hts⟩, hK, hA, hE, hlk⟩ := X
  intro H locs ls hP hD hS hl
  have he := zW_get (cy := cy) (ad := ad) (al := al) (ln := ln) hk
  rw [hd, zEn_int ht] at he
  subst hv
  subst hj
  exact va_iald (D := D) hx hb hK hP k 1 he rfl hin d (kk H locs ls hP hD hS hl)
theorem zb_iast (X : zX G Z cc nL own Ts) (k : Nat) (hk : k < T.1) (t a b c0 : Nat) (hd : T.2 k = .inr (t, a, b, c0)) (ht : t = 1 ∨ t = 2) {i v : Int32} (j : Nat) (hj : i.toNatClampNeg = j) (hin : vp_in i (zLen ln k (.inr (t, a, b, c0)))) (d : decode cc pc = .ok (.iastore, 1)) (kk : zB G Z rm nL T ad ln kc ks (pc + 1) lv st (up2 al k j v)) : zB G Z rm nL T ad ln kc ks pc lv (.int v :: .int i :: .ref (ad k) :: st) al := by
  obtain ⟨l, D, cy⟩ := G
  obtain ⟨p, e, s, m, args, below, meth, c, A, Q⟩ := Z
  obtain ⟨⟨hx, hb, hml, hown, hts⟩, hK, hA, hE, hlk⟩ := X
  intro H locs ls hP hD hS hl
  have he := zW_get (cy := cy) (ad := ad) (al := al) (ln := ln) hk
  rw [hd, zEn_int ht] at he
  have hset : (zW cy T ad al ln).set k (ad k, .inl (cy 1, zLen ln k (.inr (t, a, b, c0)), .inl (upd (al k) i.toNatClampNeg v))) = zW cy T ad (up2 al k i.toNatClampNeg v) ln := by
    rw [← zW_set (al := al) (al' := up2 al k i.toNatClampNeg v) hk (fun a ha => up2_name al _ v ha), hd, up2_upd, zEn_int ht]
  subst hj
  exact va_iast (D := D) hx hb hK hP hD hS k 1 he rfl hin d (fun H1 locs1 hP1 hD1 hS1 => kk H1 locs1 ls (by rw [← hset]; exact hP1) (by rw [← hset]; exact hD1) hS1 hl)
theorem zb_bald (X : zX G Z cc nL own Ts) (k : Nat) (hk : k < T.1) (a b c0 : Nat) (hd : T.2 k = .inr (0, a, b, c0)) {i : Int32} (j : Nat) (hj : i.toNatClampNeg = j) (hin : vp_in i a) (d : decode cc pc = .ok (.baload, 1)) (v : Int32) (hv : al k j = v) (kk : zB G Z rm nL T ad ln kc ks (pc + 1) lv (.int v :: st) al) : zB G Z rm nL T ad ln kc ks pc lv (.int i :: .ref (ad k) :: st) al := by
  obtain ⟨l, D, cy⟩ := G
  obtain ⟨p, e, s, m, args, below, meth, c, A, Q⟩ := Z
  obtain ⟨⟨hx, hb, hml, hown, hts⟩, hK, hA, hE, hlk⟩ := X
  intro H locs ls hP hD hS hl
  have he := zW_get (cy := cy) (ad := ad) (al := al) (ln := ln) hk
  rw [hd] at he
  subst hv
  subst hj
  exact va_bald (D := D) (cA := cy 0) (n := a) (f := al k) hx hb hK hP k 0 he rfl hin d (kk H locs ls hP hD hS hl)
theorem zb_bast (X : zX G Z cc nL own Ts) (k : Nat) (hk : k < T.1) (a b c0 : Nat) (hd : T.2 k = .inr (0, a, b, c0)) {i v : Int32} (j : Nat) (hj : i.toNatClampNeg = j) (hin : vp_in i a) (d : decode cc pc = .ok (.bastore, 1)) (kk : zB G Z rm nL T ad ln kc ks (pc + 1) lv st (up2 al k j v.toInt8.toInt32)) : zB G Z rm nL T ad ln kc ks pc lv (.int v :: .int i :: .ref (ad k) :: st) al := by
  obtain ⟨l, D, cy⟩ := G
  obtain ⟨p, e, s, m, args, below, meth, c, A, Q⟩ := Z
  obtain ⟨⟨hx, hb, hml, hown, hts⟩, hK, hA, hE, hlk⟩ := X
  intro H locs ls hP hD hS hl
  have he := zW_get (cy := cy) (ad := ad) (al := al) (ln := ln) hk
  rw [hd] at he
  have hset : (zW cy T ad al ln).set k (ad k, .inl (cy 0, a, .inl (upd (al k) i.toNatClampNeg (vp_nar .byte v)))) = zW cy T ad (up2 al k i.toNatClampNeg v.toInt8.toInt32) ln := by
    rw [← zW_set (al := al) (al' := up2 al k i.toNatClampNeg v.toInt8.toInt32) hk (fun a ha => up2_name al _ _ ha), hd, up2_upd]
    rfl
  subst hj
  exact va_bast (D := D) (cA := cy 0) (n := a) (f := al k) hx hb hK hP hD hS k 0 he rfl hin d (fun H1 locs1 hP1 hD1 hS1 => kk H1 locs1 ls (by rw [← hset]; exact hP1) (by rw [← hset]; exact hD1) hS1 hl)
theorem zb_rald (X : zX G Z cc nL own Ts) (k : Nat) (hk : k < T.1) (a b c0 : Nat) (hd : T.2 k = .inr (3, a, b, c0)) {i : Int32} (hin : vp_in i a) (d : decode cc pc = .ok (.aaload, 1)) (kk : zB G Z rm nL T ad ln kc ks (pc + 1) lv (.ref (ad (b + c0 * i.toNatClampNeg)) :: st) al) : zB G Z rm nL T ad ln kc ks pc lv (.int i :: .ref (ad k) :: st) al := by
  obtain ⟨l, D, cy⟩ := G
  obtain ⟨p, e, s, m, args, below, meth, c, A, Q⟩ := Z
  obtain ⟨⟨hx, hb, hml, hown, hts⟩, hK, hA, hE, hlk⟩ := X
  intro H locs ls hP hD hS hl
  have he := zW_get (cy := cy) (ad := ad) (al := al) (ln := ln) hk
  rw [hd] at he
  exact va_aldq (D := D) (cA := cy 2) (n := a) (f := zRow ad b c0) hx hb hK hP k 2 he rfl hin d (kk H locs ls hP hD hS hl)
theorem zb_alen (X : zX G Z cc nL own Ts) (k : Nat) (hk : k < T.1) (t a b c0 : Nat) (hd : T.2 k = .inr (t, a, b, c0)) (ht : t = 1 ∨ t = 2) (d : decode cc pc = .ok (.arraylength, 1)) (kk : zB G Z rm nL T ad ln kc ks (pc + 1) lv (.int (nI (zLen ln k (.inr (t, a, b, c0)))) :: st) al) : zB G Z rm nL T ad ln kc ks pc lv (.ref (ad k) :: st) al := by
  obtain ⟨l, D, cy⟩ := G
  obtain ⟨p, e, s, m, args, below, meth, c, A, Q⟩ := Z
  obtain ⟨⟨hx, hb, hml, hown, hts⟩, hK, hA, hE, hlk⟩ := X
  intro H locs ls hP hD hS hl
  have he := zW_get (cy := cy) (ad := ad) (al := al) (ln := ln) hk
  rw [hd, zEn_int ht] at he
  exact va_alen (D := D) hx hb hK hP k 1 he rfl rfl d (kk H locs ls hP hD hS hl)
theorem zb_alenb (X : zX G Z cc nL own Ts) (k : Nat) (hk : k < T.1) (a b c0 : Nat) (hd : T.2 k = .inr (0, a, b, c0)) (d : decode cc pc = .ok (.arraylength, 1)) (kk : zB G Z rm nL T ad ln kc ks (pc + 1) lv (.int (nI a) :: st) al) : zB G Z rm nL T ad ln kc ks pc lv (.ref (ad k) :: st) al := by
  obtain ⟨l, D, cy⟩ := G
  obtain ⟨p, e, s, m, args, below, meth, c, A, Q⟩ := Z
  obtain ⟨⟨hx, hb, hml, hown, hts⟩, hK, hA, hE, hlk⟩ := X
  intro H locs ls hP hD hS hl
  have he := zW_get (cy := cy) (ad := ad) (al := al) (ln := ln) hk
  rw [hd] at he
  exact va_alen (D := D) (cA := cy 0) (x := (a, .inl (al k))) hx hb hK hP k 0 he rfl rfl d (kk H locs ls hP hD hS hl)
end ZR

section ZS
variable {G : zG} {Z : zC} {rm : Room} {nL : Nat} {T : zT} {ad ln : Nat → Nat} {kc ks pc : Nat} {lv lv' : List (Nat × Value)} {st : List Value} {al : Nat → Nat → Int32} {cc : ByteArray} {own : String} {Ts : List Cond}
/-- fewer locals are known -/
theorem zb_sub (ps : List Nat) (hp : lv_pick lv ps = lv') (kk : zB G Z rm nL T ad ln kc ks pc lv' st al) : zB G Z rm nL T ad ln kc ks pc lv st al := by
  obtain ⟨l, D, cy⟩ := G
  obtain ⟨p, e, s, m, args, below, meth, c, A, Q⟩ := Z
  intro H locs ls hP hD hS hl
  exact kk H locs ls hP hD hS (lv_sub hl ps hp)
/-- the cell x is a static array of N ints f, which nobody changes -/
def zSt (Z : zC) (x N : Nat) (f : Nat → Int32) : Prop := match Z with
  | (_, _, s, _, _, _, _, _, A, _) => va_T .int x N (fun j => .int (f j)) A s s.heap
theorem zb_stat (X : zX G Z cc nL own Ts) (n : String) (N : Nat) (f : Nat → Int32) (hg : ∀ (A : Nat → Prop) (U : State), zEv A U U.heap → zTab n N f A U U.heap) {index : Nat} (hlink : Cond.fieldLink own index "LoopForge" n "[I" ∈ Ts) (d : decode cc pc = .ok (.getstatic index, 3)) (kk : ∀ x : Nat, zSt Z x N f → zB G Z rm nL T ad ln kc ks (pc + 3) lv (.ref x :: st) al) : zB G Z rm nL T ad ln kc ks pc lv st al := by
  obtain ⟨l, D, cy⟩ := G
  obtain ⟨p, e, s, m, args, below, meth, c, A, Q⟩ := Z
  obtain ⟨⟨hx, hb, hml, hown, hts⟩, hK, hA, hE, hlk⟩ := X
  intro H locs ls hP hD hS hl
  obtain ⟨t, h1, h2⟩ := hg A s hE
  exact va_gets hx hb h1 hS hown (hts _ hlink) (fun _ h9 => h9) d (kk t h2 H locs ls hP hD hS hl)
theorem zb_statN (X : zX G Z cc nL own Ts) {index : Nat} (hn : (own, index) ∈ zNestF) (d : decode cc pc = .ok (.getstatic index, 3)) (kk : ∀ x : Nat, zSt Z x 4 zGS → zB G Z rm nL T ad ln kc ks (pc + 3) lv (.ref x :: st) al) : zB G Z rm nL T ad ln kc ks pc lv st al := by
  obtain ⟨l, D, cy⟩ := G
  obtain ⟨p, e, s, m, args, below, meth, c, A, Q⟩ := Z
  obtain ⟨⟨hx, hb, hml, hown, hts⟩, hK, hA, hE, hlk⟩ := X
  intro H locs ls hP hD hS hl
  obtain ⟨t, h1, h2⟩ := hE.2.2.2.2
  exact va_getsN hx hb h1 hS hown (va_Nw.use rfl (hE.2.1 _ hn)) (fun _ h9 => h9) d (kk t h2 H locs ls hP hD hS hl)
theorem zb_tald (X : zX G Z cc nL own Ts) (x N : Nat) (f : Nat → Int32) (hx9 : zSt Z x N f) {i : Int32} (j : Nat) (hj : i.toNatClampNeg = j) (hin : vp_in i N) (d : decode cc pc = .ok (.iaload, 1)) (kk : zB G Z rm nL T ad ln kc ks (pc + 1) lv (.int (f j) :: st) al) : zB G Z rm nL T ad ln kc ks pc lv (.int i :: .ref x :: st) al := by
  subst hj
  obtain ⟨l, D, cy⟩ := G
  obtain ⟨p, e, s, m, args, below, meth, c, A, Q⟩ := Z
  obtain ⟨⟨hx, hb, hml, hown, hts⟩, hK, hA, hE, hlk⟩ := X
  intro H locs ls hP hD hS hl
  exact va_ti (f := fun j => .int (f j)) hx hb hx9 hS hin rfl d (kk H locs ls hP hD hS hl)
theorem zb_ldc (X : zX G Z cc nL own Ts) {index : Nat} (v : Int32) (hw : Cond.constant own index v ∈ Ts) (d : decode cc pc = .ok (.ldc index, 2)) (kk : zB G Z rm nL T ad ln kc ks (pc + 2) lv (.int v :: st) al) : zB G Z rm nL T ad ln kc ks pc lv st al := by
  obtain ⟨l, D, cy⟩ := G
  obtain ⟨p, e, s, m, args, below, meth, c, A, Q⟩ := Z
  obtain ⟨⟨hx, hb, hml, hown, hts⟩, hK, hA, hE, hlk⟩ := X
  intro H locs ls hP hD hS hl
  exact lv_ldc hx hb hown (hts _ hw) d (kk H locs ls hP hD hS hl)
theorem zb_mmax (X : zX G Z cc nL own Ts) {index : Nat} (h1 : Cond.methodLink own index Lib.Math.max.name ∈ Ts) (h2 : Cond.static Lib.Math.max.name ∈ Ts) (h3 : Cond.initialized "java/lang/Math" ∈ Ts) (h4 : Cond.code Lib.Math.max.name Lib.Math.max.code 2 (some .int) ∈ Ts) (hr : (1 ≤ rm.frames ∧ (st.map fun v => v.category).sum + 13 ≤ rm.locals) ∧ kc ≤ rm.cells ∧ ks ≤ rm.slots) {x y : Int32} (d : decode cc pc = .ok (.invokestatic index, 3)) (kk : zB G Z rm nL T ad ln kc ks (pc + 3) lv (.int (if x < y then y else x) :: st) al) : zB G Z rm nL T ad ln kc ks pc lv (.int y :: .int x :: st) al := by
  obtain ⟨l, D, cy⟩ := G
  obtain ⟨p, e, s, m, args, below, meth, c, A, Q⟩ := Z
  obtain ⟨⟨hx, hb, hml, hown, hts⟩, hK, hA, hE, hlk⟩ := X
  intro H locs ls hP hD hS hl
  exact va_mmax hx hb (hml.trans hl.1.symm) hown (hts _ h1) (hts _ h2) (hts _ h3) (hts _ h4) hr.1.1 hr.1.2 hr.2.1 hr.2.2 d (kk H locs ls hP hD hS hl)
theorem zb_mmin (X : zX G Z cc nL own Ts) {index : Nat} (h1 : Cond.methodLink own index Lib.Math.min.name ∈ Ts) (h2 : Cond.static Lib.Math.min.name ∈ Ts) (h3 : Cond.initialized "java/lang/Math" ∈ Ts) (h4 : Cond.code Lib.Math.min.name Lib.Math.min.code 2 (some .int) ∈ Ts) (hr : (1 ≤ rm.frames ∧ (st.map fun v => v.category).sum + 13 ≤ rm.locals) ∧ kc ≤ rm.cells ∧ ks ≤ rm.slots) {x y : Int32} (d : decode cc pc = .ok (.invokestatic index, 3)) (kk : zB G Z rm nL T ad ln kc ks (pc + 3) lv (.int (if y < x then y else x) :: st) al) : zB G Z rm nL T ad ln kc ks pc lv (.int y :: .int x :: st) al := by
  obtain ⟨l, D, cy⟩ := G
  obtain ⟨p, e, s, m, args, below, meth, c, A, Q⟩ := Z
  obtain ⟨⟨hx, hb, hml, hown, hts⟩, hK, hA, hE, hlk⟩ := X
  intro H locs ls hP hD hS hl
  exact va_mmin hx hb (hml.trans hl.1.symm) hown (hts _ h1) (hts _ h2) (hts _ h3) (hts _ h4) hr.1.1 hr.1.2 hr.2.1 hr.2.2 d (kk H locs ls hP hD hS hl)
theorem zb_tabIn (X : zX G Z cc nL own Ts) {dflt lo hi off : Int} {offs : Array Int} {len : Nat} {x : Int32} (tgt : Nat) (d : decode cc pc = .ok (.tableswitch dflt lo hi offs, len)) (h1 : ¬ x.toInt < lo) (h2 : ¬ hi < x.toInt) (ho : offs[(x.toInt - lo).toNat]? = some off) (ht : (pc : Int) + off = (tgt : Int)) (kk : zB G Z rm nL T ad ln kc ks tgt lv st al) : zB G Z rm nL T ad ln kc ks pc lv (.int x :: st) al := by
  obtain ⟨l, D, cy⟩ := G
  obtain ⟨p, e, s, m, args, below, meth, c, A, Q⟩ := Z
  obtain ⟨⟨hx, hb, hml, hown, hts⟩, hK, hA, hE, hlk⟩ := X
  intro H locs ls hP hD hS hl
  exact lv_tableIn hx hb d h1 h2 ho ht (kk H locs ls hP hD hS hl)
theorem zb_tabOut (X : zX G Z cc nL own Ts) {dflt lo hi : Int} {offs : Array Int} {len : Nat} {x : Int32} (tgt : Nat) (d : decode cc pc = .ok (.tableswitch dflt lo hi offs, len)) (h : x.toInt < lo ∨ hi < x.toInt) (ht : (pc : Int) + dflt = (tgt : Int)) (kk : zB G Z rm nL T ad ln kc ks tgt lv st al) : zB G Z rm nL T ad ln kc ks pc lv (.int x :: st) al := by
  obtain ⟨l, D, cy⟩ := G
  obtain ⟨p, e, s, m, args, below, meth, c, A, Q⟩ := Z
  obtain ⟨⟨hx, hb, hml, hown, hts⟩, hK, hA, hE, hlk⟩ := X
  intro H locs ls hP hD hS hl
  exact lv_tableOut hx hb d h ht (kk H locs ls hP hD hS hl)
theorem zb_look (X : zX G Z cc nL own Ts) {dflt off : Int} {ps : Array (Int × Int)} {len : Nat} {x : Int32} (tgt : Nat) (d : decode cc pc = .ok (.lookupswitch dflt ps, len)) (hp : (ps.toList.zip (ps.toList.drop 1)).all (fun (a, next) => a.1 < next.1) = true) (ho : Op.lookupswitch.offset ps.toList dflt x.toInt = off) (ht : (pc : Int) + off = (tgt : Int)) (kk : zB G Z rm nL T ad ln kc ks tgt lv st al) : zB G Z rm nL T ad ln kc ks pc lv (.int x :: st) al := by
  obtain ⟨l, D, cy⟩ := G
  obtain ⟨p, e, s, m, args, below, meth, c, A, Q⟩ := Z
  obtain ⟨⟨hx, hb, hml, hown, hts⟩, hK, hA, hE, hlk⟩ := X
  intro H locs ls hP hD hS hl
  exact lv_lookup hx hb d hp ho ht (kk H locs ls hP hD hS hl)
theorem zb_gald (X : zX G Z cc nL own Ts) (k : Nat) (hk : k < T.1) (a b : Nat) (hd : T.2 k = .inr (4, a, b, 1)) {i : Int32} (j : Nat) (hj : i.toNatClampNeg = j) (hin : vp_in i a) (d : decode cc pc = .ok (.aaload, 1)) (kk : zB G Z rm nL T ad ln kc ks (pc + 1) lv (.ref (ad (b + j)) :: st) al) : zB G Z rm nL T ad ln kc ks pc lv (.int i :: .ref (ad k) :: st) al := by
  subst hj
  obtain ⟨l, D, cy⟩ := G
  obtain ⟨p, e, s, m, args, below, meth, c, A, Q⟩ := Z
  obtain ⟨⟨hx, hb, hml, hown, hts⟩, hK, hA, hE, hlk⟩ := X
  intro H locs ls hP hD hS hl
  have he := zW_get (cy := cy) (ad := ad) (al := al) (ln := ln) hk
  rw [hd] at he
  have hlt : i.toNatClampNeg < a := Nat.not_le.mp fun q => hin (Or.inr q)
  have kk := kk H locs ls hP hD hS hl
  rw [show b + i.toNatClampNeg = b + 1 * i.toNatClampNeg by omega] at kk
  exact W.aald (v := va_rf (zRow ad b 1 i.toNatClampNeg)) (ty := .array .int) hx hb (hP k _ he) ((hK.2 3 _ rfl).1 a (fun j => va_rf (zRow ad b 1 j))) rfl (fun q => by cases q) (by show ¬ (i < 0 ∨ (arrV _ _ _).slots.size ≤ _); rw [arrV_size]; exact hin) (by show (arrV _ _ _).slots[_]? = _; rw [arrV_read _ _ hlt]) rfl rfl d kk
/-- al, but f below N in the cell k -/
def upA (al : Nat → Nat → Int32) (k N : Nat) (f : Nat → Int32) : Nat → Nat → Int32 := fun a b => if a = k ∧ b < N then f b else al a b
theorem upA_name (al : Nat → Nat → Int32) {k a : Nat} (N : Nat) (f : Nat → Int32) (h : a ≠ k) : upA al k N f a = al a := by funext b; simp [upA, h]
theorem upA_cpy (al : Nat → Nat → Int32) (k N : Nat) (f : Nat → Int32) : upA al k N f k = va_cpy f (al k) 0 0 N := by
  funext b
  by_cases h : b < N <;> simp [upA, va_cpy, h]
theorem zb_acopy (X : zX G Z cc nL own Ts) (k1 : Nat) (hk1 : k1 < T.1) (t1 a1 b1 c1 : Nat) (hd1 : T.2 k1 = .inr (t1, a1, b1, c1)) (ht1 : t1 = 1 ∨ t1 = 2) (k2 : Nat) (hk2 : k2 < T.1) (t2 a2 b2 c2 : Nat) (hd2 : T.2 k2 = .inr (t2, a2, b2, c2)) (ht2 : t2 = 1 ∨ t2 = 2) {sp dp n : Int32} (h0 : sp = 0 ∧ dp = 0) (N : Nat) (hN : n.toNatClampNeg = N ∧ ¬ n < 0) (hl1 : N ≤ zLen ln k1 (.inr (t1, a1, b1, c1))) (hl2 : N ≤ zLen ln k2 (.inr (t2, a2, b2, c2))) {index : Nat} (w1 : Cond.methodLink own index arraycopyName ∈ Ts) (w2 : Cond.native arraycopyName ∈ Ts) (w3 : Cond.static arraycopyName ∈ Ts) (w4 : Cond.initialized "java/lang/System" ∈ Ts) (hr : 1 ≤ rm.frames ∧ (st.map fun v => v.category).sum + (nativeFrameWords "java/lang/System" "arraycopy" 5 + 11) ≤ rm.locals) (d : decode cc pc = .ok (.invokestatic index, 3)) (kk : zB G Z rm nL T ad ln kc ks (pc + 3) lv st (upA al k2 N (al k1))) : zB G Z rm nL T ad ln kc ks pc lv (.int n :: .int dp :: .ref (ad k2) :: .int sp :: .ref (ad k1) :: st) al := by
  obtain ⟨rfl, rfl⟩ := h0
  obtain ⟨rfl, hn0⟩ := hN
  obtain ⟨l, D, cy⟩ := G
  obtain ⟨p, e, s, m, args, below, meth, c, A, Q⟩ := Z
  obtain ⟨⟨hx, hb, hml, hown, hts⟩, hK, hA, hE, hlk⟩ := X
  intro H locs ls hP hD hS hl
  have he1 := zW_get (cy := cy) (ad := ad) (al := al) (ln := ln) hk1
  rw [hd1, zEn_int ht1] at he1
  have he2 := zW_get (cy := cy) (ad := ad) (al := al) (ln := ln) hk2
  rw [hd2, zEn_int ht2] at he2
  have hset : (zW cy T ad al ln).set k2 (ad k2, .inl (cy 1, zLen ln k2 (.inr (t2, a2, b2, c2)), .inl (va_cpy (al k1) (al k2) 0 0 n.toNatClampNeg))) = zW cy T ad (upA al k2 n.toNatClampNeg (al k1)) ln := by
    rw [← zW_set (al := al) (al' := upA al k2 n.toNatClampNeg (al k1)) hk2 (fun a ha => upA_name al _ _ ha), hd2, zEn_int ht2, upA_cpy]
  refine va_copyi (D := D) (ty := .int) hx hb (hml.trans hl.1.symm) hown (hts _ w1) (hts _ w2) (hts _ w3) (hts _ w4) hK hP hD hS k1 k2 1 1 he1 he2 rfl rfl rfl (by decide) (by decide) hn0 (by rw [sb_cl0, Nat.zero_add]; exact hl1) (by rw [sb_cl0, Nat.zero_add]; exact hl2) (fun _ _ => rfl) hr.1 hr.2 d (fun H1 locs1 hP1 hD1 hS1 => ?_)
  rw [sb_cl0] at hP1 hD1
  exact kk H1 locs1 ls (by rw [← hset]; exact hP1) (by rw [← hset]; exact hD1) hS1 hl
end ZS
theorem zne_int {x y : Int32} (h : ¬ x = y) : ¬ x.toInt = y.toInt := fun e => h (Int32.toInt_inj.mp e)
theorem zvp_lt {i : Int32} {n : Nat} (h : vp_in i n) : i.toNatClampNeg < n := Nat.not_le.mp fun q => h (Or.inr q)
/-! THE CLASS'S CELLS, by names: 0 LoopForge, 1 tape, 2 settings, 3 begins, 4 Loop, 5 rows, 6 setter, 7 Parser, 8 Signs, 9 sign, 10 place, 11 value, 12 Waits, 13 from, 14 to, 15 over, 16 delay, 17 height, 18 Table, 19 cycle, 20 latest, 21 used, 22 Spans, 23 begin, 24 end, 25 offset, 26 order, 27 alive, 28 taken, 29 + 3 x Row x, 30 + 3 x its left Operand, 31 + 3 x its right one; 173 Runner, 174 cells, 175 registers, 176 given, 177 places (once there is one: r) -/
def zDC (r : Bool) (k : Nat) : zDesc :=
  if k < 29 then ([.inl (9, [3, 0, 4, 5, 6, 9, 14, 20, 24, if r then 175 else 1, 0, 0, 0, 0, 0]), .inr (0, 4096, 0, 0), .inr (1, 9, 0, 0), .inr (1, 32, 0, 0), .inl (0, [7, 0, 8]), .inr (3, 48, 29, 3), .inr (1, 32, 0, 0), .inl (2, [10, 6, 0, 0]), .inl (5, [3, 0, 0, 11, 12, 13]), .inr (1, 577, 0, 0), .inr (1, 577, 0, 0), .inr (1, 577, 0, 0), .inl (8, [6, 4, 0, 15, 16, 17, 18, 19, 0, 0]), .inr (2, 0, 0, 0), .inr (2, 0, 0, 0), .inr (2, 0, 0, 0), .inr (2, 0, 0, 0), .inr (1, 48, 0, 0), .inl (7, [6, 14, 4, 21, 22, 23, 0, 0, 0]), .inr (1, 48, 0, 0), .inr (1, 48, 0, 0), .inr (1, 800, 0, 0), .inl (6, [6, 20, 4, 25, 26, 27, 28, 29, 30, 0, 0, 0, 0]), .inr (1, 48, 0, 0), .inr (1, 48, 0, 0), .inr (1, 48, 0, 0), .inr (1, 48, 0, 0), .inr (1, 200, 0, 0), .inr (1, 128, 0, 0)] : List zDesc).getD k (.inr (1, 0, 0, 0))
  else if k < 173 then (if (k - 29) % 3 = 0 then .inl (3, [0, 0, 0, 0, 0, 0, 0, k + 3, k + 4]) else .inl (1, [0, 0]))
  else ([.inl (4, [6, 20, 24, 4, 5, 176, 177, 178, 179, 0]), .inr (1, 4096, 0, 0), .inr (1, 32, 0, 0), .inr (1, 3072, 0, 0), .inr (1, 128, 0, 0)] : List zDesc).getD (k - 173) (.inr (1, 0, 0, 0))
def zTC (r : Bool) : zT := (if r then 178 else 173, zDC r)
theorem zTC_lt {r : Bool} {k : Nat} (h : k < 173) : k < (zTC r).1 := by cases r <;> simp [zTC] <;> omega
theorem zTC_ltR {k : Nat} (h : k < 178) : k < (zTC true).1 := by simp [zTC]; omega
theorem zrow_lt {x : Nat} (h : x < 48) : 29 + 3 * x < 173 := by omega
theorem zopl_lt {x : Nat} (h : x < 48) : 30 + 3 * x < 173 := by omega
theorem zopr_lt {x : Nat} (h : x < 48) : 31 + 3 * x < 173 := by omega
theorem zTC_row (r : Bool) {x : Nat} (h : x < 48) : (zTC r).2 (29 + 3 * x) = .inl (3, [0, 0, 0, 0, 0, 0, 0, (30 + 3 * x) + 2, (31 + 3 * x) + 2]) := by
  show zDC r (29 + 3 * x) = _
  unfold zDC
  rw [if_neg (by omega), if_pos (by omega), if_pos (by omega)]
  simp only [show 29 + 3 * x + 3 = 30 + 3 * x + 2 by omega, show 29 + 3 * x + 4 = 31 + 3 * x + 2 by omega]
theorem zTC_opl (r : Bool) {x : Nat} (h : x < 48) : (zTC r).2 (30 + 3 * x) = .inl (1, [0, 0]) := by
  show zDC r (30 + 3 * x) = _
  unfold zDC
  rw [if_neg (by omega), if_pos (by omega), if_neg (by omega)]
theorem zTC_opr (r : Bool) {x : Nat} (h : x < 48) : (zTC r).2 (31 + 3 * x) = .inl (1, [0, 0]) := by
  show zDC r (31 + 3 * x) = _
  unfold zDC
  rw [if_neg (by omega), if_pos (by omega), if_neg (by omega)]
/-- o is the name of an Operand -/
def zOp (r : Bool) (o : Nat) : Prop := o < (zTC r).1 ∧ (zTC r).2 o = .inl (1, [0, 0])
theorem zOp_l (r : Bool) {x : Nat} (h : x < 48) : zOp r (30 + 3 * x) := ⟨zTC_lt (zopl_lt h), zTC_opl r h⟩
theorem zOp_r (r : Bool) {x : Nat} (h : x < 48) : zOp r (31 + 3 * x) := ⟨zTC_lt (zopr_lt h), zTC_opr r h⟩
/-- a contract's start and end -/
def zPre (G : zG) (T : zT) (ad ln : Nat → Nat) (al : Nat → Nat → Int32) (sz : Nat) : State → Prop := fun U => U.heap.size = sz ∧ va_P G.2.1 vwCl (zW G.2.2 T ad al ln) U.heap ∧ va_K G.2.1 vwCl (zTy G.2.2) U ∧ va_D (fun _ => True) (zW G.2.2 T ad al ln) ∧ zEv (va_A (zW G.2.2 T ad al ln) sz) U U.heap
def zAt (G : zG) (T : zT) (ad ln : Nat → Nat) (A : Nat → Prop) (al : Nat → Nat → Int32) : State → Prop := fun t => va_P G.2.1 vwCl (zW G.2.2 T ad al ln) t.heap ∧ va_K G.2.1 vwCl (zTy G.2.2) t ∧ va_D A (zW G.2.2 T ad al ln)
/-- y at these arguments and cells answers an int (nothing): post -/
def zMi (G : zG) (y : MethodName) (ws : List Cond) (rm : Room) (T : zT) (ad ln : Nat → Nat) (As : List Value) (al : Nat → Nat → Int32) (post : Int32 → (Nat → Nat → Int32) → Prop) : Prop := ∀ sz : Nat, Met G.1 y ws rm (va_Pc As (zPre G T ad ln al sz)) (va_Qi post (zAt G T ad ln (va_A (zW G.2.2 T ad al ln) sz)) (va_A (zW G.2.2 T ad al ln) sz)) rm.cells rm.slots (va_A (zW G.2.2 T ad al ln) sz)
def zMv (G : zG) (y : MethodName) (ws : List Cond) (rm : Room) (T : zT) (ad ln : Nat → Nat) (As : List Value) (al : Nat → Nat → Int32) (post : (Nat → Nat → Int32) → Prop) : Prop := ∀ sz : Nat, Met G.1 y ws rm (va_Pc As (zPre G T ad ln al sz)) (va_Qv post (zAt G T ad ln (va_A (zW G.2.2 T ad al ln) sz)) (va_A (zW G.2.2 T ad al ln) sz)) rm.cells rm.slots (va_A (zW G.2.2 T ad al ln) sz)
theorem zPre.blind {G : zG} {T : zT} {ad ln : Nat → Nat} {al : Nat → Nat → Int32} {sz : Nat} {As : List Value} : FrameBlind (va_Pc As (zPre G T ad ln al sz)) := by
  intro a U g mk q
  obtain ⟨q0, q1, qP, qK, qD, qE⟩ := q
  exact ⟨q0, q1, qP, va_K.moved (u := U) (U := U.calling g mk a) (Vm.Alike.refl U.vm) qK, qD, qE.same rfl rfl⟩
/-- what a method may answer: its type keeps it -/
def zOk (rt : FieldType) (x : Int32) : Prop := narrow rt (.int x) = .int x
/-- the answer is left: at any ireturn -/
def zRi (G : zG) (Z : zC) (rm : Room) (nL : Nat) (T : zT) (ad ln : Nat → Nat) (cc : ByteArray) (rt : FieldType) (post : Int32 → (Nat → Nat → Int32) → Prop) : Prop := ∀ (pc : Nat) (lv : List (Nat × Value)) (x : Int32) (al : Nat → Nat → Int32), decode cc pc = .ok (.ireturn, 1) → zOk rt x → post x al → zB G Z rm nL T ad ln rm.cells rm.slots pc lv [.int x] al
def zRv (G : zG) (Z : zC) (rm : Room) (nL : Nat) (T : zT) (ad ln : Nat → Nat) (cc : ByteArray) (post : (Nat → Nat → Int32) → Prop) : Prop := ∀ (pc : Nat) (lv : List (Nat × Value)) (al : Nat → Nat → Int32), decode cc pc = .ok (.return_, 1) → post al → zB G Z rm nL T ad ln rm.cells rm.slots pc lv [] al
theorem zMi.of {G : zG} {y : MethodName} {ws ws' : List Cond} {rm : Room} {T : zT} {ad ln : Nat → Nat} {As : List Value} {al : Nat → Nat → Int32} {post : Int32 → (Nat → Nat → Int32) → Prop} {cc : ByteArray} {nL : Nat} {rt : FieldType} (hy : plainName y.cls = true) (hw : ws = .code y cc nL (some rt) :: ws') (hlen : (lg_sl As).length ≤ nL)
    (body : ∀ Z : zC, zX G Z cc nL y.cls ws → zRi G Z rm nL T ad ln cc rt post → zB G Z rm nL T ad ln 0 0 0 (lv_args 0 As) [] al) : zMi G y ws rm T ad ln As al post := by
  intro sz
  refine Met.ofW (cc := cc) (maxL := nL) (ret := some rt) hy hw ?_
  intro p e s m args below meth c s₁ B hml hv
  obtain ⟨rfl, hsz, hP, hK, hD0, hE⟩ := hv
  have hts := atoms_spec (ws := ws) B.pre
  subst hsz
  have hD := hD0.self (sz := s.heap.size)
  generalize hAe : va_A (zW G.2.2 T ad al ln) s.heap.size = A at hD hE ⊢
  have hA : ∀ q : Nat, s.heap.size ≤ q → A q := fun q h => by rw [← hAe]; exact Or.inr h
  have hl := lv_entry As hlen
  rw [lg_entry_eq]
  obtain ⟨l, D, cy⟩ := G
  refine body (p, e, s, m, As.toArray, below, meth, c, A, MQ below (va_Qi post (zAt (l, D, cy) T ad ln A) A) As.toArray s rm.cells rm.slots A) ⟨⟨B.exec, B.bytes, hml, findClass_of_methodNamed B.named, hts⟩, hK, hA, hE, B.notSynchronized⟩ ?_ s.heap [] _ hP hD va_S.rf hl
  intro pc lv x al' d ho hp H locs ls hP hD hS hl
  exact W.zret (v := x) (ty := rt) B.exec B.bytes B.returns ho (fun t ht hW => ⟨⟨x, al', rfl, hp, by rw [ht]; exact hP, va_K.moved hW.alike hK, hD⟩, hS.F ht⟩) hS.2.2 d B.notSynchronized
theorem zMv.of {G : zG} {y : MethodName} {ws ws' : List Cond} {rm : Room} {T : zT} {ad ln : Nat → Nat} {As : List Value} {al : Nat → Nat → Int32} {post : (Nat → Nat → Int32) → Prop} {cc : ByteArray} {nL : Nat} (hy : plainName y.cls = true) (hw : ws = .code y cc nL none :: ws') (hlen : (lg_sl As).length ≤ nL)
    (body : ∀ Z : zC, zX G Z cc nL y.cls ws → zRv G Z rm nL T ad ln cc post → zB G Z rm nL T ad ln 0 0 0 (lv_args 0 As) [] al) : zMv G y ws rm T ad ln As al post := by
  intro sz
  refine Met.ofW (cc := cc) (maxL := nL) (ret := none) hy hw ?_
  intro p e s m args below meth c s₁ B hml hv
  obtain ⟨rfl, hsz, hP, hK, hD0, hE⟩ := hv
  have hts := atoms_spec (ws := ws) B.pre
  subst hsz
  have hD := hD0.self (sz := s.heap.size)
  generalize hAe : va_A (zW G.2.2 T ad al ln) s.heap.size = A at hD hE ⊢
  have hA : ∀ q : Nat, s.heap.size ≤ q → A q := fun q h => by rw [← hAe]; exact Or.inr h
  have hl := lv_entry As hlen
  rw [lg_entry_eq]
  obtain ⟨l, D, cy⟩ := G
  refine body (p, e, s, m, As.toArray, below, meth, c, A, MQ below (va_Qv post (zAt (l, D, cy) T ad ln A) A) As.toArray s rm.cells rm.slots A) ⟨⟨B.exec, B.bytes, hml, findClass_of_methodNamed B.named, hts⟩, hK, hA, hE, B.notSynchronized⟩ ?_ s.heap [] _ hP hD va_S.rf hl
  intro pc lv al' d hp H locs ls hP hD hS hl
  exact W.vret B.exec B.bytes B.returns (fun t ht hW => ⟨⟨al', rfl, hp, by rw [ht]; exact hP, va_K.moved hW.alike hK, hD⟩, hS.F ht⟩) hS.2.2 d B.notSynchronized
theorem zMi.mono {G : zG} {y : MethodName} {ws : List Cond} {rm : Room} {T : zT} {ad ln : Nat → Nat} {As : List Value} {al : Nat → Nat → Int32} {post post' : Int32 → (Nat → Nat → Int32) → Prop} (h : zMi G y ws rm T ad ln As al post) (hp : ∀ r a, post r a → post' r a) : zMi G y ws rm T ad ln As al post' := by
  intro sz p e ha hc hk s m args below hf happ hP hKK
  obtain ⟨n, o, h1, h2, h3, ⟨⟨⟨r, u, q1, q2, q3⟩, q4⟩, q5⟩⟩ := h sz p e ha hc hk s m args below hf happ hP hKK
  exact ⟨n, o, h1, h2, h3, ⟨⟨⟨r, u, q1, hp r u q2, q3⟩, q4⟩, q5⟩⟩
theorem zMv.mono {G : zG} {y : MethodName} {ws : List Cond} {rm : Room} {T : zT} {ad ln : Nat → Nat} {As : List Value} {al : Nat → Nat → Int32} {post post' : (Nat → Nat → Int32) → Prop} (h : zMv G y ws rm T ad ln As al post) (hp : ∀ a, post a → post' a) : zMv G y ws rm T ad ln As al post' := by
  intro sz p e ha hc hk s m args below hf happ hP hKK
  obtain ⟨n, o, h1, h2, h3, ⟨⟨⟨u, q1, q2, q3⟩, q4⟩, q5⟩⟩ := h sz p e ha hc hk s m args below hf happ hP hKK
  exact ⟨n, o, h1, h2, h3, ⟨⟨⟨u, q1, hp u q2, q3⟩, q4⟩, q5⟩⟩
section ZK
variable {G : zG} {Z : zC} {rm rm' : Room} {nL : Nat} {T : zT} {ad ln : Nat → Nat} {kc ks pc : Nat} {lv : List (Nat × Value)} {st stk : List Value} {al : Nat → Nat → Int32} {cc : ByteArray} {own : String} {Ts ws ws' : List Cond} {y : MethodName} {bytes : ByteArray} {maxL n index : Nat} {ret : Option FieldType} {As : List Value}
/-- the callee's room in the caller's -/
abbrev zFit (rm rm' : Room) (maxL kc ks : Nat) : Prop := (rm'.frames + 1 ≤ rm.frames ∧ 8 + (maxL + 11) + rm'.locals ≤ rm.locals) ∧ kc + rm'.cells ≤ rm.cells ∧ ks + rm'.slots ≤ rm.slots
theorem zb_callVi (X : zX G Z cc nL own Ts) (k : Nat) (hk : k < T.1) (ci : Nat) (codes : List Nat) (hd : T.2 k = .inl (ci, codes)) {C : String} {Tt : u_T} {N : Nat} (hc : vwCl[ci]? = some (C, Tt, N)) {post : Int32 → (Nat → Nat → Int32) → Prop} (M : zMi G y ws rm' T ad ln (.ref (ad k) :: As) al post) (hg : GoodIn Ts (wsV own index C y ws)) (hw : ws = .code y bytes maxL ret :: ws') (hd2 : y.cls = C ∧ y.cls ≠ "java/lang/invoke/MethodHandle" ∧ y.cls ≠ "java/lang/invoke/VarHandle" ∧ (parseMethodDescriptor y.desc).map (fun d => d.parameters.length) = some n) (hR : zFit rm rm' maxL kc ks) (hn : As.length = n) (hst : stk = As.reverse ++ .ref (ad k) :: st) (hW8 : 2 * 0 + (st.map fun v => v.category).sum ≤ 8) (d : decode cc pc = .ok (.invokevirtual index, 3)) {kc' ks' : Nat} (hkc : kc + rm'.cells = kc') (hks : ks + rm'.slots = ks') (kk : ∀ (r : Int32) al', post r al' → zB G Z rm nL T ad ln kc' ks' (pc + 3) lv (.int r :: st) al') : zB G Z rm nL T ad ln kc ks pc lv stk al := by
  subst hst
  subst hkc
  subst hks
  obtain ⟨l, D, cy⟩ := G
  obtain ⟨p, e, s, m, args, below, meth, c, A, Q⟩ := Z
  obtain ⟨⟨hx, hb, hml, hown, hts⟩, hK, hA, hE, hlk⟩ := X
  intro H locs ls hP hD hS hl
  have he := zW_get (cy := cy) (ad := ad) (al := al) (ln := ln) hk
  rw [hd] at he
  have hFc : ∀ q, va_A (zW cy T ad al ln) H.size q → A q := fun q h => h.elim (fun ⟨k, e, h⟩ => hD.2 k (q, e) h) (fun h => hA q (Nat.le_trans hS.1 h))
  have hpre : ∀ U : State, U.heap = H → s.WarmedH U.vm → va_Pc (.ref (ad k) :: As) (zPre (l, D, cy) T ad ln al H.size) (.ref (ad k) :: As).toArray U := fun U hU hW => ⟨rfl, by rw [hU], by rw [hU]; exact hP, va_K.moved hW.alike hK, hD.weaken (fun _ _ _ _ => trivial), hE.go hW hS hFc hU⟩
  refine va_calli (va_runV (As := As) (rest := st) ⟨hx, hb, hml, hown, hts⟩ (M H.size) (cwV n hts hg hw rfl rfl hd2 hR.1) ⟨zPre.blind, va_recv hK hP hc he, hpre⟩ rfl hn hl.1 rfl hW8 d hR.2) hS (fun q _ h => hFc q h) hFc (fun r u t H1 locs1 ht hvm hp hB hz hk1 hS1 => ?_)
  obtain ⟨hP1, hK1, hD1⟩ := hB
  rw [ht] at hP1
  exact kk r u hp H1 locs1 ls hP1 (hD1.weaken (fun _ _ _ h => hFc _ h)) hS1 hl
theorem zb_callVv (X : zX G Z cc nL own Ts) (k : Nat) (hk : k < T.1) (ci : Nat) (codes : List Nat) (hd : T.2 k = .inl (ci, codes)) {C : String} {Tt : u_T} {N : Nat} (hc : vwCl[ci]? = some (C, Tt, N)) {post : (Nat → Nat → Int32) → Prop} (M : zMv G y ws rm' T ad ln (.ref (ad k) :: As) al post) (hg : GoodIn Ts (wsV own index C y ws)) (hw : ws = .code y bytes maxL ret :: ws') (hd2 : y.cls = C ∧ y.cls ≠ "java/lang/invoke/MethodHandle" ∧ y.cls ≠ "java/lang/invoke/VarHandle" ∧ (parseMethodDescriptor y.desc).map (fun d => d.parameters.length) = some n) (hR : zFit rm rm' maxL kc ks) (hn : As.length = n) (hst : stk = As.reverse ++ .ref (ad k) :: st) (hW8 : 2 * 0 + (st.map fun v => v.category).sum ≤ 8) (d : decode cc pc = .ok (.invokevirtual index, 3)) {kc' ks' : Nat} (hkc : kc + rm'.cells = kc') (hks : ks + rm'.slots = ks') (kk : ∀ al', post al' → zB G Z rm nL T ad ln kc' ks' (pc + 3) lv st al') : zB G Z rm nL T ad ln kc ks pc lv stk al := by
  subst hst
  subst hkc
  subst hks
  obtain ⟨l, D, cy⟩ := G
  obtain ⟨p, e, s, m, args, below, meth, c, A, Q⟩ := Z
  obtain ⟨⟨hx, hb, hml, hown, hts⟩, hK, hA, hE, hlk⟩ := X
  intro H locs ls hP hD hS hl
  have he := zW_get (cy := cy) (ad := ad) (al := al) (ln := ln) hk
  rw [hd] at he
  have hFc : ∀ q, va_A (zW cy T ad al ln) H.size q → A q := fun q h => h.elim (fun ⟨k, e, h⟩ => hD.2 k (q, e) h) (fun h => hA q (Nat.le_trans hS.1 h))
  have hpre : ∀ U : State, U.heap = H → s.WarmedH U.vm → va_Pc (.ref (ad k) :: As) (zPre (l, D, cy) T ad ln al H.size) (.ref (ad k) :: As).toArray U := fun U hU hW => ⟨rfl, by rw [hU], by rw [hU]; exact hP, va_K.moved hW.alike hK, hD.weaken (fun _ _ _ _ => trivial), hE.go hW hS hFc hU⟩
  refine va_callv (va_runV (As := As) (rest := st) ⟨hx, hb, hml, hown, hts⟩ (M H.size) (cwV n hts hg hw rfl rfl hd2 hR.1) ⟨zPre.blind, va_recv hK hP hc he, hpre⟩ rfl hn hl.1 rfl hW8 d hR.2) hS (fun q _ h => hFc q h) hFc (fun u t H1 locs1 ht hvm hp hB hz hk1 hS1 => ?_)
  obtain ⟨hP1, hK1, hD1⟩ := hB
  rw [ht] at hP1
  exact kk u hp H1 locs1 ls hP1 (hD1.weaken (fun _ _ _ h => hFc _ h)) hS1 hl
theorem zb_callSi (X : zX G Z cc nL own Ts) {post : Int32 → (Nat → Nat → Int32) → Prop} (M : zMi G y ws rm' T ad ln As al post) (hg : GoodIn Ts (va_wsS own index y ws)) (hw : ws = .code y bytes maxL ret :: ws') (hd2 : y.cls ≠ "java/lang/invoke/MethodHandle" ∧ y.cls ≠ "java/lang/invoke/VarHandle" ∧ (parseMethodDescriptor y.desc).map (fun d => d.parameters.length) = some n) (hR : zFit rm rm' maxL kc ks) (hn : As.length = n) (hst : stk = As.reverse ++ st) (hW8 : 2 * 0 + (st.map fun v => v.category).sum ≤ 8) (d : decode cc pc = .ok (.invokestatic index, 3)) {kc' ks' : Nat} (hkc : kc + rm'.cells = kc') (hks : ks + rm'.slots = ks') (kk : ∀ (r : Int32) al', post r al' → zB G Z rm nL T ad ln kc' ks' (pc + 3) lv (.int r :: st) al') : zB G Z rm nL T ad ln kc ks pc lv stk al := by
  subst hst
  subst hkc
  subst hks
  obtain ⟨l, D, cy⟩ := G
  obtain ⟨p, e, s, m, args, below, meth, c, A, Q⟩ := Z
  obtain ⟨⟨hx, hb, hml, hown, hts⟩, hK, hA, hE, hlk⟩ := X
  intro H locs ls hP hD hS hl
  have hFc : ∀ q, va_A (zW cy T ad al ln) H.size q → A q := fun q h => h.elim (fun ⟨k, e, h⟩ => hD.2 k (q, e) h) (fun h => hA q (Nat.le_trans hS.1 h))
  have hpre : ∀ U : State, U.heap = H → s.WarmedH U.vm → va_Pc As (zPre (l, D, cy) T ad ln al H.size) As.toArray U := fun U hU hW => ⟨rfl, by rw [hU], by rw [hU]; exact hP, va_K.moved hW.alike hK, hD.weaken (fun _ _ _ _ => trivial), hE.go hW hS hFc hU⟩
  refine va_calli (va_runS (As := As) (rest := st) ⟨hx, hb, hml, hown, hts⟩ (M H.size) (va_cwS n hts hg hw rfl rfl hd2 hR.1) ⟨zPre.blind, hpre⟩ rfl hn hl.1 rfl hW8 d hR.2) hS (fun q _ h => hFc q h) hFc (fun r u t H1 locs1 ht hvm hp hB hz hk1 hS1 => ?_)
  obtain ⟨hP1, hK1, hD1⟩ := hB
  rw [ht] at hP1
  exact kk r u hp H1 locs1 ls hP1 (hD1.weaken (fun _ _ _ h => hFc _ h)) hS1 hl
theorem zb_callSv (X : zX G Z cc nL own Ts) {post : (Nat → Nat → Int32) → Prop} (M : zMv G y ws rm' T ad ln As al post) (hg : GoodIn Ts (va_wsS own index y ws)) (hw : ws = .code y bytes maxL ret :: ws') (hd2 : y.cls ≠ "java/lang/invoke/MethodHandle" ∧ y.cls ≠ "java/lang/invoke/VarHandle" ∧ (parseMethodDescriptor y.desc).map (fun d => d.parameters.length) = some n) (hR : zFit rm rm' maxL kc ks) (hn : As.length = n) (hst : stk = As.reverse ++ st) (hW8 : 2 * 0 + (st.map fun v => v.category).sum ≤ 8) (d : decode cc pc = .ok (.invokestatic index, 3)) {kc' ks' : Nat} (hkc : kc + rm'.cells = kc') (hks : ks + rm'.slots = ks') (kk : ∀ al', post al' → zB G Z rm nL T ad ln kc' ks' (pc + 3) lv st al') : zB G Z rm nL T ad ln kc ks pc lv stk al := by
  subst hst
  subst hkc
  subst hks
  obtain ⟨l, D, cy⟩ := G
  obtain ⟨p, e, s, m, args, below, meth, c, A, Q⟩ := Z
  obtain ⟨⟨hx, hb, hml, hown, hts⟩, hK, hA, hE, hlk⟩ := X
  intro H locs ls hP hD hS hl
  have hFc : ∀ q, va_A (zW cy T ad al ln) H.size q → A q := fun q h => h.elim (fun ⟨k, e, h⟩ => hD.2 k (q, e) h) (fun h => hA q (Nat.le_trans hS.1 h))
  have hpre : ∀ U : State, U.heap = H → s.WarmedH U.vm → va_Pc As (zPre (l, D, cy) T ad ln al H.size) As.toArray U := fun U hU hW => ⟨rfl, by rw [hU], by rw [hU]; exact hP, va_K.moved hW.alike hK, hD.weaken (fun _ _ _ _ => trivial), hE.go hW hS hFc hU⟩
  refine va_callv (va_runS (As := As) (rest := st) ⟨hx, hb, hml, hown, hts⟩ (M H.size) (va_cwS n hts hg hw rfl rfl hd2 hR.1) ⟨zPre.blind, hpre⟩ rfl hn hl.1 rfl hW8 d hR.2) hS (fun q _ h => hFc q h) hFc (fun u t H1 locs1 ht hvm hp hB hz hk1 hS1 => ?_)
  obtain ⟨hP1, hK1, hD1⟩ := hB
  rw [ht] at hP1
  exact kk u hp H1 locs1 ls hP1 (hD1.weaken (fun _ _ _ h => hFc _ h)) hS1 hl
theorem zb_callNi (X : zX G Z cc nL own Ts) {post : Int32 → (Nat → Nat → Int32) → Prop} (M : zMi G y ws rm' T ad ln As al post) (hg : GoodIn Ts ws) (hni : (own, index, y) ∈ zNestM) (hini : Cond.initialized y.cls ∈ Ts) (hsta : Cond.static y ∈ Ts) (hw : ws = .code y bytes maxL ret :: ws') (hd2 : y.cls ≠ "java/lang/invoke/MethodHandle" ∧ y.cls ≠ "java/lang/invoke/VarHandle" ∧ (parseMethodDescriptor y.desc).map (fun d => d.parameters.length) = some n) (hR : zFit rm rm' maxL kc ks) (hn : As.length = n) (hst : stk = As.reverse ++ st) (hW8 : 2 * 0 + (st.map fun v => v.category).sum ≤ 8) (d : decode cc pc = .ok (.invokestatic index, 3)) {kc' ks' : Nat} (hkc : kc + rm'.cells = kc') (hks : ks + rm'.slots = ks') (kk : ∀ (r : Int32) al', post r al' → zB G Z rm nL T ad ln kc' ks' (pc + 3) lv (.int r :: st) al') : zB G Z rm nL T ad ln kc ks pc lv stk al := by
  subst hst
  subst hkc
  subst hks
  obtain ⟨l, D, cy⟩ := G
  obtain ⟨p, e, s, m, args, below, meth, c, A, Q⟩ := Z
  obtain ⟨⟨hx, hb, hml, hown, hts⟩, hK, hA, hE, hlk⟩ := X
  intro H locs ls hP hD hS hl
  have hFc : ∀ q, va_A (zW cy T ad al ln) H.size q → A q := fun q h => h.elim (fun ⟨k, e, h⟩ => hD.2 k (q, e) h) (fun h => hA q (Nat.le_trans hS.1 h))
  have hpre : ∀ U : State, U.heap = H → s.WarmedH U.vm → va_Pc As (zPre (l, D, cy) T ad ln al H.size) As.toArray U := fun U hU hW => ⟨rfl, by rw [hU], by rw [hU]; exact hP, va_K.moved hW.alike hK, hD.weaken (fun _ _ _ _ => trivial), hE.go hW hS hFc hU⟩
  refine va_calli (va_runSN (As := As) (rest := st) ⟨hx, hb, hml, hown, hts⟩ (M H.size) ⟨va_cnB n hts hg hw rfl rfl (hE.1 _ hni) (hts _ hini) hd2 hR.1, hts _ hsta, trivial⟩ ⟨zPre.blind, hpre⟩ rfl hn hl.1 rfl hW8 d hR.2) hS (fun q _ h => hFc q h) hFc (fun r u t H1 locs1 ht hvm hp hB hz hk1 hS1 => ?_)
  obtain ⟨hP1, hK1, hD1⟩ := hB
  rw [ht] at hP1
  exact kk r u hp H1 locs1 ls hP1 (hD1.weaken (fun _ _ _ h => hFc _ h)) hS1 hl
theorem zb_callNv (X : zX G Z cc nL own Ts) {post : (Nat → Nat → Int32) → Prop} (M : zMv G y ws rm' T ad ln As al post) (hg : GoodIn Ts ws) (hni : (own, index, y) ∈ zNestM) (hini : Cond.initialized y.cls ∈ Ts) (hsta : Cond.static y ∈ Ts) (hw : ws = .code y bytes maxL ret :: ws') (hd2 : y.cls ≠ "java/lang/invoke/MethodHandle" ∧ y.cls ≠ "java/lang/invoke/VarHandle" ∧ (parseMethodDescriptor y.desc).map (fun d => d.parameters.length) = some n) (hR : zFit rm rm' maxL kc ks) (hn : As.length = n) (hst : stk = As.reverse ++ st) (hW8 : 2 * 0 + (st.map fun v => v.category).sum ≤ 8) (d : decode cc pc = .ok (.invokestatic index, 3)) {kc' ks' : Nat} (hkc : kc + rm'.cells = kc') (hks : ks + rm'.slots = ks') (kk : ∀ al', post al' → zB G Z rm nL T ad ln kc' ks' (pc + 3) lv st al') : zB G Z rm nL T ad ln kc ks pc lv stk al := by
  subst hst
  subst hkc
  subst hks
  obtain ⟨l, D, cy⟩ := G
  obtain ⟨p, e, s, m, args, below, meth, c, A, Q⟩ := Z
  obtain ⟨⟨hx, hb, hml, hown, hts⟩, hK, hA, hE, hlk⟩ := X
  intro H locs ls hP hD hS hl
  have hFc : ∀ q, va_A (zW cy T ad al ln) H.size q → A q := fun q h => h.elim (fun ⟨k, e, h⟩ => hD.2 k (q, e) h) (fun h => hA q (Nat.le_trans hS.1 h))
  have hpre : ∀ U : State, U.heap = H → s.WarmedH U.vm → va_Pc As (zPre (l, D, cy) T ad ln al H.size) As.toArray U := fun U hU hW => ⟨rfl, by rw [hU], by rw [hU]; exact hP, va_K.moved hW.alike hK, hD.weaken (fun _ _ _ _ => trivial), hE.go hW hS hFc hU⟩
  refine va_callv (va_runSN (As := As) (rest := st) ⟨hx, hb, hml, hown, hts⟩ (M H.size) ⟨va_cnB n hts hg hw rfl rfl (hE.1 _ hni) (hts _ hini) hd2 hR.1, hts _ hsta, trivial⟩ ⟨zPre.blind, hpre⟩ rfl hn hl.1 rfl hW8 d hR.2) hS (fun q _ h => hFc q h) hFc (fun u t H1 locs1 ht hvm hp hB hz hk1 hS1 => ?_)
  obtain ⟨hP1, hK1, hD1⟩ := hB
  rw [ht] at hP1
  exact kk u hp H1 locs1 ls hP1 (hD1.weaken (fun _ _ _ h => hFc _ h)) hS1 hl
end ZK
