/-! contracts of the smallest methods -/
theorem zMi.ofF {G : zG} {y : MethodName} {ws ws' : List Cond} {rm : Room} {T : zT} {ad ln : Nat → Nat} {As : List Value} {al : Nat → Nat → Int32} {post : Int32 → (Nat → Nat → Int32) → Prop} {cc : ByteArray} {nL : Nat} {rt : FieldType} (hy : plainFor y = true) (hw : ws = .code y cc nL (some rt) :: ws') (hlen : (lg_sl As).length ≤ nL)
    (body : ∀ Z : zC, zX G Z cc nL y.cls ws → zRi G Z rm nL T ad ln cc rt post → zB G Z rm nL T ad ln 0 0 0 (lv_args 0 As) [] al) : zMi G y ws rm T ad ln As al post := by
  intro sz
  refine va_MetF (cc := cc) (maxL := nL) (ret := some rt) hy hw ?_
  intro p e s m args below meth c s₁ B hml hv
  obtain ⟨rfl, hsz, hP, hK, hD0, hE⟩ := hv
  have hts := atoms_spec (ws := ws) B.pre
  subst hsz
  have hD := hD0.self (sz := s.heap.size)
  generalize hAe : va_A (zW G.2.2 T ad al ln) s.heap.size = A at hD hE ⊢
  have hA : ∀ q : Nat, s.heap.size ≤ q → A q := fun q h => by rw [← hAe]; exact Or.inr h
  have hl := lv_entry As hlen
  rw [lg_entry_eq]
  obtain ⟨l, D, cy⟩ := G
  refine body (p, e, s, m, As.toArray, below, meth, c, A, MQ below (va_Qi post (zAt (l, D, cy) T ad ln A) A) As.toArray s rm.cells rm.slots A) ⟨⟨B.exec, B.bytes, hml, findClass_of_methodNamed B.named, hts⟩, hK, hA, hE, B.notSynchronized⟩ ?_ s.heap [] _ hP hD va_S.rf hl
  intro pc lv x al' d ho hp H locs ls hP hD hS hl
  exact W.zret (v := x) (ty := rt) B.exec B.bytes B.returns ho (fun t ht hW => ⟨⟨x, al', rfl, hp, by rw [ht]; exact hP, va_K.moved hW.alike hK, hD⟩, hS.F ht⟩) hS.2.2 d B.notSynchronized
theorem c_floorDiv (G : zG) (T : zT) (ad ln : Nat → Nat) (al : Nat → Nat → Int32) {x y : Int} (hx : zR x) (hy : zR y) (h0 : 0 < y) : zMi G yJ9_floorDiv_7cf53 wsJ9_floorDiv_7cf53 rmJ9_floorDiv_7cf53 T ad ln [.int (zI x), .int (zI y)] al (fun q a => q = zI (x / y) ∧ a = al) := by
  refine zMi.ofF (cc := cJ9_floorDiv_7cf53) (nL := 3) (rt := .int) (by decide +kernel) rfl (Nat.le_of_ble_eq_true rfl) (fun Z X hR => ?_)
  refine tJ9_floorDiv_7cf53_0 X _ _ hR al ?_
  unfold vcJ9_floorDiv_7cf53_0 vcJ9_floorDiv_7cf53_21
  have hn : ¬ zI y < 0 := by rw [zI_0, zI_lt hy ⟨by omega, by omega⟩]; omega
  have hz : zR 0 := ⟨by omega, by omega⟩
  have e := zfloor (x := x) h0
  rw [zxor_sign hn, zI_div hx hy h0, zI_mul, zI_0, zI_le hz hx]
  have hmul : zI (x.tdiv y * y) = zI x ↔ x.tdiv y * y = x := by
    refine zI_eq ?_ hx
    have e2 := Int.mul_tdiv_add_tmod x y
    have hq : y * x.tdiv y = x.tdiv y * y := Int.mul_comm _ _
    have h2 := hx.1
    have h3 := hx.2
    by_cases h : 0 ≤ x
    · have := Int.tmod_nonneg (a := x) y h
      have h4 : 0 ≤ x.tdiv y := Int.tdiv_nonneg h (by omega)
      have := Int.mul_nonneg h4 (show (0 : Int) ≤ y by omega)
      constructor <;> omega
    · have := Int.tmod_nonneg (a := -x) y (by omega)
      rw [Int.neg_tmod] at this
      have h4 : 0 ≤ (-x).tdiv y := Int.tdiv_nonneg (by omega) (by omega)
      rw [Int.neg_tdiv] at h4
      have := Int.mul_nonneg h4 (show (0 : Int) ≤ y by omega)
      rw [Int.neg_mul] at this
      constructor <;> omega
  rw [hmul]
  refine ⟨fun h => ?_, fun h => ⟨?_, rfl⟩, fun h => ⟨fun h2 => ⟨?_, rfl⟩, fun h2 => ⟨?_, rfl⟩⟩⟩
  · rw [zI_eq hy hz] at h
    omega
  · rw [e, if_pos h]
  · rw [e, if_neg h, if_pos h2]
  · rw [e, if_neg h, if_neg h2, zI_1, zI_sub]
theorem c_floorMod (G : zG) (T : zT) (ad ln : Nat → Nat) (al : Nat → Nat → Int32) {x y : Int} (hx : zR x) (hy : zR y) (h0 : 0 < y) : zMi G yJ9_floorMod_7cf53 wsJ9_floorMod_7cf53 rmJ9_floorMod_7cf53 T ad ln [.int (zI x), .int (zI y)] al (fun q a => q = zI (x % y) ∧ a = al) := by
  refine zMi.ofF (cc := cJ9_floorMod_7cf53) (nL := 3) (rt := .int) (by decide +kernel) rfl (Nat.le_of_ble_eq_true rfl) (fun Z X hR => ?_)
  refine tJ9_floorMod_7cf53_0 X _ _ hR al ?_
  unfold vcJ9_floorMod_7cf53_0 vcJ9_floorMod_7cf53_18
  have hn : ¬ zI y < 0 := by rw [zI_0, zI_lt hy ⟨by omega, by omega⟩]; omega
  have hz : zR 0 := ⟨by omega, by omega⟩
  have e := zfloorM (x := x) h0
  have ht : zR (x.tmod y) := by
    have h2 := hy.2
    by_cases h : 0 ≤ x
    · have := Int.tmod_nonneg (a := x) y h
      have := Int.tmod_lt_of_pos x h0
      constructor <;> omega
    · have := Int.tmod_nonneg (a := -x) y (by omega)
      have := Int.tmod_lt_of_pos (-x) h0
      rw [Int.neg_tmod] at *
      constructor <;> omega
  rw [zI_rem hx hy h0, zxor_sign hn, zI_0, zI_le hz hx, zI_eq ht hz, zI_add]
  refine ⟨fun h => ?_, fun h => ⟨?_, rfl⟩, fun h => ⟨fun h2 => ⟨?_, rfl⟩, fun h2 => ⟨?_, rfl⟩⟩⟩
  · rw [zI_eq hy hz] at h
    omega
  · have := Int.tmod_nonneg (a := x) y h
    rw [e, if_neg (by omega)]
  · rw [e, if_neg (by omega)]
  · have := Int.tmod_nonneg (a := -x) y (by omega)
    rw [Int.neg_tmod] at this
    rw [e, if_pos (by omega)]
section LEAF
variable (G : zG) (r : Bool) (ad ln : Nat → Nat) (al : Nat → Nat → Int32)
theorem c_quotient {x y : Int} (hx : zR x) (hy : zR y) (h0 : 0 < y) : zMi G yX9_quotient wsX9_quotient rmX9_quotient (zTC r) ad ln [.int (zI x), .int (zI y)] al (fun q a => q = zI (x / y) ∧ a = al) := by
  refine zMi.of (cc := cX9_quotient) (nL := 2) (rt := .int) (by decide) rfl (Nat.le_of_ble_eq_true rfl) (fun Z X hR => ?_)
  refine tX9_quotient_0 X _ _ hR al ?_
  unfold vcX9_quotient_0 vcX9_quotient_13
  refine ⟨fun h => ?_, fun h => c_floorDiv G (zTC r) ad ln al hx hy h0⟩
  rw [zI_0, zI_le hy ⟨by omega, by omega⟩] at h
  omega
theorem c_rest {x y : Int} (hx : zR x) (hy : zR y) (h0 : 0 < y) : zMi G yX9_rest wsX9_rest rmX9_rest (zTC r) ad ln [.int (zI x), .int (zI y)] al (fun q a => q = zI (x % y) ∧ a = al) := by
  refine zMi.of (cc := cX9_rest) (nL := 2) (rt := .int) (by decide) rfl (Nat.le_of_ble_eq_true rfl) (fun Z X hR => ?_)
  refine tX9_rest_0 X _ _ hR al ?_
  unfold vcX9_rest_0 vcX9_rest_13
  refine ⟨fun h => ?_, fun h => c_floorMod G (zTC r) ad ln al hx hy h0⟩
  rw [zI_0, zI_le hy ⟨by omega, by omega⟩] at h
  omega
/-- a group, by its number, of a kind -/
def zGrp (k g : Nat) : Bool := if g = 0 then true else if g = 1 then decide (k < 2) else if g = 2 then decide (k = 2 ∨ k = 3) else decide (k = 1)
def zb (b : Bool) : Int32 := if b then 1 else 0
theorem zb_ok (b : Bool) : zOk .boolean (zb b) := by cases b <;> rfl
theorem c_isInGroup {k g : Nat} (hk : k < 4) (hg : g < 4) : zMi G yX9_isInGroup wsX9_isInGroup rmX9_isInGroup (zTC r) ad ln [.int (nI k), .int (nI g)] al (fun q a => q = zb (zGrp k g) ∧ a = al) := by
  refine zMi.of (cc := cX9_isInGroup) (nL := 2) (rt := .boolean) (by decide) rfl (Nat.le_of_ble_eq_true rfl) (fun Z X hR => ?_)
  refine tX9_isInGroup_0 X _ _ hR al ?_
  unfold vcX9_isInGroup_0 vcX9_isInGroup_39 vcX9_isInGroup_44 vcX9_isInGroup_55 vcX9_isInGroup_60 vcX9_isInGroup_71
  rcases (show k = 0 ∨ k = 1 ∨ k = 2 ∨ k = 3 by omega) with rfl | rfl | rfl | rfl <;> rcases (show g = 0 ∨ g = 1 ∨ g = 2 ∨ g = 3 by omega) with rfl | rfl | rfl | rfl <;> simp [zGrp, zb, zOk, narrow, nI]
theorem c_roundsOfUse {x y : Int} (hx : zR x) (hy : zR y) : zMi G yX9_roundsOfUse wsX9_roundsOfUse rmX9_roundsOfUse (zTC r) ad ln [.int (zI x), .int (zI y)] al (fun q a => q = (if x < y then 0 else 1) ∧ a = al) := by
  refine zMi.of (cc := cX9_roundsOfUse) (nL := 2) (rt := .int) (by decide) rfl (Nat.le_of_ble_eq_true rfl) (fun Z X hR => ?_)
  refine tX9_roundsOfUse_0 X _ _ hR al ?_
  unfold vcX9_roundsOfUse_0 vcX9_roundsOfUse_10
  rw [zI_le hy hx]
  refine ⟨fun h => ⟨?_, rfl⟩, fun h => ⟨?_, rfl⟩⟩
  · rw [if_neg (by omega)]
  · rw [if_pos (by omega)]
theorem c_become (o : Nat) (ho : zOp r o) (p1 p2 : Int32) : zMv G yX1_become wsX1_become rmX1_become (zTC r) ad ln [.ref (ad o), .int p1, .int p2] al (fun a => a = up2 (up2 al o 0 p1) o 1 p2) := by
  refine zMv.of (cc := cX1_become) (nL := 3) (by decide) rfl (Nat.le_of_ble_eq_true rfl) (fun Z X hR => ?_)
  refine tX1_become_0 X o ho _ _ hR al ?_
  unfold vcX1_become_0
  rfl
theorem c_spot (w : Nat) (hw : w < 48) (p : Int32) : zMi G yX3_spot wsX3_spot rmX3_spot (zTC r) ad ln [.ref (ad (29 + 3 * w)), .int p] al (fun q a => q = al (29 + 3 * w) 5 * p + al (29 + 3 * w) 6 ∧ a = al) := by
  refine zMi.of (cc := cX3_spot) (nL := 2) (rt := .int) (by decide) rfl (Nat.le_of_ble_eq_true rfl) (fun Z X hR => ?_)
  refine tX3_spot_0 X w hw _ hR al ?_
  unfold vcX3_spot_0
  exact ⟨rfl, rfl⟩
/-- Row.clear -/
def zClear (al : Nat → Nat → Int32) (w : Nat) (p : Int32) : Nat → Nat → Int32 := fun a b =>
  if a = 29 + 3 * w then (if b = 0 then 0 else if b = 1 then 43 else if b = 2 then -1 else if b = 3 then p else if b = 4 then -1 else if b = 5 then 0 else if b = 6 then 0 else al a b)
  else if a = 30 + 3 * w ∨ a = 31 + 3 * w then (if b = 0 then 48 else if b = 1 then 0 else al a b)
  else al a b
theorem c_clear (w : Nat) (hw : w < 48) (p : Int32) : zMv G yX3_clear wsX3_clear rmX3_clear (zTC r) ad ln [.ref (ad (29 + 3 * w)), .int p] al (fun a => a = zClear al w p) := by
  refine zMv.of (cc := cX3_clear) (nL := 2) (by decide) rfl (Nat.le_of_ble_eq_true rfl) (fun Z X hR => ?_)
  refine tX3_clear_0 X w hw _ hR al ?_
  unfold vcX3_clear_0
  refine (c_become G r ad ln _ (30 + 3 * w) (zOp_l r hw) _ _).mono (fun a1 h1 => ?_)
  refine (c_become G r ad ln _ (31 + 3 * w) (zOp_r r hw) _ _).mono (fun a2 h2 => ?_)
  rw [h2, h1]
  funext a b
  simp only [up2, zClear]
  by_cases h29 : a = 29 + 3 * w
  · subst h29
    simp only [show ¬ (29 + 3 * w = 30 + 3 * w) by omega, show ¬ (29 + 3 * w = 31 + 3 * w) by omega, false_and, if_false, true_and, if_true]
    by_cases b0 : b = 0
    · subst b0; simp
    by_cases b1 : b = 1
    · subst b1; simp
    by_cases b2 : b = 2
    · subst b2; simp
    by_cases b3 : b = 3
    · subst b3; simp
    by_cases b4 : b = 4
    · subst b4; simp
    by_cases b5 : b = 5
    · subst b5; simp
    by_cases b6 : b = 6
    · subst b6; simp
    simp [b0, b1, b2, b3, b4, b5, b6]
  · by_cases h30 : a = 30 + 3 * w
    · subst h30
      simp only [show ¬ (30 + 3 * w = 29 + 3 * w) by omega, show ¬ (30 + 3 * w = 31 + 3 * w) by omega, false_and, if_false, true_and, true_or, if_true]
      by_cases b0 : b = 0
      · subst b0; simp
      by_cases b1 : b = 1
      · subst b1; simp
      simp [b0, b1]
    · by_cases h31 : a = 31 + 3 * w
      · subst h31
        simp only [show ¬ (31 + 3 * w = 29 + 3 * w) by omega, show ¬ (31 + 3 * w = 30 + 3 * w) by omega, false_and, if_false, true_and, or_true, if_true]
        by_cases b0 : b = 0
        · subst b0; simp
        by_cases b1 : b = 1
        · subst b1; simp
        simp [b0, b1]
      · simp [h29, h30, h31]
/-- the value of an operation, by the sign that names it -/
def zReck (op a b : Int32) : Int32 := if op = 38 then a &&& b else if op = 42 then a * b else if op = 43 then a + b else if op = 45 then a - b else if op = 60 then (if a < b then 1 else 0) else if op = 94 then a ^^^ b else if op = 124 then a ||| b else if op = 256 then a <<< ((b &&& 31) &&& 31) else if op = 257 then a >>> ((b &&& 31) &&& 31) else if op = 258 then (if a < b then a else b) else (if b < a then a else b)
theorem c_source (o : Nat) (ho : zOp r o) (h : al o 0 = 114 → vp_in (al o 1) 32) : zMi G yX0_source wsX0_source rmX0_source (zTC r) ad ln [.ref (ad 4), .ref (ad o)] al (fun q a => q = (if al o 0 = 114 then al 6 (al o 1).toNatClampNeg else -1) ∧ a = al) := by
  refine zMi.of (cc := cX0_source) (nL := 2) (rt := .int) (by decide) rfl (Nat.le_of_ble_eq_true rfl) (fun Z X hR => ?_)
  refine tX0_source_0 X o ho hR al ?_
  unfold vcX0_source_0 vcX0_source_22
  exact ⟨fun c => ⟨by rw [if_neg c], rfl⟩, fun c => ⟨h c, by rw [if_pos c], rfl⟩⟩
end LEAF
section LEAF2
variable (G : zG) (r : Bool) (ad ln : Nat → Nat) (al : Nat → Nat → Int32)
theorem c_reckon (w : Nat) (hw : w < 48) (p1 p2 : Int32) : zMi G yX3_reckon wsX3_reckon rmX3_reckon (zTC r) ad ln [.ref (ad (29 + 3 * w)), .int p1, .int p2] al (fun q a => q = zReck (al (29 + 3 * w) 1) p1 p2 ∧ a = al) := by
  refine zMi.of (cc := cX3_reckon) (nL := 3) (rt := .int) (by decide) rfl (Nat.le_of_ble_eq_true rfl) (fun Z X hR => ?_)
  refine tX3_reckon_0 X w hw _ _ hR al ?_
  unfold vcX3_reckon_0 vcX3_reckon_130 vcX3_reckon_155 vcX3_reckon_166 zReck
  generalize al (29 + 3 * w) 1 = op
  exact ⟨fun h0 => ⟨by rw [if_pos h0], rfl⟩, fun h0 => ⟨fun h1 => ⟨by rw [if_neg h0, if_pos h1], rfl⟩, fun h1 => ⟨fun h2 => ⟨by rw [if_neg h0, if_neg h1, if_pos h2], rfl⟩, fun h2 => ⟨fun h3 => ⟨by rw [if_neg h0, if_neg h1, if_neg h2, if_pos h3], rfl⟩, fun h3 => ⟨fun h4 => ⟨fun c => ⟨by rw [if_neg h0, if_neg h1, if_neg h2, if_neg h3, if_pos h4, if_neg (Int32.not_lt.mpr c)], rfl⟩, fun c => ⟨by rw [if_neg h0, if_neg h1, if_neg h2, if_neg h3, if_pos h4, if_pos (Int32.not_le.mp c)], rfl⟩⟩, fun h4 => ⟨fun h5 => ⟨by rw [if_neg h0, if_neg h1, if_neg h2, if_neg h3, if_neg h4, if_pos h5], rfl⟩, fun h5 => ⟨fun h6 => ⟨by rw [if_neg h0, if_neg h1, if_neg h2, if_neg h3, if_neg h4, if_neg h5, if_pos h6], rfl⟩, fun h6 => ⟨fun h7 => ⟨by rw [if_neg h0, if_neg h1, if_neg h2, if_neg h3, if_neg h4, if_neg h5, if_neg h6, if_pos h7], rfl⟩, fun h7 => ⟨fun h8 => ⟨by rw [if_neg h0, if_neg h1, if_neg h2, if_neg h3, if_neg h4, if_neg h5, if_neg h6, if_neg h7, if_pos h8], rfl⟩, fun h8 => ⟨fun h9 => ⟨fun c => ⟨by rw [if_neg h0, if_neg h1, if_neg h2, if_neg h3, if_neg h4, if_neg h5, if_neg h6, if_neg h7, if_neg h8, if_pos h9, if_neg (Int32.not_lt.mpr c)], rfl⟩, fun c => ⟨by rw [if_neg h0, if_neg h1, if_neg h2, if_neg h3, if_neg h4, if_neg h5, if_neg h6, if_neg h7, if_neg h8, if_pos h9, if_pos (Int32.not_le.mp c)], rfl⟩⟩, fun h9 => ⟨fun c => ⟨by rw [if_neg h0, if_neg h1, if_neg h2, if_neg h3, if_neg h4, if_neg h5, if_neg h6, if_neg h7, if_neg h8, if_neg h9, if_neg (Int32.not_lt.mpr c)], rfl⟩, fun c => ⟨by rw [if_neg h0, if_neg h1, if_neg h2, if_neg h3, if_neg h4, if_neg h5, if_neg h6, if_neg h7, if_neg h8, if_neg h9, if_pos (Int32.not_le.mp c)], rfl⟩⟩⟩⟩⟩⟩⟩⟩⟩⟩⟩⟩
theorem upA_0 (k : Nat) (f : Nat → Int32) : upA al k 0 f = al := by
  funext a b
  simp [upA]
theorem upA_s (k n : Nat) (f : Nat → Int32) : up2 (upA al k n f) k n (f n) = upA al k (n + 1) f := by
  funext a b
  simp only [up2, upA]
  by_cases h : a = k
  · subst h
    by_cases hb : b = n
    · subst hb
      simp
    · by_cases h2 : b < n
      · simp [hb, h2, Nat.lt_succ_of_lt h2]
      · simp [hb, h2, show ¬ b < n + 1 by omega]
  · simp [h]
theorem c_fill (T : zT) (o t a b c : Nat) (ho : o < T.1 ∧ T.2 o = .inr (t, a, b, c) ∧ (t = 1 ∨ t = 2)) (hN : zLen ln o (.inr (t, a, b, c)) < 2147483648) (p : Int32) : zMv G yJ7_fill_53178 wsJ7_fill_53178 rmJ7_fill_53178 T ad ln [.ref (ad o), .int p] al (fun a' => a' = upA al o (zLen ln o (.inr (t, a, b, c))) (fun _ => p)) := by
  refine zMv.of (cc := cJ7_fill_53178) (nL := 4) (by decide) rfl (Nat.le_of_ble_eq_true rfl) (fun Z X hR => ?_)
  generalize hNe : zLen ln o (.inr (t, a, b, c)) = N at hN hR
  have loop : ∀ k n, n + k = N → BJ7_fill_53178_5 G Z T ad ln o t a b c ho p (nI n) (nI N) (upA al o n (fun _ => p)) := by
    intro k
    induction k with
    | zero =>
      intro n hn
      refine uJ7_fill_53178_5 X o t a b c ho p hR _ _ _ ?_
      unfold vcJ7_fill_53178_5
      refine ⟨fun _ => ?_, fun h => absurd (nI_le (by omega) (by omega)) h⟩
      rw [show n = N by omega]
    | succ k ih =>
      intro n hn
      refine uJ7_fill_53178_5 X o t a b c ho p hR _ _ _ ?_
      unfold vcJ7_fill_53178_5
      refine ⟨fun h => absurd h (nI_ge (by omega) (by omega)), fun _ => ⟨by rw [hNe]; exact vp_in_nI (by omega) (by omega), ?_⟩⟩
      have := ih (n + 1) (by omega)
      rw [nI_1, nI_clamp (by omega)]
      rw [← upA_s] at this
      exact this
  refine uJ7_fill_53178_0 X o t a b c ho p hR al ?_
  unfold vcJ7_fill_53178_0
  have := loop N 0 (by omega)
  rw [upA_0] at this
  rw [hNe]
  exact this
end LEAF2
