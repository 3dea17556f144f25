abbrev rmX11_result : Room := { frames := 1, cells := 0, slots := 0, locals := 21 }
theorem kX11_result_0 : Cond.methodLink RX11 50 Lib.Math.min.name ∈ wsX11_result := by decide +kernel
theorem kX11_result_1 : Cond.static Lib.Math.min.name ∈ wsX11_result := by decide +kernel
theorem kX11_result_2 : Cond.initialized "java/lang/Math" ∈ wsX11_result := by decide +kernel
theorem kX11_result_3 : Cond.code Lib.Math.min.name Lib.Math.min.code 2 (some .int) ∈ wsX11_result := by decide +kernel
theorem kX11_result_4 : Cond.methodLink RX11 134 Lib.Math.max.name ∈ wsX11_result := by decide +kernel
theorem kX11_result_5 : Cond.static Lib.Math.max.name ∈ wsX11_result := by decide +kernel
theorem kX11_result_6 : Cond.code Lib.Math.max.name Lib.Math.max.code 2 (some .int) ∈ wsX11_result := by decide +kernel
def vcX11_result_104 (G : zG)  (ad ln : Nat → Nat) (p0 : Int32) (p1 : Int32) (p2 : Int32)  (post : Int32 → (Nat → Nat → Int32) → Prop) (s0 : Int32) (al : Nat → Nat → Int32) : Prop :=
  post s0 al
def vcX11_result_0 (G : zG)  (ad ln : Nat → Nat) (p0 : Int32) (p1 : Int32) (p2 : Int32)  (post : Int32 → (Nat → Nat → Int32) → Prop) (al : Nat → Nat → Int32) : Prop :=
  (p0 = (0 : Int32) → post (p1 + p2) al) ∧ (¬ p0 = (0 : Int32) → (p0 = (1 : Int32) → post (p1 - p2) al) ∧ (¬ p0 = (1 : Int32) → (p0 = (2 : Int32) → post (p1 * p2) al) ∧ (¬ p0 = (2 : Int32) → (p0 = (3 : Int32) → post (p1 &&& p2) al) ∧ (¬ p0 = (3 : Int32) → (p0 = (4 : Int32) → post (p1 ||| p2) al) ∧ (¬ p0 = (4 : Int32) → (p0 = (5 : Int32) → post (p1 ^^^ p2) al) ∧ (¬ p0 = (5 : Int32) → (p0 = (6 : Int32) → post (p1 <<< ((p2 &&& (31 : Int32)) &&& 31)) al) ∧ (¬ p0 = (6 : Int32) → (p0 = (7 : Int32) → post (p1 >>> ((p2 &&& (31 : Int32)) &&& 31)) al) ∧ (¬ p0 = (7 : Int32) → (p0 = (8 : Int32) → (p2 ≤ p1 → vcX11_result_104 G  ad ln p0 p1 p2  post (0 : Int32) al) ∧ (¬ p2 ≤ p1 → vcX11_result_104 G  ad ln p0 p1 p2  post (1 : Int32) al)) ∧ (¬ p0 = (8 : Int32) → (p0 = (9 : Int32) → post (if p2 < p1 then p2 else p1) al) ∧ (¬ p0 = (9 : Int32) → post (if p1 < p2 then p2 else p1) al))))))))))
set_option maxRecDepth 20000 in
theorem tX11_result_104 {G : zG} {Z : zC}  {ad ln : Nat → Nat} (X : zX G Z cX11_result 3 RX11 wsX11_result) (p0 : Int32) (p1 : Int32) (p2 : Int32)  {post : Int32 → (Nat → Nat → Int32) → Prop} (hR : zRi G Z rmX11_result 3 zTR ad ln cX11_result .int post)  (s0 : Int32) (al : Nat → Nat → Int32) (h : vcX11_result_104 G  ad ln p0 p1 p2  post s0 al) : zB G Z rmX11_result 3 zTR ad ln 0 0 104 [] [.int s0] al := by
  unfold vcX11_result_104 at h
  exact hR 104 _ _ _ dX11_result_104 rfl h
set_option maxRecDepth 20000 in
theorem tX11_result_0 {G : zG} {Z : zC}  {ad ln : Nat → Nat} (X : zX G Z cX11_result 3 RX11 wsX11_result) (p0 : Int32) (p1 : Int32) (p2 : Int32)  {post : Int32 → (Nat → Nat → Int32) → Prop} (hR : zRi G Z rmX11_result 3 zTR ad ln cX11_result .int post)  (al : Nat → Nat → Int32) (h : vcX11_result_0 G  ad ln p0 p1 p2  post  al) : zB G Z rmX11_result 3 zTR ad ln 0 0 0 [(0, .int p0), (1, .int p1), (2, .int p2)] [] al := by
  unfold vcX11_result_0 at h
  refine zb_iload_n X dX11_result_0 rfl 0 rfl ?_
  by_cases c1 : p0 = (0 : Int32)
  · have h := h.1 c1
    refine zb_tabIn X 56 dX11_result_1 (by rw [c1]; decide) (by rw [c1]; decide) (by rw [c1]; rfl) (by decide) ?_
    refine zb_iload_n X dX11_result_56 rfl 1 rfl ?_
    refine zb_iload_n X dX11_result_57 rfl 2 rfl ?_
    refine zb_iadd X dX11_result_58 ?_
    exact hR 59 _ _ _ dX11_result_59 rfl h
  have h := h.2 c1
  by_cases c2 : p0 = (1 : Int32)
  · have h := h.1 c2
    refine zb_tabIn X 60 dX11_result_1 (by rw [c2]; decide) (by rw [c2]; decide) (by rw [c2]; rfl) (by decide) ?_
    refine zb_iload_n X dX11_result_60 rfl 1 rfl ?_
    refine zb_iload_n X dX11_result_61 rfl 2 rfl ?_
    refine zb_isub X dX11_result_62 ?_
    exact hR 63 _ _ _ dX11_result_63 rfl h
  have h := h.2 c2
  by_cases c3 : p0 = (2 : Int32)
  · have h := h.1 c3
    refine zb_tabIn X 64 dX11_result_1 (by rw [c3]; decide) (by rw [c3]; decide) (by rw [c3]; rfl) (by decide) ?_
    refine zb_iload_n X dX11_result_64 rfl 1 rfl ?_
    refine zb_iload_n X dX11_result_65 rfl 2 rfl ?_
    refine zb_imul X dX11_result_66 ?_
    exact hR 67 _ _ _ dX11_result_67 rfl h
  have h := h.2 c3
  by_cases c4 : p0 = (3 : Int32)
  · have h := h.1 c4
    refine zb_tabIn X 68 dX11_result_1 (by rw [c4]; decide) (by rw [c4]; decide) (by rw [c4]; rfl) (by decide) ?_
    refine zb_iload_n X dX11_result_68 rfl 1 rfl ?_
    refine zb_iload_n X dX11_result_69 rfl 2 rfl ?_
    refine zb_iand X dX11_result_70 ?_
    exact hR 71 _ _ _ dX11_result_71 rfl h
  have h := h.2 c4
  by_cases c5 : p0 = (4 : Int32)
  · have h := h.1 c5
    refine zb_tabIn X 72 dX11_result_1 (by rw [c5]; decide) (by rw [c5]; decide) (by rw [c5]; rfl) (by decide) ?_
    refine zb_iload_n X dX11_result_72 rfl 1 rfl ?_
    refine zb_iload_n X dX11_result_73 rfl 2 rfl ?_
    refine zb_ior X dX11_result_74 ?_
    exact hR 75 _ _ _ dX11_result_75 rfl h
  have h := h.2 c5
  by_cases c6 : p0 = (5 : Int32)
  · have h := h.1 c6
    refine zb_tabIn X 76 dX11_result_1 (by rw [c6]; decide) (by rw [c6]; decide) (by rw [c6]; rfl) (by decide) ?_
    refine zb_iload_n X dX11_result_76 rfl 1 rfl ?_
    refine zb_iload_n X dX11_result_77 rfl 2 rfl ?_
    refine zb_ixor X dX11_result_78 ?_
    exact hR 79 _ _ _ dX11_result_79 rfl h
  have h := h.2 c6
  by_cases c7 : p0 = (6 : Int32)
  · have h := h.1 c7
    refine zb_tabIn X 80 dX11_result_1 (by rw [c7]; decide) (by rw [c7]; decide) (by rw [c7]; rfl) (by decide) ?_
    refine zb_iload_n X dX11_result_80 rfl 1 rfl ?_
    refine zb_iload_n X dX11_result_81 rfl 2 rfl ?_
    refine zb_bipush X (31 : Int32) dX11_result_82 (by decide) ?_
    refine zb_iand X dX11_result_84 ?_
    refine zb_ishl X dX11_result_85 ?_
    exact hR 86 _ _ _ dX11_result_86 rfl h
  have h := h.2 c7
  by_cases c8 : p0 = (7 : Int32)
  · have h := h.1 c8
    refine zb_tabIn X 87 dX11_result_1 (by rw [c8]; decide) (by rw [c8]; decide) (by rw [c8]; rfl) (by decide) ?_
    refine zb_iload_n X dX11_result_87 rfl 1 rfl ?_
    refine zb_iload_n X dX11_result_88 rfl 2 rfl ?_
    refine zb_bipush X (31 : Int32) dX11_result_89 (by decide) ?_
    refine zb_iand X dX11_result_91 ?_
    refine zb_ishr X dX11_result_92 ?_
    exact hR 93 _ _ _ dX11_result_93 rfl h
  have h := h.2 c8
  by_cases c9 : p0 = (8 : Int32)
  · have h := h.1 c9
    refine zb_tabIn X 94 dX11_result_1 (by rw [c9]; decide) (by rw [c9]; decide) (by rw [c9]; rfl) (by decide) ?_
    refine zb_iload_n X dX11_result_94 rfl 1 rfl ?_
    refine zb_iload_n X dX11_result_95 rfl 2 rfl ?_
    refine zb_icmp_ge X 103 dX11_result_96 (by decide) (fun c10 => ?_) (fun c10 => ?_)
    · have h := h.1 c10
      refine zb_iconst X (0 : Int32) dX11_result_103 (by decide) ?_
      refine zb_sub [] rfl ?_
      exact tX11_result_104 X p0 p1 p2 hR  (0 : Int32) al h
    · have h := h.2 c10
      refine zb_iconst X (1 : Int32) dX11_result_99 (by decide) ?_
      refine zb_goto X 104 dX11_result_100 (by decide) ?_
      refine zb_sub [] rfl ?_
      exact tX11_result_104 X p0 p1 p2 hR  (1 : Int32) al h
  have h := h.2 c9
  by_cases c10 : p0 = (9 : Int32)
  · have h := h.1 c10
    refine zb_tabIn X 105 dX11_result_1 (by rw [c10]; decide) (by rw [c10]; decide) (by rw [c10]; rfl) (by decide) ?_
    refine zb_iload_n X dX11_result_105 rfl 1 rfl ?_
    refine zb_iload_n X dX11_result_106 rfl 2 rfl ?_
    refine zb_mmin X kX11_result_0 kX11_result_1 kX11_result_2 kX11_result_3 ⟨⟨Nat.le_of_ble_eq_true rfl, Nat.le_of_ble_eq_true rfl⟩, Nat.le_of_ble_eq_true rfl, Nat.le_of_ble_eq_true rfl⟩ dX11_result_107 ?_
    exact hR 110 _ _ _ dX11_result_110 rfl h
  have h := h.2 c10
  refine zb_tabOut X 111 dX11_result_1 (by have e0 := zne_int c1; have e1 := zne_int c2; have e2 := zne_int c3; have e3 := zne_int c4; have e4 := zne_int c5; have e5 := zne_int c6; have e6 := zne_int c7; have e7 := zne_int c8; have e8 := zne_int c9; have e9 := zne_int c10; rw [show (0 : Int32).toInt = 0 from by decide] at e0; rw [show (1 : Int32).toInt = 1 from by decide] at e1; rw [show (2 : Int32).toInt = 2 from by decide] at e2; rw [show (3 : Int32).toInt = 3 from by decide] at e3; rw [show (4 : Int32).toInt = 4 from by decide] at e4; rw [show (5 : Int32).toInt = 5 from by decide] at e5; rw [show (6 : Int32).toInt = 6 from by decide] at e6; rw [show (7 : Int32).toInt = 7 from by decide] at e7; rw [show (8 : Int32).toInt = 8 from by decide] at e8; rw [show (9 : Int32).toInt = 9 from by decide] at e9; omega) (by decide) ?_
  refine zb_iload_n X dX11_result_111 rfl 1 rfl ?_
  refine zb_iload_n X dX11_result_112 rfl 2 rfl ?_
  refine zb_mmax X kX11_result_4 kX11_result_5 kX11_result_2 kX11_result_6 ⟨⟨Nat.le_of_ble_eq_true rfl, Nat.le_of_ble_eq_true rfl⟩, Nat.le_of_ble_eq_true rfl, Nat.le_of_ble_eq_true rfl⟩ dX11_result_113 ?_
  exact hR 116 _ _ _ dX11_result_116 rfl h

abbrev rmX11_setter : Room := { frames := 0, cells := 0, slots := 0, locals := 0 }
theorem kX11_setter_0 : Cond.fieldLink RX11 137 RX11 "rows" "I" ∈ wsX11_setter := by decide +kernel
theorem kX11_setter_1 : zIn RX11 TX11 51 wsX11_setter := by decide +kernel
theorem kX11_setter_2 : Cond.fieldLink RX11 91 RX11 "sets" "[I" ∈ wsX11_setter := by decide +kernel
abbrev BX11_setter_2 (G : zG) (Z : zC)  (ad ln : Nat → Nat) (p1 : Int32) (x2 : Int32) (al : Nat → Nat → Int32) : Prop := zB G Z rmX11_setter 3 zTR ad ln 0 0 2 [(0, .ref (ad 0)), (1, .int p1), (2, .int x2)] [] al
def vcX11_setter_0 (G : zG)  (ad ln : Nat → Nat) (p1 : Int32) (K2 : Int32 → (Nat → Nat → Int32) → Prop) (post : Int32 → (Nat → Nat → Int32) → Prop) (al : Nat → Nat → Int32) : Prop :=
  K2 (0 : Int32) al
def vcX11_setter_2 (G : zG)  (ad ln : Nat → Nat) (p1 : Int32) (K2 : Int32 → (Nat → Nat → Int32) → Prop) (post : Int32 → (Nat → Nat → Int32) → Prop) (x2 : Int32) (al : Nat → Nat → Int32) : Prop :=
  ((al 0 9) ≤ x2 → post (-1 : Int32) al) ∧ (¬ (al 0 9) ≤ x2 → (vp_in x2 49 ∧ (¬ (al 2 x2.toNatClampNeg) = p1 → K2 (x2 + (1 : Int32)) al) ∧ ((al 2 x2.toNatClampNeg) = p1 → post x2 al)))
set_option maxRecDepth 20000 in
theorem tX11_setter_0 {G : zG} {Z : zC}  {ad ln : Nat → Nat} (X : zX G Z cX11_setter 3 RX11 wsX11_setter) (p1 : Int32) {K2 : Int32 → (Nat → Nat → Int32) → Prop} {post : Int32 → (Nat → Nat → Int32) → Prop} (hR : zRi G Z rmX11_setter 3 zTR ad ln cX11_setter .int post) (hK2 : ∀ x2 : Int32, ∀ al, K2 x2 al → zB G Z rmX11_setter 3 zTR ad ln 0 0 2 [(0, .ref (ad 0)), (1, .int p1), (2, .int x2)] [] al) (al : Nat → Nat → Int32) (h : vcX11_setter_0 G  ad ln p1 K2 post  al) : zB G Z rmX11_setter 3 zTR ad ln 0 0 0 [(0, .ref (ad 0)), (1, .int p1)] [] al := by
  unfold vcX11_setter_0 at h
  refine zb_iconst X (0 : Int32) dX11_setter_0 (by decide) ?_
  refine zb_istore_n X (lv' := [(2, .int (0 : Int32)), (0, .ref (ad 0)), (1, .int p1)]) dX11_setter_1 rfl (by decide) rfl ?_
  refine zb_sub [1, 2, 0] rfl ?_
  exact hK2 (0 : Int32) al h
set_option maxRecDepth 20000 in
theorem tX11_setter_2 {G : zG} {Z : zC}  {ad ln : Nat → Nat} (X : zX G Z cX11_setter 3 RX11 wsX11_setter) (p1 : Int32) {K2 : Int32 → (Nat → Nat → Int32) → Prop} {post : Int32 → (Nat → Nat → Int32) → Prop} (hR : zRi G Z rmX11_setter 3 zTR ad ln cX11_setter .int post) (hK2 : ∀ x2 : Int32, ∀ al, K2 x2 al → zB G Z rmX11_setter 3 zTR ad ln 0 0 2 [(0, .ref (ad 0)), (1, .int p1), (2, .int x2)] [] al) (x2 : Int32) (al : Nat → Nat → Int32) (h : vcX11_setter_2 G  ad ln p1 K2 post x2 al) : zB G Z rmX11_setter 3 zTR ad ln 0 0 2 [(0, .ref (ad 0)), (1, .int p1), (2, .int x2)] [] al := by
  unfold vcX11_setter_2 at h
  refine zb_iload_n X dX11_setter_2 rfl 2 rfl ?_
  refine zb_aload_n X dX11_setter_3 rfl 0 rfl ?_
  refine zb_getI X 0 (by decide) 11 [3, 4, 5, 6, 7, 8, 9, 10, 11, 0, 12, 0, 0, 0, 0, 0, 0, 0, 0, 0, 0, 0, 0, 13, 14, 15, 16, 17, 0, 18, 19, 20, 21, 0, 0, 0, 22, 23, 24, 25, 0, 0, 26, 27, 28, 29, 0, 0, 0, 30, 0] rfl (C := RX11) (Tt := TX11) (N := 51) rfl kX11_setter_1 9 (by decide) rfl kX11_setter_0 rfl dX11_setter_4 (al 0 9) rfl ?_
  refine zb_icmp_ge X 28 dX11_setter_7 (by decide) (fun c1 => ?_) (fun c1 => ?_)
  · have h := h.1 c1
    refine zb_iconst X (-1 : Int32) dX11_setter_28 (by decide) ?_
    exact hR 29 _ _ _ dX11_setter_29 rfl h
  · have h := h.2 c1
    refine zb_aload_n X dX11_setter_10 rfl 0 rfl ?_
    refine zb_getR X 0 (by decide) 11 [3, 4, 5, 6, 7, 8, 9, 10, 11, 0, 12, 0, 0, 0, 0, 0, 0, 0, 0, 0, 0, 0, 0, 13, 14, 15, 16, 17, 0, 18, 19, 20, 21, 0, 0, 0, 22, 23, 24, 25, 0, 0, 26, 27, 28, 29, 0, 0, 0, 30, 0] rfl (C := RX11) (Tt := TX11) (N := 51) rfl kX11_setter_1 1 (by decide) 2 rfl kX11_setter_2 rfl dX11_setter_11 ?_
    refine zb_iload_n X dX11_setter_14 rfl 2 rfl ?_
    obtain ⟨hz, h⟩ := h
    refine zb_iald X 2 (by decide) 1 49 0 0 rfl (Or.inl rfl) x2.toNatClampNeg rfl hz dX11_setter_15 (al 2 x2.toNatClampNeg) rfl ?_
    refine zb_iload_n X dX11_setter_16 rfl 1 rfl ?_
    refine zb_icmp_ne X 22 dX11_setter_17 (by decide) (fun c2 => ?_) (fun c2 => ?_)
    · have h := h.1 c2
      refine zb_iinc X (lv' := [(2, .int (x2 + (1 : Int32))), (0, .ref (ad 0)), (1, .int p1)]) (x2 + (1 : Int32)) dX11_setter_22 2 rfl rfl (by decide) rfl ?_
      refine zb_goto X 2 dX11_setter_25 (by decide) ?_
      refine zb_sub [1, 2, 0] rfl ?_
      exact hK2 (x2 + (1 : Int32)) al h
    · have h := h.2 c2
      refine zb_iload_n X dX11_setter_20 rfl 2 rfl ?_
      exact hR 21 _ _ _ dX11_setter_21 rfl h
theorem uX11_setter_0 {G : zG} {Z : zC}  {ad ln : Nat → Nat} (X : zX G Z cX11_setter 3 RX11 wsX11_setter) (p1 : Int32) {post : Int32 → (Nat → Nat → Int32) → Prop} (hR : zRi G Z rmX11_setter 3 zTR ad ln cX11_setter .int post) (al : Nat → Nat → Int32) (h : vcX11_setter_0 G  ad ln p1 (BX11_setter_2 G Z  ad ln p1) post  al) : zB G Z rmX11_setter 3 zTR ad ln 0 0 0 [(0, .ref (ad 0)), (1, .int p1)] [] al := tX11_setter_0 X p1 hR (fun _ _ h => h)  al h
theorem uX11_setter_2 {G : zG} {Z : zC}  {ad ln : Nat → Nat} (X : zX G Z cX11_setter 3 RX11 wsX11_setter) (p1 : Int32) {post : Int32 → (Nat → Nat → Int32) → Prop} (hR : zRi G Z rmX11_setter 3 zTR ad ln cX11_setter .int post) (x2 : Int32) (al : Nat → Nat → Int32) (h : vcX11_setter_2 G  ad ln p1 (BX11_setter_2 G Z  ad ln p1) post x2 al) : zB G Z rmX11_setter 3 zTR ad ln 0 0 2 [(0, .ref (ad 0)), (1, .int p1), (2, .int x2)] [] al := tX11_setter_2 X p1 hR (fun _ _ h => h) x2 al h

abbrev rmX11_beginRun : Room := { frames := 0, cells := 0, slots := 0, locals := 0 }
theorem kX11_beginRun_0 : Cond.fieldLink RX11 265 RX11 "arrays" "[[I" ∈ wsX11_beginRun := by decide +kernel
theorem kX11_beginRun_1 : zIn RX11 TX11 51 wsX11_beginRun := by decide +kernel
theorem kX11_beginRun_2 : Cond.fieldLink RX11 268 RX11 "registers" "[I" ∈ wsX11_beginRun := by decide +kernel
theorem kX11_beginRun_3 : Cond.fieldLink RX11 271 RX11 "begins" "[I" ∈ wsX11_beginRun := by decide +kernel
abbrev BX11_beginRun_65 (G : zG) (Z : zC)  (ad ln : Nat → Nat) (x1 : Int32) (al : Nat → Nat → Int32) : Prop := zB G Z rmX11_beginRun 2 zTR ad ln 0 0 65 [(0, .ref (ad 0)), (1, .int x1)] [] al
abbrev BX11_beginRun_2 (G : zG) (Z : zC)  (ad ln : Nat → Nat) (x1 : Int32) (al : Nat → Nat → Int32) : Prop := zB G Z rmX11_beginRun 2 zTR ad ln 0 0 2 [(0, .ref (ad 0)), (1, .int x1)] [] al
def vcX11_beginRun_0 (G : zG)  (ad ln : Nat → Nat) (K2 : Int32 → (Nat → Nat → Int32) → Prop) (K65 : Int32 → (Nat → Nat → Int32) → Prop) (post : (Nat → Nat → Int32) → Prop) (al : Nat → Nat → Int32) : Prop :=
  K2 (0 : Int32) al
def vcX11_beginRun_2 (G : zG)  (ad ln : Nat → Nat) (K2 : Int32 → (Nat → Nat → Int32) → Prop) (K65 : Int32 → (Nat → Nat → Int32) → Prop) (post : (Nat → Nat → Int32) → Prop) (x1 : Int32) (al : Nat → Nat → Int32) : Prop :=
  ((1024 : Int32) ≤ x1 → K65 (0 : Int32) al) ∧ (¬ (1024 : Int32) ≤ x1 → (vp_in (0 : Int32) 4 ∧ vp_in x1 1024 ∧ vp_in (1 : Int32) 4 ∧ vp_in x1 1024 ∧ vp_in (2 : Int32) 4 ∧ vp_in x1 1024 ∧ vp_in (3 : Int32) 4 ∧ vp_in x1 1024 ∧ K2 (x1 + (1 : Int32)) (up2 (up2 (up2 (up2 al 77 x1.toNatClampNeg ((x1 * (7 : Int32)) ^^^ (21 : Int32))) 78 x1.toNatClampNeg ((x1 * x1) + (3 : Int32))) 79 x1.toNatClampNeg ((5 : Int32) - x1)) 80 x1.toNatClampNeg (0 : Int32))))
def vcX11_beginRun_65 (G : zG)  (ad ln : Nat → Nat) (K2 : Int32 → (Nat → Nat → Int32) → Prop) (K65 : Int32 → (Nat → Nat → Int32) → Prop) (post : (Nat → Nat → Int32) → Prop) (x1 : Int32) (al : Nat → Nat → Int32) : Prop :=
  ((32 : Int32) ≤ x1 → post al) ∧ (¬ (32 : Int32) ≤ x1 → (vp_in x1 32 ∧ vp_in x1 32 ∧ K65 (x1 + (1 : Int32)) (up2 al 25 x1.toNatClampNeg (al 24 x1.toNatClampNeg))))
set_option maxRecDepth 20000 in
theorem tX11_beginRun_0 {G : zG} {Z : zC}  {ad ln : Nat → Nat} (X : zX G Z cX11_beginRun 2 RX11 wsX11_beginRun) {K2 : Int32 → (Nat → Nat → Int32) → Prop} {K65 : Int32 → (Nat → Nat → Int32) → Prop} {post : (Nat → Nat → Int32) → Prop} (hR : zRv G Z rmX11_beginRun 2 zTR ad ln cX11_beginRun post) (hK2 : ∀ x1 : Int32, ∀ al, K2 x1 al → zB G Z rmX11_beginRun 2 zTR ad ln 0 0 2 [(0, .ref (ad 0)), (1, .int x1)] [] al) (hK65 : ∀ x1 : Int32, ∀ al, K65 x1 al → zB G Z rmX11_beginRun 2 zTR ad ln 0 0 65 [(0, .ref (ad 0)), (1, .int x1)] [] al) (al : Nat → Nat → Int32) (h : vcX11_beginRun_0 G  ad ln K2 K65 post  al) : zB G Z rmX11_beginRun 2 zTR ad ln 0 0 0 [(0, .ref (ad 0))] [] al := by
  unfold vcX11_beginRun_0 at h
  refine zb_iconst X (0 : Int32) dX11_beginRun_0 (by decide) ?_
  refine zb_istore_n X (lv' := [(1, .int (0 : Int32)), (0, .ref (ad 0))]) dX11_beginRun_1 rfl (by decide) rfl ?_
  refine zb_sub [1, 0] rfl ?_
  exact hK2 (0 : Int32) al h
set_option maxRecDepth 20000 in
theorem tX11_beginRun_2 {G : zG} {Z : zC}  {ad ln : Nat → Nat} (X : zX G Z cX11_beginRun 2 RX11 wsX11_beginRun) {K2 : Int32 → (Nat → Nat → Int32) → Prop} {K65 : Int32 → (Nat → Nat → Int32) → Prop} {post : (Nat → Nat → Int32) → Prop} (hR : zRv G Z rmX11_beginRun 2 zTR ad ln cX11_beginRun post) (hK2 : ∀ x1 : Int32, ∀ al, K2 x1 al → zB G Z rmX11_beginRun 2 zTR ad ln 0 0 2 [(0, .ref (ad 0)), (1, .int x1)] [] al) (hK65 : ∀ x1 : Int32, ∀ al, K65 x1 al → zB G Z rmX11_beginRun 2 zTR ad ln 0 0 65 [(0, .ref (ad 0)), (1, .int x1)] [] al) (x1 : Int32) (al : Nat → Nat → Int32) (h : vcX11_beginRun_2 G  ad ln K2 K65 post x1 al) : zB G Z rmX11_beginRun 2 zTR ad ln 0 0 2 [(0, .ref (ad 0)), (1, .int x1)] [] al := by
  unfold vcX11_beginRun_2 at h
  refine zb_iload_n X dX11_beginRun_2 rfl 1 rfl ?_
  refine zb_sipush X (1024 : Int32) dX11_beginRun_3 (by decide) ?_
  refine zb_icmp_ge X 63 dX11_beginRun_6 (by decide) (fun c1 => ?_) (fun c1 => ?_)
  · have h := h.1 c1
    refine zb_iconst X (0 : Int32) dX11_beginRun_63 (by decide) ?_
    refine zb_istore_n X (lv' := [(1, .int (0 : Int32)), (0, .ref (ad 0))]) dX11_beginRun_64 rfl (by decide) rfl ?_
    refine zb_sub [1, 0] rfl ?_
    exact hK65 (0 : Int32) al h
  · have h := h.2 c1
    refine zb_aload_n X dX11_beginRun_9 rfl 0 rfl ?_
    refine zb_getR X 0 (by decide) 11 [3, 4, 5, 6, 7, 8, 9, 10, 11, 0, 12, 0, 0, 0, 0, 0, 0, 0, 0, 0, 0, 0, 0, 13, 14, 15, 16, 17, 0, 18, 19, 20, 21, 0, 0, 0, 22, 23, 24, 25, 0, 0, 26, 27, 28, 29, 0, 0, 0, 30, 0] rfl (C := RX11) (Tt := TX11) (N := 51) rfl kX11_beginRun_1 44 (by decide) 26 rfl kX11_beginRun_0 rfl dX11_beginRun_10 ?_
    refine zb_iconst X (0 : Int32) dX11_beginRun_13 (by decide) ?_
    obtain ⟨hz, h⟩ := h
    refine zb_gald X 26 (by decide) 4 77 rfl 0 rfl hz dX11_beginRun_14 ?_
    refine zb_iload_n X dX11_beginRun_15 rfl 1 rfl ?_
    refine zb_iload_n X dX11_beginRun_16 rfl 1 rfl ?_
    refine zb_bipush X (7 : Int32) dX11_beginRun_17 (by decide) ?_
    refine zb_imul X dX11_beginRun_19 ?_
    refine zb_bipush X (21 : Int32) dX11_beginRun_20 (by decide) ?_
    refine zb_ixor X dX11_beginRun_22 ?_
    obtain ⟨hz, h⟩ := h
    refine zb_iast X 77 (by decide) 1 1024 0 0 rfl (Or.inl rfl) x1.toNatClampNeg rfl hz dX11_beginRun_23 ?_
    refine zb_aload_n X dX11_beginRun_24 rfl 0 rfl ?_
    refine zb_getR X 0 (by decide) 11 [3, 4, 5, 6, 7, 8, 9, 10, 11, 0, 12, 0, 0, 0, 0, 0, 0, 0, 0, 0, 0, 0, 0, 13, 14, 15, 16, 17, 0, 18, 19, 20, 21, 0, 0, 0, 22, 23, 24, 25, 0, 0, 26, 27, 28, 29, 0, 0, 0, 30, 0] rfl (C := RX11) (Tt := TX11) (N := 51) rfl kX11_beginRun_1 44 (by decide) 26 rfl kX11_beginRun_0 rfl dX11_beginRun_25 ?_
    refine zb_iconst X (1 : Int32) dX11_beginRun_28 (by decide) ?_
    obtain ⟨hz, h⟩ := h
    refine zb_gald X 26 (by decide) 4 77 rfl 1 rfl hz dX11_beginRun_29 ?_
    refine zb_iload_n X dX11_beginRun_30 rfl 1 rfl ?_
    refine zb_iload_n X dX11_beginRun_31 rfl 1 rfl ?_
    refine zb_iload_n X dX11_beginRun_32 rfl 1 rfl ?_
    refine zb_imul X dX11_beginRun_33 ?_
    refine zb_iconst X (3 : Int32) dX11_beginRun_34 (by decide) ?_
    refine zb_iadd X dX11_beginRun_35 ?_
    obtain ⟨hz, h⟩ := h
    refine zb_iast X 78 (by decide) 1 1024 0 0 rfl (Or.inl rfl) x1.toNatClampNeg rfl hz dX11_beginRun_36 ?_
    refine zb_aload_n X dX11_beginRun_37 rfl 0 rfl ?_
    refine zb_getR X 0 (by decide) 11 [3, 4, 5, 6, 7, 8, 9, 10, 11, 0, 12, 0, 0, 0, 0, 0, 0, 0, 0, 0, 0, 0, 0, 13, 14, 15, 16, 17, 0, 18, 19, 20, 21, 0, 0, 0, 22, 23, 24, 25, 0, 0, 26, 27, 28, 29, 0, 0, 0, 30, 0] rfl (C := RX11) (Tt := TX11) (N := 51) rfl kX11_beginRun_1 44 (by decide) 26 rfl kX11_beginRun_0 rfl dX11_beginRun_38 ?_
    refine zb_iconst X (2 : Int32) dX11_beginRun_41 (by decide) ?_
    obtain ⟨hz, h⟩ := h
    refine zb_gald X 26 (by decide) 4 77 rfl 2 rfl hz dX11_beginRun_42 ?_
    refine zb_iload_n X dX11_beginRun_43 rfl 1 rfl ?_
    refine zb_iconst X (5 : Int32) dX11_beginRun_44 (by decide) ?_
    refine zb_iload_n X dX11_beginRun_45 rfl 1 rfl ?_
    refine zb_isub X dX11_beginRun_46 ?_
    obtain ⟨hz, h⟩ := h
    refine zb_iast X 79 (by decide) 1 1024 0 0 rfl (Or.inl rfl) x1.toNatClampNeg rfl hz dX11_beginRun_47 ?_
    refine zb_aload_n X dX11_beginRun_48 rfl 0 rfl ?_
    refine zb_getR X 0 (by decide) 11 [3, 4, 5, 6, 7, 8, 9, 10, 11, 0, 12, 0, 0, 0, 0, 0, 0, 0, 0, 0, 0, 0, 0, 13, 14, 15, 16, 17, 0, 18, 19, 20, 21, 0, 0, 0, 22, 23, 24, 25, 0, 0, 26, 27, 28, 29, 0, 0, 0, 30, 0] rfl (C := RX11) (Tt := TX11) (N := 51) rfl kX11_beginRun_1 44 (by decide) 26 rfl kX11_beginRun_0 rfl dX11_beginRun_49 ?_
    refine zb_iconst X (3 : Int32) dX11_beginRun_52 (by decide) ?_
    obtain ⟨hz, h⟩ := h
    refine zb_gald X 26 (by decide) 4 77 rfl 3 rfl hz dX11_beginRun_53 ?_
    refine zb_iload_n X dX11_beginRun_54 rfl 1 rfl ?_
    refine zb_iconst X (0 : Int32) dX11_beginRun_55 (by decide) ?_
    obtain ⟨hz, h⟩ := h
    refine zb_iast X 80 (by decide) 1 1024 0 0 rfl (Or.inl rfl) x1.toNatClampNeg rfl hz dX11_beginRun_56 ?_
    refine zb_iinc X (lv' := [(1, .int (x1 + (1 : Int32))), (0, .ref (ad 0))]) (x1 + (1 : Int32)) dX11_beginRun_57 1 rfl rfl (by decide) rfl ?_
    refine zb_goto X 2 dX11_beginRun_60 (by decide) ?_
    refine zb_sub [1, 0] rfl ?_
    exact hK2 (x1 + (1 : Int32)) (up2 (up2 (up2 (up2 al 77 x1.toNatClampNeg ((x1 * (7 : Int32)) ^^^ (21 : Int32))) 78 x1.toNatClampNeg ((x1 * x1) + (3 : Int32))) 79 x1.toNatClampNeg ((5 : Int32) - x1)) 80 x1.toNatClampNeg (0 : Int32)) h
set_option maxRecDepth 20000 in
theorem tX11_beginRun_65 {G : zG} {Z : zC}  {ad ln : Nat → Nat} (X : zX G Z cX11_beginRun 2 RX11 wsX11_beginRun) {K2 : Int32 → (Nat → Nat → Int32) → Prop} {K65 : Int32 → (Nat → Nat → Int32) → Prop} {post : (Nat → Nat → Int32) → Prop} (hR : zRv G Z rmX11_beginRun 2 zTR ad ln cX11_beginRun post) (hK2 : ∀ x1 : Int32, ∀ al, K2 x1 al → zB G Z rmX11_beginRun 2 zTR ad ln 0 0 2 [(0, .ref (ad 0)), (1, .int x1)] [] al) (hK65 : ∀ x1 : Int32, ∀ al, K65 x1 al → zB G Z rmX11_beginRun 2 zTR ad ln 0 0 65 [(0, .ref (ad 0)), (1, .int x1)] [] al) (x1 : Int32) (al : Nat → Nat → Int32) (h : vcX11_beginRun_65 G  ad ln K2 K65 post x1 al) : zB G Z rmX11_beginRun 2 zTR ad ln 0 0 65 [(0, .ref (ad 0)), (1, .int x1)] [] al := by
  unfold vcX11_beginRun_65 at h
  refine zb_iload_n X dX11_beginRun_65 rfl 1 rfl ?_
  refine zb_bipush X (32 : Int32) dX11_beginRun_66 (by decide) ?_
  refine zb_icmp_ge X 89 dX11_beginRun_68 (by decide) (fun c1 => ?_) (fun c1 => ?_)
  · have h := h.1 c1
    exact hR 89 _ _ dX11_beginRun_89 h
  · have h := h.2 c1
    refine zb_aload_n X dX11_beginRun_71 rfl 0 rfl ?_
    refine zb_getR X 0 (by decide) 11 [3, 4, 5, 6, 7, 8, 9, 10, 11, 0, 12, 0, 0, 0, 0, 0, 0, 0, 0, 0, 0, 0, 0, 13, 14, 15, 16, 17, 0, 18, 19, 20, 21, 0, 0, 0, 22, 23, 24, 25, 0, 0, 26, 27, 28, 29, 0, 0, 0, 30, 0] rfl (C := RX11) (Tt := TX11) (N := 51) rfl kX11_beginRun_1 43 (by decide) 25 rfl kX11_beginRun_2 rfl dX11_beginRun_72 ?_
    refine zb_iload_n X dX11_beginRun_75 rfl 1 rfl ?_
    refine zb_aload_n X dX11_beginRun_76 rfl 0 rfl ?_
    refine zb_getR X 0 (by decide) 11 [3, 4, 5, 6, 7, 8, 9, 10, 11, 0, 12, 0, 0, 0, 0, 0, 0, 0, 0, 0, 0, 0, 0, 13, 14, 15, 16, 17, 0, 18, 19, 20, 21, 0, 0, 0, 22, 23, 24, 25, 0, 0, 26, 27, 28, 29, 0, 0, 0, 30, 0] rfl (C := RX11) (Tt := TX11) (N := 51) rfl kX11_beginRun_1 42 (by decide) 24 rfl kX11_beginRun_3 rfl dX11_beginRun_77 ?_
    refine zb_iload_n X dX11_beginRun_80 rfl 1 rfl ?_
    obtain ⟨hz, h⟩ := h
    refine zb_iald X 24 (by decide) 1 32 0 0 rfl (Or.inl rfl) x1.toNatClampNeg rfl hz dX11_beginRun_81 (al 24 x1.toNatClampNeg) rfl ?_
    obtain ⟨hz, h⟩ := h
    refine zb_iast X 25 (by decide) 1 32 0 0 rfl (Or.inl rfl) x1.toNatClampNeg rfl hz dX11_beginRun_82 ?_
    refine zb_iinc X (lv' := [(1, .int (x1 + (1 : Int32))), (0, .ref (ad 0))]) (x1 + (1 : Int32)) dX11_beginRun_83 1 rfl rfl (by decide) rfl ?_
    refine zb_goto X 65 dX11_beginRun_86 (by decide) ?_
    refine zb_sub [1, 0] rfl ?_
    exact hK65 (x1 + (1 : Int32)) (up2 al 25 x1.toNatClampNeg (al 24 x1.toNatClampNeg)) h
theorem uX11_beginRun_0 {G : zG} {Z : zC}  {ad ln : Nat → Nat} (X : zX G Z cX11_beginRun 2 RX11 wsX11_beginRun) {post : (Nat → Nat → Int32) → Prop} (hR : zRv G Z rmX11_beginRun 2 zTR ad ln cX11_beginRun post) (al : Nat → Nat → Int32) (h : vcX11_beginRun_0 G  ad ln (BX11_beginRun_2 G Z  ad ln) (BX11_beginRun_65 G Z  ad ln) post  al) : zB G Z rmX11_beginRun 2 zTR ad ln 0 0 0 [(0, .ref (ad 0))] [] al := tX11_beginRun_0 X hR (fun _ _ h => h) (fun _ _ h => h)  al h
theorem uX11_beginRun_2 {G : zG} {Z : zC}  {ad ln : Nat → Nat} (X : zX G Z cX11_beginRun 2 RX11 wsX11_beginRun) {post : (Nat → Nat → Int32) → Prop} (hR : zRv G Z rmX11_beginRun 2 zTR ad ln cX11_beginRun post) (x1 : Int32) (al : Nat → Nat → Int32) (h : vcX11_beginRun_2 G  ad ln (BX11_beginRun_2 G Z  ad ln) (BX11_beginRun_65 G Z  ad ln) post x1 al) : zB G Z rmX11_beginRun 2 zTR ad ln 0 0 2 [(0, .ref (ad 0)), (1, .int x1)] [] al := tX11_beginRun_2 X hR (fun _ _ h => h) (fun _ _ h => h) x1 al h
theorem uX11_beginRun_65 {G : zG} {Z : zC}  {ad ln : Nat → Nat} (X : zX G Z cX11_beginRun 2 RX11 wsX11_beginRun) {post : (Nat → Nat → Int32) → Prop} (hR : zRv G Z rmX11_beginRun 2 zTR ad ln cX11_beginRun post) (x1 : Int32) (al : Nat → Nat → Int32) (h : vcX11_beginRun_65 G  ad ln (BX11_beginRun_2 G Z  ad ln) (BX11_beginRun_65 G Z  ad ln) post x1 al) : zB G Z rmX11_beginRun 2 zTR ad ln 0 0 65 [(0, .ref (ad 0)), (1, .int x1)] [] al := tX11_beginRun_65 X hR (fun _ _ h => h) (fun _ _ h => h) x1 al h

abbrev rmX11_place : Room := { frames := 0, cells := 0, slots := 0, locals := 0 }
theorem kX11_place_0 : Cond.fieldLink RX11 85 RX11 "factor" "[I" ∈ wsX11_place := by decide +kernel
theorem kX11_place_1 : zIn RX11 TX11 51 wsX11_place := by decide +kernel
theorem kX11_place_2 : Cond.fieldLink RX11 88 RX11 "plus" "[I" ∈ wsX11_place := by decide +kernel
def vcX11_place_0 (G : zG)  (ad ln : Nat → Nat) (p1 : Int32) (p2 : Int32)  (post : Int32 → (Nat → Nat → Int32) → Prop) (al : Nat → Nat → Int32) : Prop :=
  (vp_in p1 49 ∧ vp_in p1 49 ∧ post (((512 : Int32) + ((al 4 p1.toNatClampNeg) * p2)) + (al 5 p1.toNatClampNeg)) al)
set_option maxRecDepth 20000 in
theorem tX11_place_0 {G : zG} {Z : zC}  {ad ln : Nat → Nat} (X : zX G Z cX11_place 3 RX11 wsX11_place) (p1 : Int32) (p2 : Int32)  {post : Int32 → (Nat → Nat → Int32) → Prop} (hR : zRi G Z rmX11_place 3 zTR ad ln cX11_place .int post)  (al : Nat → Nat → Int32) (h : vcX11_place_0 G  ad ln p1 p2  post  al) : zB G Z rmX11_place 3 zTR ad ln 0 0 0 [(0, .ref (ad 0)), (1, .int p1), (2, .int p2)] [] al := by
  unfold vcX11_place_0 at h
  refine zb_sipush X (512 : Int32) dX11_place_0 (by decide) ?_
  refine zb_aload_n X dX11_place_3 rfl 0 rfl ?_
  refine zb_getR X 0 (by decide) 11 [3, 4, 5, 6, 7, 8, 9, 10, 11, 0, 12, 0, 0, 0, 0, 0, 0, 0, 0, 0, 0, 0, 0, 13, 14, 15, 16, 17, 0, 18, 19, 20, 21, 0, 0, 0, 22, 23, 24, 25, 0, 0, 26, 27, 28, 29, 0, 0, 0, 30, 0] rfl (C := RX11) (Tt := TX11) (N := 51) rfl kX11_place_1 3 (by decide) 4 rfl kX11_place_0 rfl dX11_place_4 ?_
  refine zb_iload_n X dX11_place_7 rfl 1 rfl ?_
  obtain ⟨hz, h⟩ := h
  refine zb_iald X 4 (by decide) 1 49 0 0 rfl (Or.inl rfl) p1.toNatClampNeg rfl hz dX11_place_8 (al 4 p1.toNatClampNeg) rfl ?_
  refine zb_iload_n X dX11_place_9 rfl 2 rfl ?_
  refine zb_imul X dX11_place_10 ?_
  refine zb_iadd X dX11_place_11 ?_
  refine zb_aload_n X dX11_place_12 rfl 0 rfl ?_
  refine zb_getR X 0 (by decide) 11 [3, 4, 5, 6, 7, 8, 9, 10, 11, 0, 12, 0, 0, 0, 0, 0, 0, 0, 0, 0, 0, 0, 0, 13, 14, 15, 16, 17, 0, 18, 19, 20, 21, 0, 0, 0, 22, 23, 24, 25, 0, 0, 26, 27, 28, 29, 0, 0, 0, 30, 0] rfl (C := RX11) (Tt := TX11) (N := 51) rfl kX11_place_1 4 (by decide) 5 rfl kX11_place_2 rfl dX11_place_13 ?_
  refine zb_iload_n X dX11_place_16 rfl 1 rfl ?_
  obtain ⟨hz, h⟩ := h
  refine zb_iald X 5 (by decide) 1 49 0 0 rfl (Or.inl rfl) p1.toNatClampNeg rfl hz dX11_place_17 (al 5 p1.toNatClampNeg) rfl ?_
  refine zb_iadd X dX11_place_18 ?_
  exact hR 19 _ _ _ dX11_place_19 rfl h

abbrev rmX11_written : Room := { frames := 0, cells := 0, slots := 0, locals := 0 }
theorem kX11_written_0 : Cond.fieldLink RX11 268 RX11 "registers" "[I" ∈ wsX11_written := by decide +kernel
theorem kX11_written_1 : zIn RX11 TX11 51 wsX11_written := by decide +kernel
def vcX11_written_24 (G : zG)  (ad ln : Nat → Nat) (p1 : Int32) (p2 : Int32) (p3 : Int32)  (post : Int32 → (Nat → Nat → Int32) → Prop) (s0 : Int32) (al : Nat → Nat → Int32) : Prop :=
  post s0 al
def vcX11_written_0 (G : zG)  (ad ln : Nat → Nat) (p1 : Int32) (p2 : Int32) (p3 : Int32)  (post : Int32 → (Nat → Nat → Int32) → Prop) (al : Nat → Nat → Int32) : Prop :=
  (¬ p1 = (1 : Int32) → (¬ p1 = (2 : Int32) → vcX11_written_24 G  ad ln p1 p2 p3  post p2 al) ∧ (p1 = (2 : Int32) → vcX11_written_24 G  ad ln p1 p2 p3  post p3 al)) ∧ (p1 = (1 : Int32) → (vp_in p2 32 ∧ vcX11_written_24 G  ad ln p1 p2 p3  post (al 25 p2.toNatClampNeg) al))
set_option maxRecDepth 20000 in
theorem tX11_written_24 {G : zG} {Z : zC}  {ad ln : Nat → Nat} (X : zX G Z cX11_written 4 RX11 wsX11_written) (p1 : Int32) (p2 : Int32) (p3 : Int32)  {post : Int32 → (Nat → Nat → Int32) → Prop} (hR : zRi G Z rmX11_written 4 zTR ad ln cX11_written .int post)  (s0 : Int32) (al : Nat → Nat → Int32) (h : vcX11_written_24 G  ad ln p1 p2 p3  post s0 al) : zB G Z rmX11_written 4 zTR ad ln 0 0 24 [] [.int s0] al := by
  unfold vcX11_written_24 at h
  exact hR 24 _ _ _ dX11_written_24 rfl h
set_option maxRecDepth 20000 in
theorem tX11_written_0 {G : zG} {Z : zC}  {ad ln : Nat → Nat} (X : zX G Z cX11_written 4 RX11 wsX11_written) (p1 : Int32) (p2 : Int32) (p3 : Int32)  {post : Int32 → (Nat → Nat → Int32) → Prop} (hR : zRi G Z rmX11_written 4 zTR ad ln cX11_written .int post)  (al : Nat → Nat → Int32) (h : vcX11_written_0 G  ad ln p1 p2 p3  post  al) : zB G Z rmX11_written 4 zTR ad ln 0 0 0 [(0, .ref (ad 0)), (1, .int p1), (2, .int p2), (3, .int p3)] [] al := by
  unfold vcX11_written_0 at h
  refine zb_iload_n X dX11_written_0 rfl 1 rfl ?_
  refine zb_iconst X (1 : Int32) dX11_written_1 (by decide) ?_
  refine zb_icmp_ne X 14 dX11_written_2 (by decide) (fun c1 => ?_) (fun c1 => ?_)
  · have h := h.1 c1
    refine zb_iload_n X dX11_written_14 rfl 1 rfl ?_
    refine zb_iconst X (2 : Int32) dX11_written_15 (by decide) ?_
    refine zb_icmp_ne X 23 dX11_written_16 (by decide) (fun c2 => ?_) (fun c2 => ?_)
    · have h := h.1 c2
      refine zb_iload_n X dX11_written_23 rfl 2 rfl ?_
      refine zb_sub [] rfl ?_
      exact tX11_written_24 X p1 p2 p3 hR  p2 al h
    · have h := h.2 c2
      refine zb_iload_n X dX11_written_19 rfl 3 rfl ?_
      refine zb_goto X 24 dX11_written_20 (by decide) ?_
      refine zb_sub [] rfl ?_
      exact tX11_written_24 X p1 p2 p3 hR  p3 al h
  · have h := h.2 c1
    refine zb_aload_n X dX11_written_5 rfl 0 rfl ?_
    refine zb_getR X 0 (by decide) 11 [3, 4, 5, 6, 7, 8, 9, 10, 11, 0, 12, 0, 0, 0, 0, 0, 0, 0, 0, 0, 0, 0, 0, 13, 14, 15, 16, 17, 0, 18, 19, 20, 21, 0, 0, 0, 22, 23, 24, 25, 0, 0, 26, 27, 28, 29, 0, 0, 0, 30, 0] rfl (C := RX11) (Tt := TX11) (N := 51) rfl kX11_written_1 43 (by decide) 25 rfl kX11_written_0 rfl dX11_written_6 ?_
    refine zb_iload_n X dX11_written_9 rfl 2 rfl ?_
    obtain ⟨hz, h⟩ := h
    refine zb_iald X 25 (by decide) 1 32 0 0 rfl (Or.inl rfl) p2.toNatClampNeg rfl hz dX11_written_10 (al 25 p2.toNatClampNeg) rfl ?_
    refine zb_goto X 24 dX11_written_11 (by decide) ?_
    refine zb_sub [] rfl ?_
    exact tX11_written_24 X p1 p2 p3 hR  (al 25 p2.toNatClampNeg) al h

abbrev rmX11_runWritten : Room := { frames := 2, cells := 0, slots := 0, locals := 43 }
theorem kX11_runWritten_0 : Cond.fieldLink RX11 157 RX11 "rounds" "I" ∈ wsX11_runWritten := by decide +kernel
theorem kX11_runWritten_1 : zIn RX11 TX11 51 wsX11_runWritten := by decide +kernel
theorem kX11_runWritten_2 : Cond.fieldLink RX11 137 RX11 "rows" "I" ∈ wsX11_runWritten := by decide +kernel
theorem kX11_runWritten_3 : Cond.fieldLink RX11 1 RX11 "op" "[I" ∈ wsX11_runWritten := by decide +kernel
theorem kX11_runWritten_4 : Cond.fieldLink RX11 268 RX11 "registers" "[I" ∈ wsX11_runWritten := by decide +kernel
theorem kX11_runWritten_5 : Cond.fieldLink RX11 91 RX11 "sets" "[I" ∈ wsX11_runWritten := by decide +kernel
theorem kX11_runWritten_6 : Cond.fieldLink RX11 7 RX11 "kindA" "[I" ∈ wsX11_runWritten := by decide +kernel
theorem kX11_runWritten_7 : Cond.fieldLink RX11 10 RX11 "a" "[I" ∈ wsX11_runWritten := by decide +kernel
theorem kX11_runWritten_8 : Cond.fieldLink RX11 13 RX11 "kindB" "[I" ∈ wsX11_runWritten := by decide +kernel
theorem kX11_runWritten_9 : Cond.fieldLink RX11 16 RX11 "b" "[I" ∈ wsX11_runWritten := by decide +kernel
theorem kX11_runWritten_10 : Cond.fieldLink RX11 265 RX11 "arrays" "[[I" ∈ wsX11_runWritten := by decide +kernel
theorem kX11_runWritten_11 : Cond.fieldLink RX11 79 RX11 "array" "[I" ∈ wsX11_runWritten := by decide +kernel
abbrev BX11_runWritten_16 (G : zG) (Z : zC)  (ad ln : Nat → Nat) (x1 x2 : Int32) (al : Nat → Nat → Int32) : Prop := zB G Z rmX11_runWritten 3 zTR ad ln 0 0 16 [(0, .ref (ad 0)), (1, .int x1), (2, .int x2)] [] al
abbrev BX11_runWritten_6 (G : zG) (Z : zC)  (ad ln : Nat → Nat) (x1 : Int32) (al : Nat → Nat → Int32) : Prop := zB G Z rmX11_runWritten 3 zTR ad ln 0 0 6 [(0, .ref (ad 0)), (1, .int x1)] [] al
def vcX11_runWritten_0 (G : zG)  (ad ln : Nat → Nat) (K6 : Int32 → (Nat → Nat → Int32) → Prop) (K16 : Int32 → Int32 → (Nat → Nat → Int32) → Prop) (post : Int32 → (Nat → Nat → Int32) → Prop) (al : Nat → Nat → Int32) : Prop :=
  zMv G yX11_beginRun wsX11_beginRun rmX11_beginRun zTR ad ln [.ref (ad 0)] al (fun a1 => K6 (0 : Int32) a1)
def vcX11_runWritten_6 (G : zG)  (ad ln : Nat → Nat) (K6 : Int32 → (Nat → Nat → Int32) → Prop) (K16 : Int32 → Int32 → (Nat → Nat → Int32) → Prop) (post : Int32 → (Nat → Nat → Int32) → Prop) (x1 : Int32) (al : Nat → Nat → Int32) : Prop :=
  ((al 0 18) ≤ x1 → post ((al 0 9) * (al 0 18)) al) ∧ (¬ (al 0 18) ≤ x1 → K16 x1 (0 : Int32) al)
def vcX11_runWritten_170 (G : zG)  (ad ln : Nat → Nat) (K6 : Int32 → (Nat → Nat → Int32) → Prop) (K16 : Int32 → Int32 → (Nat → Nat → Int32) → Prop) (post : Int32 → (Nat → Nat → Int32) → Prop) (x1 x2 : Int32) (al : Nat → Nat → Int32) : Prop :=
  K16 x1 (x2 + (1 : Int32)) al
def vcX11_runWritten_16 (G : zG)  (ad ln : Nat → Nat) (K6 : Int32 → (Nat → Nat → Int32) → Prop) (K16 : Int32 → Int32 → (Nat → Nat → Int32) → Prop) (post : Int32 → (Nat → Nat → Int32) → Prop) (x1 x2 : Int32) (al : Nat → Nat → Int32) : Prop :=
  ((al 0 9) ≤ x2 → K6 (x1 + (1 : Int32)) al) ∧ (¬ (al 0 9) ≤ x2 → (vp_in x2 49 ∧ (¬ (al 1 x2.toNatClampNeg) = (11 : Int32) → (vp_in x2 49 ∧ (¬ (al 1 x2.toNatClampNeg) = (12 : Int32) → (vp_in x2 49 ∧ vp_in x2 49 ∧ vp_in x2 49 ∧ vp_in x2 49 ∧ zMi G yX11_written wsX11_written rmX11_written zTR ad ln [.ref (ad 0), .int (al 6 x2.toNatClampNeg), .int (al 8 x2.toNatClampNeg), .int x1] al (fun q4 a4 => (vp_in x2 49 ∧ vp_in x2 49 ∧ zMi G yX11_written wsX11_written rmX11_written zTR ad ln [.ref (ad 0), .int (a4 7 x2.toNatClampNeg), .int (a4 9 x2.toNatClampNeg), .int x1] a4 (fun q5 a5 => zMi G yX11_result wsX11_result rmX11_result zTR ad ln [.int (al 1 x2.toNatClampNeg), .int q4, .int q5] a5 (fun q6 a6 => (vp_in (al 2 x2.toNatClampNeg) 32 ∧ vcX11_runWritten_170 G  ad ln K6 K16 post x1 x2 (up2 a6 25 ((al 2 x2.toNatClampNeg).toNatClampNeg) q6)))))))) ∧ ((al 1 x2.toNatClampNeg) = (12 : Int32) → (vp_in x2 49 ∧ vp_in (al 3 x2.toNatClampNeg) 4 ∧ zMi G yX11_place wsX11_place rmX11_place zTR ad ln [.ref (ad 0), .int x2, .int x1] al (fun q5 a5 => (vp_in x2 49 ∧ vp_in x2 49 ∧ zMi G yX11_written wsX11_written rmX11_written zTR ad ln [.ref (ad 0), .int (a5 6 x2.toNatClampNeg), .int (a5 8 x2.toNatClampNeg), .int x1] a5 (fun q6 a6 => (vp_in q5 1024 ∧ vcX11_runWritten_170 G  ad ln K6 K16 post x1 x2 (up2 a6 (77 + (al 3 x2.toNatClampNeg).toNatClampNeg) q5.toNatClampNeg q6))))))))) ∧ ((al 1 x2.toNatClampNeg) = (11 : Int32) → (vp_in x2 49 ∧ vp_in x2 49 ∧ vp_in (al 3 x2.toNatClampNeg) 4 ∧ zMi G yX11_place wsX11_place rmX11_place zTR ad ln [.ref (ad 0), .int x2, .int x1] al (fun q4 a4 => (vp_in q4 1024 ∧ vp_in (al 2 x2.toNatClampNeg) 32 ∧ vcX11_runWritten_170 G  ad ln K6 K16 post x1 x2 (up2 a4 25 ((al 2 x2.toNatClampNeg).toNatClampNeg) (a4 (77 + (al 3 x2.toNatClampNeg).toNatClampNeg) q4.toNatClampNeg))))))))
set_option maxRecDepth 20000 in
theorem tX11_runWritten_0 {G : zG} {Z : zC}  {ad ln : Nat → Nat} (X : zX G Z cX11_runWritten 3 RX11 wsX11_runWritten) {K6 : Int32 → (Nat → Nat → Int32) → Prop} {K16 : Int32 → Int32 → (Nat → Nat → Int32) → Prop} {post : Int32 → (Nat → Nat → Int32) → Prop} (hR : zRi G Z rmX11_runWritten 3 zTR ad ln cX11_runWritten .int post) (hK6 : ∀ x1 : Int32, ∀ al, K6 x1 al → zB G Z rmX11_runWritten 3 zTR ad ln 0 0 6 [(0, .ref (ad 0)), (1, .int x1)] [] al) (hK16 : ∀ x1 x2 : Int32, ∀ al, K16 x1 x2 al → zB G Z rmX11_runWritten 3 zTR ad ln 0 0 16 [(0, .ref (ad 0)), (1, .int x1), (2, .int x2)] [] al) (al : Nat → Nat → Int32) (h : vcX11_runWritten_0 G  ad ln K6 K16 post  al) : zB G Z rmX11_runWritten 3 zTR ad ln 0 0 0 [(0, .ref (ad 0))] [] al := by
  unfold vcX11_runWritten_0 at h
  refine zb_aload_n X dX11_runWritten_0 rfl 0 rfl ?_
  refine zb_callVv (n := 0) X 0 (by decide) 11 [3, 4, 5, 6, 7, 8, 9, 10, 11, 0, 12, 0, 0, 0, 0, 0, 0, 0, 0, 0, 0, 0, 0, 13, 14, 15, 16, 17, 0, 18, 19, 20, 21, 0, 0, 0, 22, 23, 24, 25, 0, 0, 26, 27, 28, 29, 0, 0, 0, 30, 0] rfl (C := RX11) (Tt := TX11) (N := 51) rfl h gX11_runWritten_X11_beginRun rfl (by decide +kernel) (by decide) rfl rfl (Nat.le_of_ble_eq_true rfl) dX11_runWritten_1 (kc' := 0) (ks' := 0) rfl rfl (fun a1 h => ?_)
  refine zb_iconst X (0 : Int32) dX11_runWritten_4 (by decide) ?_
  refine zb_istore_n X (lv' := [(1, .int (0 : Int32)), (0, .ref (ad 0))]) dX11_runWritten_5 rfl (by decide) rfl ?_
  refine zb_sub [1, 0] rfl ?_
  exact hK6 (0 : Int32) a1 h
set_option maxRecDepth 20000 in
theorem tX11_runWritten_6 {G : zG} {Z : zC}  {ad ln : Nat → Nat} (X : zX G Z cX11_runWritten 3 RX11 wsX11_runWritten) {K6 : Int32 → (Nat → Nat → Int32) → Prop} {K16 : Int32 → Int32 → (Nat → Nat → Int32) → Prop} {post : Int32 → (Nat → Nat → Int32) → Prop} (hR : zRi G Z rmX11_runWritten 3 zTR ad ln cX11_runWritten .int post) (hK6 : ∀ x1 : Int32, ∀ al, K6 x1 al → zB G Z rmX11_runWritten 3 zTR ad ln 0 0 6 [(0, .ref (ad 0)), (1, .int x1)] [] al) (hK16 : ∀ x1 x2 : Int32, ∀ al, K16 x1 x2 al → zB G Z rmX11_runWritten 3 zTR ad ln 0 0 16 [(0, .ref (ad 0)), (1, .int x1), (2, .int x2)] [] al) (x1 : Int32) (al : Nat → Nat → Int32) (h : vcX11_runWritten_6 G  ad ln K6 K16 post x1 al) : zB G Z rmX11_runWritten 3 zTR ad ln 0 0 6 [(0, .ref (ad 0)), (1, .int x1)] [] al := by
  unfold vcX11_runWritten_6 at h
  refine zb_iload_n X dX11_runWritten_6 rfl 1 rfl ?_
  refine zb_aload_n X dX11_runWritten_7 rfl 0 rfl ?_
  refine zb_getI X 0 (by decide) 11 [3, 4, 5, 6, 7, 8, 9, 10, 11, 0, 12, 0, 0, 0, 0, 0, 0, 0, 0, 0, 0, 0, 0, 13, 14, 15, 16, 17, 0, 18, 19, 20, 21, 0, 0, 0, 22, 23, 24, 25, 0, 0, 26, 27, 28, 29, 0, 0, 0, 30, 0] rfl (C := RX11) (Tt := TX11) (N := 51) rfl kX11_runWritten_1 18 (by decide) rfl kX11_runWritten_0 rfl dX11_runWritten_8 (al 0 18) rfl ?_
  refine zb_icmp_ge X 182 dX11_runWritten_11 (by decide) (fun c1 => ?_) (fun c1 => ?_)
  · have h := h.1 c1
    refine zb_aload_n X dX11_runWritten_182 rfl 0 rfl ?_
    refine zb_getI X 0 (by decide) 11 [3, 4, 5, 6, 7, 8, 9, 10, 11, 0, 12, 0, 0, 0, 0, 0, 0, 0, 0, 0, 0, 0, 0, 13, 14, 15, 16, 17, 0, 18, 19, 20, 21, 0, 0, 0, 22, 23, 24, 25, 0, 0, 26, 27, 28, 29, 0, 0, 0, 30, 0] rfl (C := RX11) (Tt := TX11) (N := 51) rfl kX11_runWritten_1 9 (by decide) rfl kX11_runWritten_2 rfl dX11_runWritten_183 (al 0 9) rfl ?_
    refine zb_aload_n X dX11_runWritten_186 rfl 0 rfl ?_
    refine zb_getI X 0 (by decide) 11 [3, 4, 5, 6, 7, 8, 9, 10, 11, 0, 12, 0, 0, 0, 0, 0, 0, 0, 0, 0, 0, 0, 0, 13, 14, 15, 16, 17, 0, 18, 19, 20, 21, 0, 0, 0, 22, 23, 24, 25, 0, 0, 26, 27, 28, 29, 0, 0, 0, 30, 0] rfl (C := RX11) (Tt := TX11) (N := 51) rfl kX11_runWritten_1 18 (by decide) rfl kX11_runWritten_0 rfl dX11_runWritten_187 (al 0 18) rfl ?_
    refine zb_imul X dX11_runWritten_190 ?_
    exact hR 191 _ _ _ dX11_runWritten_191 rfl h
  · have h := h.2 c1
    refine zb_iconst X (0 : Int32) dX11_runWritten_14 (by decide) ?_
    refine zb_istore_n X (lv' := [(2, .int (0 : Int32)), (0, .ref (ad 0)), (1, .int x1)]) dX11_runWritten_15 rfl (by decide) rfl ?_
    refine zb_sub [1, 2, 0] rfl ?_
    exact hK16 x1 (0 : Int32) al h
set_option maxRecDepth 20000 in
theorem tX11_runWritten_170 {G : zG} {Z : zC}  {ad ln : Nat → Nat} (X : zX G Z cX11_runWritten 3 RX11 wsX11_runWritten) {K6 : Int32 → (Nat → Nat → Int32) → Prop} {K16 : Int32 → Int32 → (Nat → Nat → Int32) → Prop} {post : Int32 → (Nat → Nat → Int32) → Prop} (hR : zRi G Z rmX11_runWritten 3 zTR ad ln cX11_runWritten .int post) (hK6 : ∀ x1 : Int32, ∀ al, K6 x1 al → zB G Z rmX11_runWritten 3 zTR ad ln 0 0 6 [(0, .ref (ad 0)), (1, .int x1)] [] al) (hK16 : ∀ x1 x2 : Int32, ∀ al, K16 x1 x2 al → zB G Z rmX11_runWritten 3 zTR ad ln 0 0 16 [(0, .ref (ad 0)), (1, .int x1), (2, .int x2)] [] al) (x1 x2 : Int32) (al : Nat → Nat → Int32) (h : vcX11_runWritten_170 G  ad ln K6 K16 post x1 x2 al) : zB G Z rmX11_runWritten 3 zTR ad ln 0 0 170 [(0, .ref (ad 0)), (1, .int x1), (2, .int x2)] [] al := by
  unfold vcX11_runWritten_170 at h
  refine zb_iinc X (lv' := [(2, .int (x2 + (1 : Int32))), (0, .ref (ad 0)), (1, .int x1)]) (x2 + (1 : Int32)) dX11_runWritten_170 2 rfl rfl (by decide) rfl ?_
  refine zb_goto X 16 dX11_runWritten_173 (by decide) ?_
  refine zb_sub [1, 2, 0] rfl ?_
  exact hK16 x1 (x2 + (1 : Int32)) al h
set_option maxRecDepth 20000 in
theorem tX11_runWritten_16 {G : zG} {Z : zC}  {ad ln : Nat → Nat} (X : zX G Z cX11_runWritten 3 RX11 wsX11_runWritten) {K6 : Int32 → (Nat → Nat → Int32) → Prop} {K16 : Int32 → Int32 → (Nat → Nat → Int32) → Prop} {post : Int32 → (Nat → Nat → Int32) → Prop} (hR : zRi G Z rmX11_runWritten 3 zTR ad ln cX11_runWritten .int post) (hK6 : ∀ x1 : Int32, ∀ al, K6 x1 al → zB G Z rmX11_runWritten 3 zTR ad ln 0 0 6 [(0, .ref (ad 0)), (1, .int x1)] [] al) (hK16 : ∀ x1 x2 : Int32, ∀ al, K16 x1 x2 al → zB G Z rmX11_runWritten 3 zTR ad ln 0 0 16 [(0, .ref (ad 0)), (1, .int x1), (2, .int x2)] [] al) (x1 x2 : Int32) (al : Nat → Nat → Int32) (h : vcX11_runWritten_16 G  ad ln K6 K16 post x1 x2 al) : zB G Z rmX11_runWritten 3 zTR ad ln 0 0 16 [(0, .ref (ad 0)), (1, .int x1), (2, .int x2)] [] al := by
  unfold vcX11_runWritten_16 at h
  refine zb_iload_n X dX11_runWritten_16 rfl 2 rfl ?_
  refine zb_aload_n X dX11_runWritten_17 rfl 0 rfl ?_
  refine zb_getI X 0 (by decide) 11 [3, 4, 5, 6, 7, 8, 9, 10, 11, 0, 12, 0, 0, 0, 0, 0, 0, 0, 0, 0, 0, 0, 0, 13, 14, 15, 16, 17, 0, 18, 19, 20, 21, 0, 0, 0, 22, 23, 24, 25, 0, 0, 26, 27, 28, 29, 0, 0, 0, 30, 0] rfl (C := RX11) (Tt := TX11) (N := 51) rfl kX11_runWritten_1 9 (by decide) rfl kX11_runWritten_2 rfl dX11_runWritten_18 (al 0 9) rfl ?_
  refine zb_icmp_ge X 176 dX11_runWritten_21 (by decide) (fun c1 => ?_) (fun c1 => ?_)
  · have h := h.1 c1
    refine zb_iinc X (lv' := [(1, .int (x1 + (1 : Int32))), (0, .ref (ad 0)), (2, .int x2)]) (x1 + (1 : Int32)) dX11_runWritten_176 1 rfl rfl (by decide) rfl ?_
    refine zb_goto X 6 dX11_runWritten_179 (by decide) ?_
    refine zb_sub [1, 0] rfl ?_
    exact hK6 (x1 + (1 : Int32)) al h
  · have h := h.2 c1
    refine zb_aload_n X dX11_runWritten_24 rfl 0 rfl ?_
    refine zb_getR X 0 (by decide) 11 [3, 4, 5, 6, 7, 8, 9, 10, 11, 0, 12, 0, 0, 0, 0, 0, 0, 0, 0, 0, 0, 0, 0, 13, 14, 15, 16, 17, 0, 18, 19, 20, 21, 0, 0, 0, 22, 23, 24, 25, 0, 0, 26, 27, 28, 29, 0, 0, 0, 30, 0] rfl (C := RX11) (Tt := TX11) (N := 51) rfl kX11_runWritten_1 0 (by decide) 1 rfl kX11_runWritten_3 rfl dX11_runWritten_25 ?_
    refine zb_iload_n X dX11_runWritten_28 rfl 2 rfl ?_
    obtain ⟨hz, h⟩ := h
    refine zb_iald X 1 (by decide) 1 49 0 0 rfl (Or.inl rfl) x2.toNatClampNeg rfl hz dX11_runWritten_29 (al 1 x2.toNatClampNeg) rfl ?_
    refine zb_bipush X (11 : Int32) dX11_runWritten_30 (by decide) ?_
    refine zb_icmp_ne X 67 dX11_runWritten_32 (by decide) (fun c2 => ?_) (fun c2 => ?_)
    · have h := h.1 c2
      refine zb_aload_n X dX11_runWritten_67 rfl 0 rfl ?_
      refine zb_getR X 0 (by decide) 11 [3, 4, 5, 6, 7, 8, 9, 10, 11, 0, 12, 0, 0, 0, 0, 0, 0, 0, 0, 0, 0, 0, 0, 13, 14, 15, 16, 17, 0, 18, 19, 20, 21, 0, 0, 0, 22, 23, 24, 25, 0, 0, 26, 27, 28, 29, 0, 0, 0, 30, 0] rfl (C := RX11) (Tt := TX11) (N := 51) rfl kX11_runWritten_1 0 (by decide) 1 rfl kX11_runWritten_3 rfl dX11_runWritten_68 ?_
      refine zb_iload_n X dX11_runWritten_71 rfl 2 rfl ?_
      obtain ⟨hz, h⟩ := h
      refine zb_iald X 1 (by decide) 1 49 0 0 rfl (Or.inl rfl) x2.toNatClampNeg rfl hz dX11_runWritten_72 (al 1 x2.toNatClampNeg) rfl ?_
      refine zb_bipush X (12 : Int32) dX11_runWritten_73 (by decide) ?_
      refine zb_icmp_ne X 116 dX11_runWritten_75 (by decide) (fun c3 => ?_) (fun c3 => ?_)
      · have h := h.1 c3
        refine zb_aload_n X dX11_runWritten_116 rfl 0 rfl ?_
        refine zb_getR X 0 (by decide) 11 [3, 4, 5, 6, 7, 8, 9, 10, 11, 0, 12, 0, 0, 0, 0, 0, 0, 0, 0, 0, 0, 0, 0, 13, 14, 15, 16, 17, 0, 18, 19, 20, 21, 0, 0, 0, 22, 23, 24, 25, 0, 0, 26, 27, 28, 29, 0, 0, 0, 30, 0] rfl (C := RX11) (Tt := TX11) (N := 51) rfl kX11_runWritten_1 43 (by decide) 25 rfl kX11_runWritten_4 rfl dX11_runWritten_117 ?_
        refine zb_aload_n X dX11_runWritten_120 rfl 0 rfl ?_
        refine zb_getR X 0 (by decide) 11 [3, 4, 5, 6, 7, 8, 9, 10, 11, 0, 12, 0, 0, 0, 0, 0, 0, 0, 0, 0, 0, 0, 0, 13, 14, 15, 16, 17, 0, 18, 19, 20, 21, 0, 0, 0, 22, 23, 24, 25, 0, 0, 26, 27, 28, 29, 0, 0, 0, 30, 0] rfl (C := RX11) (Tt := TX11) (N := 51) rfl kX11_runWritten_1 1 (by decide) 2 rfl kX11_runWritten_5 rfl dX11_runWritten_121 ?_
        refine zb_iload_n X dX11_runWritten_124 rfl 2 rfl ?_
        obtain ⟨hz, h⟩ := h
        refine zb_iald X 2 (by decide) 1 49 0 0 rfl (Or.inl rfl) x2.toNatClampNeg rfl hz dX11_runWritten_125 (al 2 x2.toNatClampNeg) rfl ?_
        refine zb_aload_n X dX11_runWritten_126 rfl 0 rfl ?_
        refine zb_getR X 0 (by decide) 11 [3, 4, 5, 6, 7, 8, 9, 10, 11, 0, 12, 0, 0, 0, 0, 0, 0, 0, 0, 0, 0, 0, 0, 13, 14, 15, 16, 17, 0, 18, 19, 20, 21, 0, 0, 0, 22, 23, 24, 25, 0, 0, 26, 27, 28, 29, 0, 0, 0, 30, 0] rfl (C := RX11) (Tt := TX11) (N := 51) rfl kX11_runWritten_1 0 (by decide) 1 rfl kX11_runWritten_3 rfl dX11_runWritten_127 ?_
        refine zb_iload_n X dX11_runWritten_130 rfl 2 rfl ?_
        obtain ⟨hz, h⟩ := h
        refine zb_iald X 1 (by decide) 1 49 0 0 rfl (Or.inl rfl) x2.toNatClampNeg rfl hz dX11_runWritten_131 (al 1 x2.toNatClampNeg) rfl ?_
        refine zb_aload_n X dX11_runWritten_132 rfl 0 rfl ?_
        refine zb_aload_n X dX11_runWritten_133 rfl 0 rfl ?_
        refine zb_getR X 0 (by decide) 11 [3, 4, 5, 6, 7, 8, 9, 10, 11, 0, 12, 0, 0, 0, 0, 0, 0, 0, 0, 0, 0, 0, 0, 13, 14, 15, 16, 17, 0, 18, 19, 20, 21, 0, 0, 0, 22, 23, 24, 25, 0, 0, 26, 27, 28, 29, 0, 0, 0, 30, 0] rfl (C := RX11) (Tt := TX11) (N := 51) rfl kX11_runWritten_1 5 (by decide) 6 rfl kX11_runWritten_6 rfl dX11_runWritten_134 ?_
        refine zb_iload_n X dX11_runWritten_137 rfl 2 rfl ?_
        obtain ⟨hz, h⟩ := h
        refine zb_iald X 6 (by decide) 1 49 0 0 rfl (Or.inl rfl) x2.toNatClampNeg rfl hz dX11_runWritten_138 (al 6 x2.toNatClampNeg) rfl ?_
        refine zb_aload_n X dX11_runWritten_139 rfl 0 rfl ?_
        refine zb_getR X 0 (by decide) 11 [3, 4, 5, 6, 7, 8, 9, 10, 11, 0, 12, 0, 0, 0, 0, 0, 0, 0, 0, 0, 0, 0, 0, 13, 14, 15, 16, 17, 0, 18, 19, 20, 21, 0, 0, 0, 22, 23, 24, 25, 0, 0, 26, 27, 28, 29, 0, 0, 0, 30, 0] rfl (C := RX11) (Tt := TX11) (N := 51) rfl kX11_runWritten_1 7 (by decide) 8 rfl kX11_runWritten_7 rfl dX11_runWritten_140 ?_
        refine zb_iload_n X dX11_runWritten_143 rfl 2 rfl ?_
        obtain ⟨hz, h⟩ := h
        refine zb_iald X 8 (by decide) 1 49 0 0 rfl (Or.inl rfl) x2.toNatClampNeg rfl hz dX11_runWritten_144 (al 8 x2.toNatClampNeg) rfl ?_
        refine zb_iload_n X dX11_runWritten_145 rfl 1 rfl ?_
        refine zb_callVi (n := 3) X 0 (by decide) 11 [3, 4, 5, 6, 7, 8, 9, 10, 11, 0, 12, 0, 0, 0, 0, 0, 0, 0, 0, 0, 0, 0, 0, 13, 14, 15, 16, 17, 0, 18, 19, 20, 21, 0, 0, 0, 22, 23, 24, 25, 0, 0, 26, 27, 28, 29, 0, 0, 0, 30, 0] rfl (C := RX11) (Tt := TX11) (N := 51) rfl h gX11_runWritten_X11_written rfl (by decide +kernel) (by decide) rfl rfl (Nat.le_of_ble_eq_true rfl) dX11_runWritten_146 (kc' := 0) (ks' := 0) rfl rfl (fun q4 a4 h => ?_)
        refine zb_aload_n X dX11_runWritten_149 rfl 0 rfl ?_
        refine zb_aload_n X dX11_runWritten_150 rfl 0 rfl ?_
        refine zb_getR X 0 (by decide) 11 [3, 4, 5, 6, 7, 8, 9, 10, 11, 0, 12, 0, 0, 0, 0, 0, 0, 0, 0, 0, 0, 0, 0, 13, 14, 15, 16, 17, 0, 18, 19, 20, 21, 0, 0, 0, 22, 23, 24, 25, 0, 0, 26, 27, 28, 29, 0, 0, 0, 30, 0] rfl (C := RX11) (Tt := TX11) (N := 51) rfl kX11_runWritten_1 6 (by decide) 7 rfl kX11_runWritten_8 rfl dX11_runWritten_151 ?_
        refine zb_iload_n X dX11_runWritten_154 rfl 2 rfl ?_
        obtain ⟨hz, h⟩ := h
        refine zb_iald X 7 (by decide) 1 49 0 0 rfl (Or.inl rfl) x2.toNatClampNeg rfl hz dX11_runWritten_155 (a4 7 x2.toNatClampNeg) rfl ?_
        refine zb_aload_n X dX11_runWritten_156 rfl 0 rfl ?_
        refine zb_getR X 0 (by decide) 11 [3, 4, 5, 6, 7, 8, 9, 10, 11, 0, 12, 0, 0, 0, 0, 0, 0, 0, 0, 0, 0, 0, 0, 13, 14, 15, 16, 17, 0, 18, 19, 20, 21, 0, 0, 0, 22, 23, 24, 25, 0, 0, 26, 27, 28, 29, 0, 0, 0, 30, 0] rfl (C := RX11) (Tt := TX11) (N := 51) rfl kX11_runWritten_1 8 (by decide) 9 rfl kX11_runWritten_9 rfl dX11_runWritten_157 ?_
        refine zb_iload_n X dX11_runWritten_160 rfl 2 rfl ?_
        obtain ⟨hz, h⟩ := h
        refine zb_iald X 9 (by decide) 1 49 0 0 rfl (Or.inl rfl) x2.toNatClampNeg rfl hz dX11_runWritten_161 (a4 9 x2.toNatClampNeg) rfl ?_
        refine zb_iload_n X dX11_runWritten_162 rfl 1 rfl ?_
        refine zb_callVi (n := 3) X 0 (by decide) 11 [3, 4, 5, 6, 7, 8, 9, 10, 11, 0, 12, 0, 0, 0, 0, 0, 0, 0, 0, 0, 0, 0, 0, 13, 14, 15, 16, 17, 0, 18, 19, 20, 21, 0, 0, 0, 22, 23, 24, 25, 0, 0, 26, 27, 28, 29, 0, 0, 0, 30, 0] rfl (C := RX11) (Tt := TX11) (N := 51) rfl h gX11_runWritten_X11_written rfl (by decide +kernel) (by decide) rfl rfl (Nat.le_of_ble_eq_true rfl) dX11_runWritten_163 (kc' := 0) (ks' := 0) rfl rfl (fun q5 a5 h => ?_)
        refine zb_callSi (n := 3) X h gX11_runWritten_X11_result rfl (by decide +kernel) (by decide) rfl rfl (Nat.le_of_ble_eq_true rfl) dX11_runWritten_166 (kc' := 0) (ks' := 0) rfl rfl (fun q6 a6 h => ?_)
        obtain ⟨hz, h⟩ := h
        refine zb_iast X 25 (by decide) 1 32 0 0 rfl (Or.inl rfl) ((al 2 x2.toNatClampNeg).toNatClampNeg) rfl hz dX11_runWritten_169 ?_
        refine zb_sub [0, 1, 2] rfl ?_
        exact tX11_runWritten_170 X hR hK6 hK16 x1 x2 (up2 a6 25 ((al 2 x2.toNatClampNeg).toNatClampNeg) q6) h
      · have h := h.2 c3
        refine zb_aload_n X dX11_runWritten_78 rfl 0 rfl ?_
        refine zb_getR X 0 (by decide) 11 [3, 4, 5, 6, 7, 8, 9, 10, 11, 0, 12, 0, 0, 0, 0, 0, 0, 0, 0, 0, 0, 0, 0, 13, 14, 15, 16, 17, 0, 18, 19, 20, 21, 0, 0, 0, 22, 23, 24, 25, 0, 0, 26, 27, 28, 29, 0, 0, 0, 30, 0] rfl (C := RX11) (Tt := TX11) (N := 51) rfl kX11_runWritten_1 44 (by decide) 26 rfl kX11_runWritten_10 rfl dX11_runWritten_79 ?_
        refine zb_aload_n X dX11_runWritten_82 rfl 0 rfl ?_
        refine zb_getR X 0 (by decide) 11 [3, 4, 5, 6, 7, 8, 9, 10, 11, 0, 12, 0, 0, 0, 0, 0, 0, 0, 0, 0, 0, 0, 0, 13, 14, 15, 16, 17, 0, 18, 19, 20, 21, 0, 0, 0, 22, 23, 24, 25, 0, 0, 26, 27, 28, 29, 0, 0, 0, 30, 0] rfl (C := RX11) (Tt := TX11) (N := 51) rfl kX11_runWritten_1 2 (by decide) 3 rfl kX11_runWritten_11 rfl dX11_runWritten_83 ?_
        refine zb_iload_n X dX11_runWritten_86 rfl 2 rfl ?_
        obtain ⟨hz, h⟩ := h
        refine zb_iald X 3 (by decide) 1 49 0 0 rfl (Or.inl rfl) x2.toNatClampNeg rfl hz dX11_runWritten_87 (al 3 x2.toNatClampNeg) rfl ?_
        obtain ⟨hq4, h⟩ := h
        refine zb_gald X 26 (by decide) 4 77 rfl ((al 3 x2.toNatClampNeg).toNatClampNeg) rfl hq4 dX11_runWritten_88 ?_
        refine zb_aload_n X dX11_runWritten_89 rfl 0 rfl ?_
        refine zb_iload_n X dX11_runWritten_90 rfl 2 rfl ?_
        refine zb_iload_n X dX11_runWritten_91 rfl 1 rfl ?_
        refine zb_callVi (n := 2) X 0 (by decide) 11 [3, 4, 5, 6, 7, 8, 9, 10, 11, 0, 12, 0, 0, 0, 0, 0, 0, 0, 0, 0, 0, 0, 0, 13, 14, 15, 16, 17, 0, 18, 19, 20, 21, 0, 0, 0, 22, 23, 24, 25, 0, 0, 26, 27, 28, 29, 0, 0, 0, 30, 0] rfl (C := RX11) (Tt := TX11) (N := 51) rfl h gX11_runWritten_X11_place rfl (by decide +kernel) (by decide) rfl rfl (Nat.le_of_ble_eq_true rfl) dX11_runWritten_92 (kc' := 0) (ks' := 0) rfl rfl (fun q5 a5 h => ?_)
        refine zb_aload_n X dX11_runWritten_95 rfl 0 rfl ?_
        refine zb_aload_n X dX11_runWritten_96 rfl 0 rfl ?_
        refine zb_getR X 0 (by decide) 11 [3, 4, 5, 6, 7, 8, 9, 10, 11, 0, 12, 0, 0, 0, 0, 0, 0, 0, 0, 0, 0, 0, 0, 13, 14, 15, 16, 17, 0, 18, 19, 20, 21, 0, 0, 0, 22, 23, 24, 25, 0, 0, 26, 27, 28, 29, 0, 0, 0, 30, 0] rfl (C := RX11) (Tt := TX11) (N := 51) rfl kX11_runWritten_1 5 (by decide) 6 rfl kX11_runWritten_6 rfl dX11_runWritten_97 ?_
        refine zb_iload_n X dX11_runWritten_100 rfl 2 rfl ?_
        obtain ⟨hz, h⟩ := h
        refine zb_iald X 6 (by decide) 1 49 0 0 rfl (Or.inl rfl) x2.toNatClampNeg rfl hz dX11_runWritten_101 (a5 6 x2.toNatClampNeg) rfl ?_
        refine zb_aload_n X dX11_runWritten_102 rfl 0 rfl ?_
        refine zb_getR X 0 (by decide) 11 [3, 4, 5, 6, 7, 8, 9, 10, 11, 0, 12, 0, 0, 0, 0, 0, 0, 0, 0, 0, 0, 0, 0, 13, 14, 15, 16, 17, 0, 18, 19, 20, 21, 0, 0, 0, 22, 23, 24, 25, 0, 0, 26, 27, 28, 29, 0, 0, 0, 30, 0] rfl (C := RX11) (Tt := TX11) (N := 51) rfl kX11_runWritten_1 7 (by decide) 8 rfl kX11_runWritten_7 rfl dX11_runWritten_103 ?_
        refine zb_iload_n X dX11_runWritten_106 rfl 2 rfl ?_
        obtain ⟨hz, h⟩ := h
        refine zb_iald X 8 (by decide) 1 49 0 0 rfl (Or.inl rfl) x2.toNatClampNeg rfl hz dX11_runWritten_107 (a5 8 x2.toNatClampNeg) rfl ?_
        refine zb_iload_n X dX11_runWritten_108 rfl 1 rfl ?_
        refine zb_callVi (n := 3) X 0 (by decide) 11 [3, 4, 5, 6, 7, 8, 9, 10, 11, 0, 12, 0, 0, 0, 0, 0, 0, 0, 0, 0, 0, 0, 0, 13, 14, 15, 16, 17, 0, 18, 19, 20, 21, 0, 0, 0, 22, 23, 24, 25, 0, 0, 26, 27, 28, 29, 0, 0, 0, 30, 0] rfl (C := RX11) (Tt := TX11) (N := 51) rfl h gX11_runWritten_X11_written rfl (by decide +kernel) (by decide) rfl rfl (Nat.le_of_ble_eq_true rfl) dX11_runWritten_109 (kc' := 0) (ks' := 0) rfl rfl (fun q6 a6 h => ?_)
        obtain ⟨hz, h⟩ := h
        refine zb_iast X (77 + (al 3 x2.toNatClampNeg).toNatClampNeg) (zgr_lt77 hq4) 1 1024 0 0 (zgr77 hq4) (Or.inl rfl) q5.toNatClampNeg rfl hz dX11_runWritten_112 ?_
        refine zb_goto X 170 dX11_runWritten_113 (by decide) ?_
        refine zb_sub [0, 1, 2] rfl ?_
        exact tX11_runWritten_170 X hR hK6 hK16 x1 x2 (up2 a6 (77 + (al 3 x2.toNatClampNeg).toNatClampNeg) q5.toNatClampNeg q6) h
    · have h := h.2 c2
      refine zb_aload_n X dX11_runWritten_35 rfl 0 rfl ?_
      refine zb_getR X 0 (by decide) 11 [3, 4, 5, 6, 7, 8, 9, 10, 11, 0, 12, 0, 0, 0, 0, 0, 0, 0, 0, 0, 0, 0, 0, 13, 14, 15, 16, 17, 0, 18, 19, 20, 21, 0, 0, 0, 22, 23, 24, 25, 0, 0, 26, 27, 28, 29, 0, 0, 0, 30, 0] rfl (C := RX11) (Tt := TX11) (N := 51) rfl kX11_runWritten_1 43 (by decide) 25 rfl kX11_runWritten_4 rfl dX11_runWritten_36 ?_
      refine zb_aload_n X dX11_runWritten_39 rfl 0 rfl ?_
      refine zb_getR X 0 (by decide) 11 [3, 4, 5, 6, 7, 8, 9, 10, 11, 0, 12, 0, 0, 0, 0, 0, 0, 0, 0, 0, 0, 0, 0, 13, 14, 15, 16, 17, 0, 18, 19, 20, 21, 0, 0, 0, 22, 23, 24, 25, 0, 0, 26, 27, 28, 29, 0, 0, 0, 30, 0] rfl (C := RX11) (Tt := TX11) (N := 51) rfl kX11_runWritten_1 1 (by decide) 2 rfl kX11_runWritten_5 rfl dX11_runWritten_40 ?_
      refine zb_iload_n X dX11_runWritten_43 rfl 2 rfl ?_
      obtain ⟨hz, h⟩ := h
      refine zb_iald X 2 (by decide) 1 49 0 0 rfl (Or.inl rfl) x2.toNatClampNeg rfl hz dX11_runWritten_44 (al 2 x2.toNatClampNeg) rfl ?_
      refine zb_aload_n X dX11_runWritten_45 rfl 0 rfl ?_
      refine zb_getR X 0 (by decide) 11 [3, 4, 5, 6, 7, 8, 9, 10, 11, 0, 12, 0, 0, 0, 0, 0, 0, 0, 0, 0, 0, 0, 0, 13, 14, 15, 16, 17, 0, 18, 19, 20, 21, 0, 0, 0, 22, 23, 24, 25, 0, 0, 26, 27, 28, 29, 0, 0, 0, 30, 0] rfl (C := RX11) (Tt := TX11) (N := 51) rfl kX11_runWritten_1 44 (by decide) 26 rfl kX11_runWritten_10 rfl dX11_runWritten_46 ?_
      refine zb_aload_n X dX11_runWritten_49 rfl 0 rfl ?_
      refine zb_getR X 0 (by decide) 11 [3, 4, 5, 6, 7, 8, 9, 10, 11, 0, 12, 0, 0, 0, 0, 0, 0, 0, 0, 0, 0, 0, 0, 13, 14, 15, 16, 17, 0, 18, 19, 20, 21, 0, 0, 0, 22, 23, 24, 25, 0, 0, 26, 27, 28, 29, 0, 0, 0, 30, 0] rfl (C := RX11) (Tt := TX11) (N := 51) rfl kX11_runWritten_1 2 (by decide) 3 rfl kX11_runWritten_11 rfl dX11_runWritten_50 ?_
      refine zb_iload_n X dX11_runWritten_53 rfl 2 rfl ?_
      obtain ⟨hz, h⟩ := h
      refine zb_iald X 3 (by decide) 1 49 0 0 rfl (Or.inl rfl) x2.toNatClampNeg rfl hz dX11_runWritten_54 (al 3 x2.toNatClampNeg) rfl ?_
      obtain ⟨hq3, h⟩ := h
      refine zb_gald X 26 (by decide) 4 77 rfl ((al 3 x2.toNatClampNeg).toNatClampNeg) rfl hq3 dX11_runWritten_55 ?_
      refine zb_aload_n X dX11_runWritten_56 rfl 0 rfl ?_
      refine zb_iload_n X dX11_runWritten_57 rfl 2 rfl ?_
      refine zb_iload_n X dX11_runWritten_58 rfl 1 rfl ?_
      refine zb_callVi (n := 2) X 0 (by decide) 11 [3, 4, 5, 6, 7, 8, 9, 10, 11, 0, 12, 0, 0, 0, 0, 0, 0, 0, 0, 0, 0, 0, 0, 13, 14, 15, 16, 17, 0, 18, 19, 20, 21, 0, 0, 0, 22, 23, 24, 25, 0, 0, 26, 27, 28, 29, 0, 0, 0, 30, 0] rfl (C := RX11) (Tt := TX11) (N := 51) rfl h gX11_runWritten_X11_place rfl (by decide +kernel) (by decide) rfl rfl (Nat.le_of_ble_eq_true rfl) dX11_runWritten_59 (kc' := 0) (ks' := 0) rfl rfl (fun q4 a4 h => ?_)
      obtain ⟨hz, h⟩ := h
      refine zb_iald X (77 + (al 3 x2.toNatClampNeg).toNatClampNeg) (zgr_lt77 hq3) 1 1024 0 0 (zgr77 hq3) (Or.inl rfl) q4.toNatClampNeg rfl hz dX11_runWritten_62 (a4 (77 + (al 3 x2.toNatClampNeg).toNatClampNeg) q4.toNatClampNeg) rfl ?_
      obtain ⟨hz, h⟩ := h
      refine zb_iast X 25 (by decide) 1 32 0 0 rfl (Or.inl rfl) ((al 2 x2.toNatClampNeg).toNatClampNeg) rfl hz dX11_runWritten_63 ?_
      refine zb_goto X 170 dX11_runWritten_64 (by decide) ?_
      refine zb_sub [0, 1, 2] rfl ?_
      exact tX11_runWritten_170 X hR hK6 hK16 x1 x2 (up2 a4 25 ((al 2 x2.toNatClampNeg).toNatClampNeg) (a4 (77 + (al 3 x2.toNatClampNeg).toNatClampNeg) q4.toNatClampNeg)) h
theorem uX11_runWritten_0 {G : zG} {Z : zC}  {ad ln : Nat → Nat} (X : zX G Z cX11_runWritten 3 RX11 wsX11_runWritten) {post : Int32 → (Nat → Nat → Int32) → Prop} (hR : zRi G Z rmX11_runWritten 3 zTR ad ln cX11_runWritten .int post) (al : Nat → Nat → Int32) (h : vcX11_runWritten_0 G  ad ln (BX11_runWritten_6 G Z  ad ln) (BX11_runWritten_16 G Z  ad ln) post  al) : zB G Z rmX11_runWritten 3 zTR ad ln 0 0 0 [(0, .ref (ad 0))] [] al := tX11_runWritten_0 X hR (fun _ _ h => h) (fun _ _ _ h => h)  al h
theorem uX11_runWritten_6 {G : zG} {Z : zC}  {ad ln : Nat → Nat} (X : zX G Z cX11_runWritten 3 RX11 wsX11_runWritten) {post : Int32 → (Nat → Nat → Int32) → Prop} (hR : zRi G Z rmX11_runWritten 3 zTR ad ln cX11_runWritten .int post) (x1 : Int32) (al : Nat → Nat → Int32) (h : vcX11_runWritten_6 G  ad ln (BX11_runWritten_6 G Z  ad ln) (BX11_runWritten_16 G Z  ad ln) post x1 al) : zB G Z rmX11_runWritten 3 zTR ad ln 0 0 6 [(0, .ref (ad 0)), (1, .int x1)] [] al := tX11_runWritten_6 X hR (fun _ _ h => h) (fun _ _ _ h => h) x1 al h
theorem uX11_runWritten_170 {G : zG} {Z : zC}  {ad ln : Nat → Nat} (X : zX G Z cX11_runWritten 3 RX11 wsX11_runWritten) {post : Int32 → (Nat → Nat → Int32) → Prop} (hR : zRi G Z rmX11_runWritten 3 zTR ad ln cX11_runWritten .int post) (x1 x2 : Int32) (al : Nat → Nat → Int32) (h : vcX11_runWritten_170 G  ad ln (BX11_runWritten_6 G Z  ad ln) (BX11_runWritten_16 G Z  ad ln) post x1 x2 al) : zB G Z rmX11_runWritten 3 zTR ad ln 0 0 170 [(0, .ref (ad 0)), (1, .int x1), (2, .int x2)] [] al := tX11_runWritten_170 X hR (fun _ _ h => h) (fun _ _ _ h => h) x1 x2 al h
theorem uX11_runWritten_16 {G : zG} {Z : zC}  {ad ln : Nat → Nat} (X : zX G Z cX11_runWritten 3 RX11 wsX11_runWritten) {post : Int32 → (Nat → Nat → Int32) → Prop} (hR : zRi G Z rmX11_runWritten 3 zTR ad ln cX11_runWritten .int post) (x1 x2 : Int32) (al : Nat → Nat → Int32) (h : vcX11_runWritten_16 G  ad ln (BX11_runWritten_6 G Z  ad ln) (BX11_runWritten_16 G Z  ad ln) post x1 x2 al) : zB G Z rmX11_runWritten 3 zTR ad ln 0 0 16 [(0, .ref (ad 0)), (1, .int x1), (2, .int x2)] [] al := tX11_runWritten_16 X hR (fun _ _ h => h) (fun _ _ _ h => h) x1 x2 al h

abbrev rmX11_spot : Room := { frames := 0, cells := 0, slots := 0, locals := 0 }
theorem kX11_spot_0 : Cond.fieldLink RX11 243 RX11 "offset" "[I" ∈ wsX11_spot := by decide +kernel
theorem kX11_spot_1 : zIn RX11 TX11 51 wsX11_spot := by decide +kernel
theorem kX11_spot_2 : Cond.fieldLink RX11 255 RX11 "around" "I" ∈ wsX11_spot := by decide +kernel
def vcX11_spot_28 (G : zG)  (ad ln : Nat → Nat) (p1 : Int32) (p2 : Int32)  (post : Int32 → (Nat → Nat → Int32) → Prop) (s0 : Int32) (al : Nat → Nat → Int32) : Prop :=
  post s0 al
def vcX11_spot_0 (G : zG)  (ad ln : Nat → Nat) (p1 : Int32) (p2 : Int32)  (post : Int32 → (Nat → Nat → Int32) → Prop) (al : Nat → Nat → Int32) : Prop :=
  (vp_in p1 48 ∧ ¬ (al 0 41) = 0 ∧ (0 ≤ (((al 22 p1.toNatClampNeg) - p2) - ((al 22 p1.toNatClampNeg) - p2) / (al 0 41) * (al 0 41)) → vcX11_spot_28 G  ad ln p1 p2  post (((al 22 p1.toNatClampNeg) - p2) - ((al 22 p1.toNatClampNeg) - p2) / (al 0 41) * (al 0 41)) al) ∧ (¬ 0 ≤ (((al 22 p1.toNatClampNeg) - p2) - ((al 22 p1.toNatClampNeg) - p2) / (al 0 41) * (al 0 41)) → vcX11_spot_28 G  ad ln p1 p2  post ((((al 22 p1.toNatClampNeg) - p2) - ((al 22 p1.toNatClampNeg) - p2) / (al 0 41) * (al 0 41)) + (al 0 41)) al))
set_option maxRecDepth 20000 in
theorem tX11_spot_28 {G : zG} {Z : zC}  {ad ln : Nat → Nat} (X : zX G Z cX11_spot 4 RX11 wsX11_spot) (p1 : Int32) (p2 : Int32)  {post : Int32 → (Nat → Nat → Int32) → Prop} (hR : zRi G Z rmX11_spot 4 zTR ad ln cX11_spot .int post)  (s0 : Int32) (al : Nat → Nat → Int32) (h : vcX11_spot_28 G  ad ln p1 p2  post s0 al) : zB G Z rmX11_spot 4 zTR ad ln 0 0 28 [] [.int s0] al := by
  unfold vcX11_spot_28 at h
  exact hR 28 _ _ _ dX11_spot_28 rfl h
set_option maxRecDepth 20000 in
theorem tX11_spot_0 {G : zG} {Z : zC}  {ad ln : Nat → Nat} (X : zX G Z cX11_spot 4 RX11 wsX11_spot) (p1 : Int32) (p2 : Int32)  {post : Int32 → (Nat → Nat → Int32) → Prop} (hR : zRi G Z rmX11_spot 4 zTR ad ln cX11_spot .int post)  (al : Nat → Nat → Int32) (h : vcX11_spot_0 G  ad ln p1 p2  post  al) : zB G Z rmX11_spot 4 zTR ad ln 0 0 0 [(0, .ref (ad 0)), (1, .int p1), (2, .int p2)] [] al := by
  unfold vcX11_spot_0 at h
  refine zb_aload_n X dX11_spot_0 rfl 0 rfl ?_
  refine zb_getR X 0 (by decide) 11 [3, 4, 5, 6, 7, 8, 9, 10, 11, 0, 12, 0, 0, 0, 0, 0, 0, 0, 0, 0, 0, 0, 0, 13, 14, 15, 16, 17, 0, 18, 19, 20, 21, 0, 0, 0, 22, 23, 24, 25, 0, 0, 26, 27, 28, 29, 0, 0, 0, 30, 0] rfl (C := RX11) (Tt := TX11) (N := 51) rfl kX11_spot_1 38 (by decide) 22 rfl kX11_spot_0 rfl dX11_spot_1 ?_
  refine zb_iload_n X dX11_spot_4 rfl 1 rfl ?_
  obtain ⟨hz, h⟩ := h
  refine zb_iald X 22 (by decide) 1 48 0 0 rfl (Or.inl rfl) p1.toNatClampNeg rfl hz dX11_spot_5 (al 22 p1.toNatClampNeg) rfl ?_
  refine zb_iload_n X dX11_spot_6 rfl 2 rfl ?_
  refine zb_isub X dX11_spot_7 ?_
  refine zb_aload_n X dX11_spot_8 rfl 0 rfl ?_
  refine zb_getI X 0 (by decide) 11 [3, 4, 5, 6, 7, 8, 9, 10, 11, 0, 12, 0, 0, 0, 0, 0, 0, 0, 0, 0, 0, 0, 0, 13, 14, 15, 16, 17, 0, 18, 19, 20, 21, 0, 0, 0, 22, 23, 24, 25, 0, 0, 26, 27, 28, 29, 0, 0, 0, 30, 0] rfl (C := RX11) (Tt := TX11) (N := 51) rfl kX11_spot_1 41 (by decide) rfl kX11_spot_2 rfl dX11_spot_9 (al 0 41) rfl ?_
  obtain ⟨hz, h⟩ := h
  refine zb_irem X dX11_spot_12 hz ?_
  refine zb_istore_n X (lv' := [(3, .int (((al 22 p1.toNatClampNeg) - p2) - ((al 22 p1.toNatClampNeg) - p2) / (al 0 41) * (al 0 41))), (0, .ref (ad 0)), (1, .int p1), (2, .int p2)]) dX11_spot_13 rfl (by decide) rfl ?_
  refine zb_iload_n X dX11_spot_14 rfl 0 rfl ?_
  refine zb_if_ge X 27 dX11_spot_15 (by decide) (fun c1 => ?_) (fun c1 => ?_)
  · have h := h.1 c1
    refine zb_iload_n X dX11_spot_27 rfl 0 rfl ?_
    refine zb_sub [] rfl ?_
    exact tX11_spot_28 X p1 p2 hR  (((al 22 p1.toNatClampNeg) - p2) - ((al 22 p1.toNatClampNeg) - p2) / (al 0 41) * (al 0 41)) al h
  · have h := h.2 c1
    refine zb_iload_n X dX11_spot_18 rfl 0 rfl ?_
    refine zb_aload_n X dX11_spot_19 rfl 1 rfl ?_
    refine zb_getI X 0 (by decide) 11 [3, 4, 5, 6, 7, 8, 9, 10, 11, 0, 12, 0, 0, 0, 0, 0, 0, 0, 0, 0, 0, 0, 0, 13, 14, 15, 16, 17, 0, 18, 19, 20, 21, 0, 0, 0, 22, 23, 24, 25, 0, 0, 26, 27, 28, 29, 0, 0, 0, 30, 0] rfl (C := RX11) (Tt := TX11) (N := 51) rfl kX11_spot_1 41 (by decide) rfl kX11_spot_2 rfl dX11_spot_20 (al 0 41) rfl ?_
    refine zb_iadd X dX11_spot_23 ?_
    refine zb_goto X 28 dX11_spot_24 (by decide) ?_
    refine zb_sub [] rfl ?_
    exact tX11_spot_28 X p1 p2 hR  ((((al 22 p1.toNatClampNeg) - p2) - ((al 22 p1.toNatClampNeg) - p2) / (al 0 41) * (al 0 41)) + (al 0 41)) al h

abbrev rmX11_laid : Room := { frames := 1, cells := 0, slots := 0, locals := 23 }
theorem kX11_laid_0 : Cond.fieldLink RX11 288 RX11 "rotating" "[I" ∈ wsX11_laid := by decide +kernel
theorem kX11_laid_1 : zIn RX11 TX11 51 wsX11_laid := by decide +kernel
theorem kX11_laid_2 : Cond.fieldLink RX11 271 RX11 "begins" "[I" ∈ wsX11_laid := by decide +kernel
def vcX11_laid_75 (G : zG)  (ad ln : Nat → Nat) (p1 : Int32) (p2 : Int32) (p3 : Int32) (p4 : Int32)  (post : Int32 → (Nat → Nat → Int32) → Prop) (s0 : Int32) (al : Nat → Nat → Int32) : Prop :=
  post s0 al
def vcX11_laid_16 (G : zG)  (ad ln : Nat → Nat) (p1 : Int32) (p2 : Int32) (p3 : Int32) (p4 : Int32)  (post : Int32 → (Nat → Nat → Int32) → Prop) (s0 : Int32) (al : Nat → Nat → Int32) : Prop :=
  post s0 al
def vcX11_laid_0 (G : zG)  (ad ln : Nat → Nat) (p1 : Int32) (p2 : Int32) (p3 : Int32) (p4 : Int32)  (post : Int32 → (Nat → Nat → Int32) → Prop) (al : Nat → Nat → Int32) : Prop :=
  (p1 = (1 : Int32) → zMi G yX11_setter wsX11_setter rmX11_setter zTR ad ln [.ref (ad 0), .int p2] al (fun q2 a2 => (0 ≤ q2 → zMi G yX11_useOver wsX11_useOver rmX11_useOver zTR ad ln [.ref (ad 0), .int q2, .int p3] a2 (fun q4 a4 => (0 ≤ (p4 - q4) → zMi G yX11_spot wsX11_spot rmX11_spot zTR ad ln [.ref (ad 0), .int q2, .int (p4 - q4)] a4 (fun q6 a6 => (vp_in q6 (ln 28) ∧ vcX11_laid_75 G  ad ln p1 p2 p3 p4  post (a6 28 q6.toNatClampNeg) a6))) ∧ (¬ 0 ≤ (p4 - q4) → (vp_in p2 32 ∧ vcX11_laid_75 G  ad ln p1 p2 p3 p4  post (a4 24 p2.toNatClampNeg) a4)))) ∧ (¬ 0 ≤ q2 → (vp_in p2 32 ∧ post (a2 24 p2.toNatClampNeg) a2)))) ∧ (¬ p1 = (1 : Int32) → (¬ p1 = (2 : Int32) → vcX11_laid_16 G  ad ln p1 p2 p3 p4  post p2 al) ∧ (p1 = (2 : Int32) → vcX11_laid_16 G  ad ln p1 p2 p3 p4  post p4 al))
set_option maxRecDepth 20000 in
theorem tX11_laid_75 {G : zG} {Z : zC}  {ad ln : Nat → Nat} (X : zX G Z cX11_laid 7 RX11 wsX11_laid) (p1 : Int32) (p2 : Int32) (p3 : Int32) (p4 : Int32)  {post : Int32 → (Nat → Nat → Int32) → Prop} (hR : zRi G Z rmX11_laid 7 zTR ad ln cX11_laid .int post)  (s0 : Int32) (al : Nat → Nat → Int32) (h : vcX11_laid_75 G  ad ln p1 p2 p3 p4  post s0 al) : zB G Z rmX11_laid 7 zTR ad ln 0 0 75 [] [.int s0] al := by
  unfold vcX11_laid_75 at h
  exact hR 75 _ _ _ dX11_laid_75 rfl h
set_option maxRecDepth 20000 in
theorem tX11_laid_16 {G : zG} {Z : zC}  {ad ln : Nat → Nat} (X : zX G Z cX11_laid 7 RX11 wsX11_laid) (p1 : Int32) (p2 : Int32) (p3 : Int32) (p4 : Int32)  {post : Int32 → (Nat → Nat → Int32) → Prop} (hR : zRi G Z rmX11_laid 7 zTR ad ln cX11_laid .int post)  (s0 : Int32) (al : Nat → Nat → Int32) (h : vcX11_laid_16 G  ad ln p1 p2 p3 p4  post s0 al) : zB G Z rmX11_laid 7 zTR ad ln 0 0 16 [] [.int s0] al := by
  unfold vcX11_laid_16 at h
  exact hR 16 _ _ _ dX11_laid_16 rfl h
set_option maxRecDepth 20000 in
theorem tX11_laid_0 {G : zG} {Z : zC}  {ad ln : Nat → Nat} (X : zX G Z cX11_laid 7 RX11 wsX11_laid) (p1 : Int32) (p2 : Int32) (p3 : Int32) (p4 : Int32)  {post : Int32 → (Nat → Nat → Int32) → Prop} (hR : zRi G Z rmX11_laid 7 zTR ad ln cX11_laid .int post)  (al : Nat → Nat → Int32) (h : vcX11_laid_0 G  ad ln p1 p2 p3 p4  post  al) : zB G Z rmX11_laid 7 zTR ad ln 0 0 0 [(0, .ref (ad 0)), (1, .int p1), (2, .int p2), (3, .int p3), (4, .int p4)] [] al := by
  unfold vcX11_laid_0 at h
  refine zb_iload_n X dX11_laid_0 rfl 1 rfl ?_
  refine zb_iconst X (1 : Int32) dX11_laid_1 (by decide) ?_
  refine zb_icmp_eq X 17 dX11_laid_2 (by decide) (fun c1 => ?_) (fun c1 => ?_)
  · have h := h.1 c1
    refine zb_aload_n X dX11_laid_17 rfl 0 rfl ?_
    refine zb_iload_n X dX11_laid_18 rfl 2 rfl ?_
    refine zb_callVi (n := 1) X 0 (by decide) 11 [3, 4, 5, 6, 7, 8, 9, 10, 11, 0, 12, 0, 0, 0, 0, 0, 0, 0, 0, 0, 0, 0, 0, 13, 14, 15, 16, 17, 0, 18, 19, 20, 21, 0, 0, 0, 22, 23, 24, 25, 0, 0, 26, 27, 28, 29, 0, 0, 0, 30, 0] rfl (C := RX11) (Tt := TX11) (N := 51) rfl h gX11_laid_X11_setter rfl (by decide +kernel) (by decide) rfl rfl (Nat.le_of_ble_eq_true rfl) dX11_laid_19 (kc' := 0) (ks' := 0) rfl rfl (fun q2 a2 h => ?_)
    refine zb_istore X (lv' := [(5, .int q2), (0, .ref (ad 0)), (1, .int p1), (2, .int p2), (3, .int p3), (4, .int p4)]) dX11_laid_22 (by decide) rfl ?_
    refine zb_iload X dX11_laid_24 0 rfl ?_
    refine zb_if_ge X 36 dX11_laid_26 (by decide) (fun c3 => ?_) (fun c3 => ?_)
    · have h := h.1 c3
      refine zb_iload X dX11_laid_36 5 rfl ?_
      refine zb_aload_n X dX11_laid_38 rfl 1 rfl ?_
      refine zb_iload X dX11_laid_39 0 rfl ?_
      refine zb_iload_n X dX11_laid_41 rfl 4 rfl ?_
      refine zb_callVi (n := 2) X 0 (by decide) 11 [3, 4, 5, 6, 7, 8, 9, 10, 11, 0, 12, 0, 0, 0, 0, 0, 0, 0, 0, 0, 0, 0, 0, 13, 14, 15, 16, 17, 0, 18, 19, 20, 21, 0, 0, 0, 22, 23, 24, 25, 0, 0, 26, 27, 28, 29, 0, 0, 0, 30, 0] rfl (C := RX11) (Tt := TX11) (N := 51) rfl h gX11_laid_X11_useOver rfl (by decide +kernel) (by decide) rfl rfl (Nat.le_of_ble_eq_true rfl) dX11_laid_42 (kc' := 0) (ks' := 0) rfl rfl (fun q4 a4 h => ?_)
      refine zb_isub X dX11_laid_45 ?_
      refine zb_istore X (lv' := [(6, .int (p4 - q4)), (5, .int q2), (0, .ref (ad 0)), (1, .int p1), (2, .int p2), (3, .int p3), (4, .int p4)]) dX11_laid_46 (by decide) rfl ?_
      refine zb_iload X dX11_laid_48 0 rfl ?_
      refine zb_if_ge X 62 dX11_laid_50 (by decide) (fun c5 => ?_) (fun c5 => ?_)
      · have h := h.1 c5
        refine zb_aload_n X dX11_laid_62 rfl 2 rfl ?_
        refine zb_getR X 0 (by decide) 11 [3, 4, 5, 6, 7, 8, 9, 10, 11, 0, 12, 0, 0, 0, 0, 0, 0, 0, 0, 0, 0, 0, 0, 13, 14, 15, 16, 17, 0, 18, 19, 20, 21, 0, 0, 0, 22, 23, 24, 25, 0, 0, 26, 27, 28, 29, 0, 0, 0, 30, 0] rfl (C := RX11) (Tt := TX11) (N := 51) rfl kX11_laid_1 49 (by decide) 28 rfl kX11_laid_0 rfl dX11_laid_63 ?_
        refine zb_aload_n X dX11_laid_66 rfl 2 rfl ?_
        refine zb_iload X dX11_laid_67 1 rfl ?_
        refine zb_iload X dX11_laid_69 0 rfl ?_
        refine zb_callVi (n := 2) X 0 (by decide) 11 [3, 4, 5, 6, 7, 8, 9, 10, 11, 0, 12, 0, 0, 0, 0, 0, 0, 0, 0, 0, 0, 0, 0, 13, 14, 15, 16, 17, 0, 18, 19, 20, 21, 0, 0, 0, 22, 23, 24, 25, 0, 0, 26, 27, 28, 29, 0, 0, 0, 30, 0] rfl (C := RX11) (Tt := TX11) (N := 51) rfl h gX11_laid_X11_spot rfl (by decide +kernel) (by decide) rfl rfl (Nat.le_of_ble_eq_true rfl) dX11_laid_71 (kc' := 0) (ks' := 0) rfl rfl (fun q6 a6 h => ?_)
        obtain ⟨hz, h⟩ := h
        refine zb_iald X 28 (by decide) 2 0 0 0 rfl (Or.inr rfl) q6.toNatClampNeg rfl hz dX11_laid_74 (a6 28 q6.toNatClampNeg) rfl ?_
        refine zb_sub [] rfl ?_
        exact tX11_laid_75 X p1 p2 p3 p4 hR  (a6 28 q6.toNatClampNeg) a6 h
      · have h := h.2 c5
        refine zb_aload_n X dX11_laid_53 rfl 2 rfl ?_
        refine zb_getR X 0 (by decide) 11 [3, 4, 5, 6, 7, 8, 9, 10, 11, 0, 12, 0, 0, 0, 0, 0, 0, 0, 0, 0, 0, 0, 0, 13, 14, 15, 16, 17, 0, 18, 19, 20, 21, 0, 0, 0, 22, 23, 24, 25, 0, 0, 26, 27, 28, 29, 0, 0, 0, 30, 0] rfl (C := RX11) (Tt := TX11) (N := 51) rfl kX11_laid_1 42 (by decide) 24 rfl kX11_laid_2 rfl dX11_laid_54 ?_
        refine zb_iload_n X dX11_laid_57 rfl 4 rfl ?_
        obtain ⟨hz, h⟩ := h
        refine zb_iald X 24 (by decide) 1 32 0 0 rfl (Or.inl rfl) p2.toNatClampNeg rfl hz dX11_laid_58 (a4 24 p2.toNatClampNeg) rfl ?_
        refine zb_goto X 75 dX11_laid_59 (by decide) ?_
        refine zb_sub [] rfl ?_
        exact tX11_laid_75 X p1 p2 p3 p4 hR  (a4 24 p2.toNatClampNeg) a4 h
    · have h := h.2 c3
      refine zb_aload_n X dX11_laid_29 rfl 1 rfl ?_
      refine zb_getR X 0 (by decide) 11 [3, 4, 5, 6, 7, 8, 9, 10, 11, 0, 12, 0, 0, 0, 0, 0, 0, 0, 0, 0, 0, 0, 0, 13, 14, 15, 16, 17, 0, 18, 19, 20, 21, 0, 0, 0, 22, 23, 24, 25, 0, 0, 26, 27, 28, 29, 0, 0, 0, 30, 0] rfl (C := RX11) (Tt := TX11) (N := 51) rfl kX11_laid_1 42 (by decide) 24 rfl kX11_laid_2 rfl dX11_laid_30 ?_
      refine zb_iload_n X dX11_laid_33 rfl 3 rfl ?_
      obtain ⟨hz, h⟩ := h
      refine zb_iald X 24 (by decide) 1 32 0 0 rfl (Or.inl rfl) p2.toNatClampNeg rfl hz dX11_laid_34 (a2 24 p2.toNatClampNeg) rfl ?_
      exact hR 35 _ _ _ dX11_laid_35 rfl h
  · have h := h.2 c1
    refine zb_iload_n X dX11_laid_5 rfl 1 rfl ?_
    refine zb_iconst X (2 : Int32) dX11_laid_6 (by decide) ?_
    refine zb_icmp_ne X 15 dX11_laid_7 (by decide) (fun c2 => ?_) (fun c2 => ?_)
    · have h := h.1 c2
      refine zb_iload_n X dX11_laid_15 rfl 2 rfl ?_
      refine zb_sub [] rfl ?_
      exact tX11_laid_16 X p1 p2 p3 p4 hR  p2 al h
    · have h := h.2 c2
      refine zb_iload X dX11_laid_10 4 rfl ?_
      refine zb_goto X 16 dX11_laid_12 (by decide) ?_
      refine zb_sub [] rfl ?_
      exact tX11_laid_16 X p1 p2 p3 p4 hR  p4 al h

abbrev rmX11_roundAt : Room := { frames := 0, cells := 0, slots := 0, locals := 0 }
theorem kX11_roundAt_0 : Cond.fieldLink RX11 189 RX11 "cycle" "[I" ∈ wsX11_roundAt := by decide +kernel
theorem kX11_roundAt_1 : zIn RX11 TX11 51 wsX11_roundAt := by decide +kernel
theorem kX11_roundAt_2 : Cond.fieldLink RX11 216 RX11 "distance" "I" ∈ wsX11_roundAt := by decide +kernel
theorem kX11_roundAt_3 : Cond.fieldLink RX11 157 RX11 "rounds" "I" ∈ wsX11_roundAt := by decide +kernel
def vcX11_roundAt_45 (G : zG)  (ad ln : Nat → Nat) (p1 : Int32) (p2 : Int32)  (post : Int32 → (Nat → Nat → Int32) → Prop) (s0 : Int32) (al : Nat → Nat → Int32) : Prop :=
  post s0 al
def vcX11_roundAt_44 (G : zG)  (ad ln : Nat → Nat) (p1 : Int32) (p2 : Int32)  (post : Int32 → (Nat → Nat → Int32) → Prop) (al : Nat → Nat → Int32) : Prop :=
  vcX11_roundAt_45 G  ad ln p1 p2  post (-1 : Int32) al
def vcX11_roundAt_0 (G : zG)  (ad ln : Nat → Nat) (p1 : Int32) (p2 : Int32)  (post : Int32 → (Nat → Nat → Int32) → Prop) (al : Nat → Nat → Int32) : Prop :=
  (vp_in p1 48 ∧ ((p2 - (al 17 p1.toNatClampNeg)) < 0 → vcX11_roundAt_44 G  ad ln p1 p2  post  al) ∧ (¬ (p2 - (al 17 p1.toNatClampNeg)) < 0 → (¬ (al 0 33) = 0 ∧ (¬ ((p2 - (al 17 p1.toNatClampNeg)) - (p2 - (al 17 p1.toNatClampNeg)) / (al 0 33) * (al 0 33)) = 0 → vcX11_roundAt_44 G  ad ln p1 p2  post  al) ∧ (((p2 - (al 17 p1.toNatClampNeg)) - (p2 - (al 17 p1.toNatClampNeg)) / (al 0 33) * (al 0 33)) = 0 → (¬ (al 0 33) = 0 ∧ ((al 0 18) ≤ ((p2 - (al 17 p1.toNatClampNeg)) / (al 0 33)) → vcX11_roundAt_44 G  ad ln p1 p2  post  al) ∧ (¬ (al 0 18) ≤ ((p2 - (al 17 p1.toNatClampNeg)) / (al 0 33)) → (¬ (al 0 33) = 0 ∧ vcX11_roundAt_45 G  ad ln p1 p2  post ((p2 - (al 17 p1.toNatClampNeg)) / (al 0 33)) al)))))))
set_option maxRecDepth 20000 in
theorem tX11_roundAt_45 {G : zG} {Z : zC}  {ad ln : Nat → Nat} (X : zX G Z cX11_roundAt 4 RX11 wsX11_roundAt) (p1 : Int32) (p2 : Int32)  {post : Int32 → (Nat → Nat → Int32) → Prop} (hR : zRi G Z rmX11_roundAt 4 zTR ad ln cX11_roundAt .int post)  (s0 : Int32) (al : Nat → Nat → Int32) (h : vcX11_roundAt_45 G  ad ln p1 p2  post s0 al) : zB G Z rmX11_roundAt 4 zTR ad ln 0 0 45 [] [.int s0] al := by
  unfold vcX11_roundAt_45 at h
  exact hR 45 _ _ _ dX11_roundAt_45 rfl h
set_option maxRecDepth 20000 in
theorem tX11_roundAt_44 {G : zG} {Z : zC}  {ad ln : Nat → Nat} (X : zX G Z cX11_roundAt 4 RX11 wsX11_roundAt) (p1 : Int32) (p2 : Int32)  {post : Int32 → (Nat → Nat → Int32) → Prop} (hR : zRi G Z rmX11_roundAt 4 zTR ad ln cX11_roundAt .int post)  (al : Nat → Nat → Int32) (h : vcX11_roundAt_44 G  ad ln p1 p2  post  al) : zB G Z rmX11_roundAt 4 zTR ad ln 0 0 44 [] [] al := by
  unfold vcX11_roundAt_44 at h
  refine zb_iconst X (-1 : Int32) dX11_roundAt_44 (by decide) ?_
  refine zb_sub [] rfl ?_
  exact tX11_roundAt_45 X p1 p2 hR  (-1 : Int32) al h
set_option maxRecDepth 20000 in
theorem tX11_roundAt_0 {G : zG} {Z : zC}  {ad ln : Nat → Nat} (X : zX G Z cX11_roundAt 4 RX11 wsX11_roundAt) (p1 : Int32) (p2 : Int32)  {post : Int32 → (Nat → Nat → Int32) → Prop} (hR : zRi G Z rmX11_roundAt 4 zTR ad ln cX11_roundAt .int post)  (al : Nat → Nat → Int32) (h : vcX11_roundAt_0 G  ad ln p1 p2  post  al) : zB G Z rmX11_roundAt 4 zTR ad ln 0 0 0 [(0, .ref (ad 0)), (1, .int p1), (2, .int p2)] [] al := by
  unfold vcX11_roundAt_0 at h
  refine zb_iload_n X dX11_roundAt_0 rfl 2 rfl ?_
  refine zb_aload_n X dX11_roundAt_1 rfl 0 rfl ?_
  refine zb_getR X 0 (by decide) 11 [3, 4, 5, 6, 7, 8, 9, 10, 11, 0, 12, 0, 0, 0, 0, 0, 0, 0, 0, 0, 0, 0, 0, 13, 14, 15, 16, 17, 0, 18, 19, 20, 21, 0, 0, 0, 22, 23, 24, 25, 0, 0, 26, 27, 28, 29, 0, 0, 0, 30, 0] rfl (C := RX11) (Tt := TX11) (N := 51) rfl kX11_roundAt_1 30 (by decide) 17 rfl kX11_roundAt_0 rfl dX11_roundAt_2 ?_
  refine zb_iload_n X dX11_roundAt_5 rfl 1 rfl ?_
  obtain ⟨hz, h⟩ := h
  refine zb_iald X 17 (by decide) 1 48 0 0 rfl (Or.inl rfl) p1.toNatClampNeg rfl hz dX11_roundAt_6 (al 17 p1.toNatClampNeg) rfl ?_
  refine zb_isub X dX11_roundAt_7 ?_
  refine zb_istore_n X (lv' := [(3, .int (p2 - (al 17 p1.toNatClampNeg))), (0, .ref (ad 0)), (1, .int p1), (2, .int p2)]) dX11_roundAt_8 rfl (by decide) rfl ?_
  refine zb_iload_n X dX11_roundAt_9 rfl 0 rfl ?_
  refine zb_if_lt X 44 dX11_roundAt_10 (by decide) (fun c1 => ?_) (fun c1 => ?_)
  · have h := h.1 c1
    refine zb_sub [] rfl ?_
    exact tX11_roundAt_44 X p1 p2 hR   al h
  · have h := h.2 c1
    refine zb_iload_n X dX11_roundAt_13 rfl 0 rfl ?_
    refine zb_aload_n X dX11_roundAt_14 rfl 1 rfl ?_
    refine zb_getI X 0 (by decide) 11 [3, 4, 5, 6, 7, 8, 9, 10, 11, 0, 12, 0, 0, 0, 0, 0, 0, 0, 0, 0, 0, 0, 0, 13, 14, 15, 16, 17, 0, 18, 19, 20, 21, 0, 0, 0, 22, 23, 24, 25, 0, 0, 26, 27, 28, 29, 0, 0, 0, 30, 0] rfl (C := RX11) (Tt := TX11) (N := 51) rfl kX11_roundAt_1 33 (by decide) rfl kX11_roundAt_2 rfl dX11_roundAt_15 (al 0 33) rfl ?_
    obtain ⟨hz, h⟩ := h
    refine zb_irem X dX11_roundAt_18 hz ?_
    refine zb_if_ne X 44 dX11_roundAt_19 (by decide) (fun c2 => ?_) (fun c2 => ?_)
    · have h := h.1 c2
      refine zb_sub [] rfl ?_
      exact tX11_roundAt_44 X p1 p2 hR   al h
    · have h := h.2 c2
      refine zb_iload_n X dX11_roundAt_22 rfl 0 rfl ?_
      refine zb_aload_n X dX11_roundAt_23 rfl 1 rfl ?_
      refine zb_getI X 0 (by decide) 11 [3, 4, 5, 6, 7, 8, 9, 10, 11, 0, 12, 0, 0, 0, 0, 0, 0, 0, 0, 0, 0, 0, 0, 13, 14, 15, 16, 17, 0, 18, 19, 20, 21, 0, 0, 0, 22, 23, 24, 25, 0, 0, 26, 27, 28, 29, 0, 0, 0, 30, 0] rfl (C := RX11) (Tt := TX11) (N := 51) rfl kX11_roundAt_1 33 (by decide) rfl kX11_roundAt_2 rfl dX11_roundAt_24 (al 0 33) rfl ?_
      obtain ⟨hz, h⟩ := h
      refine zb_idiv X dX11_roundAt_27 hz ?_
      refine zb_aload_n X dX11_roundAt_28 rfl 1 rfl ?_
      refine zb_getI X 0 (by decide) 11 [3, 4, 5, 6, 7, 8, 9, 10, 11, 0, 12, 0, 0, 0, 0, 0, 0, 0, 0, 0, 0, 0, 0, 13, 14, 15, 16, 17, 0, 18, 19, 20, 21, 0, 0, 0, 22, 23, 24, 25, 0, 0, 26, 27, 28, 29, 0, 0, 0, 30, 0] rfl (C := RX11) (Tt := TX11) (N := 51) rfl kX11_roundAt_1 18 (by decide) rfl kX11_roundAt_3 rfl dX11_roundAt_29 (al 0 18) rfl ?_
      refine zb_icmp_ge X 44 dX11_roundAt_32 (by decide) (fun c3 => ?_) (fun c3 => ?_)
      · have h := h.1 c3
        refine zb_sub [] rfl ?_
        exact tX11_roundAt_44 X p1 p2 hR   al h
      · have h := h.2 c3
        refine zb_iload_n X dX11_roundAt_35 rfl 0 rfl ?_
        refine zb_aload_n X dX11_roundAt_36 rfl 1 rfl ?_
        refine zb_getI X 0 (by decide) 11 [3, 4, 5, 6, 7, 8, 9, 10, 11, 0, 12, 0, 0, 0, 0, 0, 0, 0, 0, 0, 0, 0, 0, 13, 14, 15, 16, 17, 0, 18, 19, 20, 21, 0, 0, 0, 22, 23, 24, 25, 0, 0, 26, 27, 28, 29, 0, 0, 0, 30, 0] rfl (C := RX11) (Tt := TX11) (N := 51) rfl kX11_roundAt_1 33 (by decide) rfl kX11_roundAt_2 rfl dX11_roundAt_37 (al 0 33) rfl ?_
        obtain ⟨hz, h⟩ := h
        refine zb_idiv X dX11_roundAt_40 hz ?_
        refine zb_goto X 45 dX11_roundAt_41 (by decide) ?_
        refine zb_sub [] rfl ?_
        exact tX11_roundAt_45 X p1 p2 hR  ((p2 - (al 17 p1.toNatClampNeg)) / (al 0 33)) al h
