-- needs: 24
/-! SPANS: how long values live, their order, how many live at once, their places on the ring -/
def zmx (a b : Int) : Int := if a < b then b else a
theorem zI_mx {a b : Int} (ha : zR a) (hb : zR b) : (if zI a < zI b then zI b else zI a) = zI (zmx a b) := by
  have h := zI_lt ha hb
  unfold zmx
  by_cases q : a < b
  · rw [if_pos (h.mpr q), if_pos q]
  · rw [if_neg (fun z => q (h.mp z)), if_neg q]
section SSPEC
variable (n D : Nat) (c : Nat → Int) (tm : Nat → Nat) (us : Nat → Nat → Bool)
/-- over how many rounds a use goes -/
def zUo (x y : Nat) : Int := if x < y then 0 else 1
/-- where a use ends -/
def zUe (x y : Nat) : Int := c y + zUo x y * (D : Int)
def zE (x : Nat) : Nat → Int
  | 0 => -1
  | y + 1 => if us x y = true then zmx (zE x y) (zUe D c x y) else zE x y
def zBg (x y : Nat) : Int := if zE D c us x y = -1 then -1 else c x + (tm x : Int)
/-- where the new one goes -/
def zIp (b : Nat → Int) (o : Nat → Nat) (x : Nat) : Nat → Nat
  | 0 => 0
  | k + 1 => if b x < b (o k) then zIp b o x k else k + 1
def zIn2 (o : Nat → Nat) (p x : Nat) : Nat → Nat := fun j => if j < p then o j else if j = p then x else o (j - 1)
def zOr (b : Nat → Int) : Nat → (Nat → Nat) × Nat
  | 0 => (fun _ => 0, 0)
  | x + 1 => if b x < 0 then zOr b x else (zIn2 (zOr b x).1 (zIp b (zOr b x).1 x (zOr b x).2) x, (zOr b x).2 + 1)
/-- in how many rounds it lives in that cycle -/
def zAl (b e : Nat → Int) (x : Nat) (s : Int) : Int := (s - b x) / (D : Int) - (s - e x - 1) / (D : Int)
def zSm (b e : Nat → Int) (o : Nat → Nat) (s : Int) : Nat → Int
  | 0 => 0
  | k + 1 => zSm b e o s k + zAl D b e (o k) s
def zNd (b e : Nat → Int) (o : Nat → Nat) (k : Nat) : Nat → Int
  | 0 => 0
  | s + 1 => zmx (zNd b e o k s) (zSm D b e o (s : Int) k)
/-- x at offset f and y at its own lie in one place in one cycle -/
def zMe (b e : Nat → Int) (sz : Nat) (off : Nat → Int) (x : Nat) (f : Int) (y : Nat) : Prop := ∃ R : Int, b x + R * (D : Int) ≤ e y ∧ b y - R * (D : Int) ≤ e x ∧ (off y + R - f) % (sz : Int) = 0
/-- free, for the k-th -/
def zFre (b e : Nat → Int) (o : Nat → Nat) (sz : Nat) (off : Nat → Int) (k : Nat) (f : Nat) : Prop := ∀ j, j < k → ¬ zMe D b e sz off (o k) (f : Int) (o j)
end SSPEC
/-- the first -/
noncomputable def zFst (P : Nat → Prop) : Nat → Nat → Option Nat
  | 0, _ => none
  | g + 1, f => @ite _ (P f) (Classical.propDecidable _) (some f) (zFst P g (f + 1))
theorem zFst_y {P : Nat → Prop} {g f : Nat} (h : P f) : zFst P (g + 1) f = some f := by
  show @ite _ (P f) (Classical.propDecidable _) (some f) (zFst P g (f + 1)) = some f
  exact if_pos h
theorem zFst_n {P : Nat → Prop} {g f : Nat} (h : ¬ P f) : zFst P (g + 1) f = zFst P g (f + 1) := by
  show @ite _ (P f) (Classical.propDecidable _) (some f) (zFst P g (f + 1)) = _
  exact if_neg h
theorem zFst_lt {P : Nat → Prop} : ∀ {g f x : Nat}, zFst P g f = some x → f ≤ x ∧ x < f + g ∧ P x
  | 0, f, x, h => by cases h
  | g + 1, f, x, h => by
    by_cases q : P f
    · rw [zFst_y q] at h
      injection h with h
      subst h
      exact ⟨by omega, by omega, q⟩
    · rw [zFst_n q] at h
      have := zFst_lt h
      exact ⟨by omega, by omega, this.2.2⟩
theorem zFst_congr {P Q : Nat → Prop} (h : ∀ f, P f ↔ Q f) : ∀ g f, zFst P g f = zFst Q g f
  | 0, _ => rfl
  | g + 1, f => by
    by_cases q : P f
    · rw [zFst_y q, zFst_y ((h f).mp q)]
    · rw [zFst_n q, zFst_n (fun z => q ((h f).mpr z)), zFst_congr h g]
def fup (off : Nat → Int) (x : Nat) (v : Int) : Nat → Int := fun y => if y = x then v else off y
section COL
variable (D : Nat) (b e : Nat → Int) (o : Nat → Nat)
/-- offsets for the first k, if there are such -/
noncomputable def zCol (sz : Nat) : Nat → Option (Nat → Int)
  | 0 => some (fun _ => -1)
  | k + 1 => match zCol sz k with
    | none => none
    | some off => match zFst (zFre D b e o sz off k) sz 0 with
      | none => none
      | some f => some (fup off (o k) (f : Int))
/-- the least size that does -/
noncomputable def zSz (k : Nat) : Nat → Nat → Option (Nat × (Nat → Int))
  | 0, _ => none
  | g + 1, sz => match zCol D b e o sz k with
    | some off => some (sz, off)
    | none => zSz k g (sz + 1)
/-- need, size and offsets -/
noncomputable def zFitS (k : Nat) : Option (Nat × (Nat → Int)) :=
  if 96 < zNd D b e o k D then none else zSz D b e o k (129 - (zmx (zNd D b e o k D) 1).toNat) (zmx (zNd D b e o k D) 1).toNat
end COL
/-! facts -/
section SFACT
variable {n D : Nat} {c : Nat → Int} {tm : Nat → Nat} {us : Nat → Nat → Bool}
theorem zUe_rng {x y : Nat} {B : Int} (h : 0 ≤ c y ∧ c y ≤ B) : 0 ≤ zUe D c x y ∧ zUe D c x y ≤ B + D := by
  unfold zUe zUo
  split <;> omega
theorem zE_rng {B : Int} (hc : ∀ y, y < n → 0 ≤ c y ∧ c y ≤ B) (hB : 0 ≤ B) {x : Nat} : ∀ y, y ≤ n → -1 ≤ zE D c us x y ∧ zE D c us x y ≤ B + D
  | 0, _ => by
    unfold zE
    omega
  | y + 1, hy => by
    have ih := zE_rng hc hB (x := x) y (by omega)
    have h2 := zUe_rng (D := D) (x := x) (hc y (by omega))
    unfold zE zmx
    split
    · split <;> omega
    · exact ih
theorem zIp_le (b : Nat → Int) (o : Nat → Nat) (x : Nat) : ∀ k, zIp b o x k ≤ k
  | 0 => Nat.le_refl _
  | k + 1 => by
    unfold zIp
    split
    · have := zIp_le b o x k
      omega
    · omega
theorem zOr_ok (b : Nat → Int) : ∀ x, (zOr b x).2 ≤ x ∧ (∀ j, j < (zOr b x).2 → (zOr b x).1 j < x ∧ 0 ≤ b ((zOr b x).1 j)) ∧ (∀ j j', j < j' → j' < (zOr b x).2 → (zOr b x).1 j ≠ (zOr b x).1 j') ∧ (∀ y, y < x → 0 ≤ b y → ∃ j, j < (zOr b x).2 ∧ (zOr b x).1 j = y)
  | 0 => ⟨Nat.le_refl _, fun j hj => absurd hj (by show ¬ j < 0; omega), fun j j' _ hj => absurd hj (by show ¬ j' < 0; omega), fun y hy => absurd hy (by omega)⟩
  | x + 1 => by
    obtain ⟨i1, i2, i3, i4⟩ := zOr_ok b x
    unfold zOr
    by_cases q : b x < 0
    · rw [if_pos q]
      refine ⟨by omega, fun j hj => ⟨by have := (i2 j hj).1; omega, (i2 j hj).2⟩, i3, fun y hy h0 => ?_⟩
      by_cases e : y = x
      · subst e
        omega
      · exact i4 y (by omega) h0
    · rw [if_neg q]
      generalize zOr b x = w at i1 i2 i3 i4
      obtain ⟨o, k⟩ := w
      simp only at i1 i2 i3 i4 ⊢
      have hp := zIp_le b o x k
      generalize zIp b o x k = p at hp
      refine ⟨by omega, fun j hj => ?_, fun j j' h1 h2 => ?_, fun y hy h0 => ?_⟩
      · unfold zIn2
        by_cases g1 : j < p
        · rw [if_pos g1]
          have := i2 j (by omega)
          omega
        · rw [if_neg g1]
          by_cases g2 : j = p
          · rw [if_pos g2]
            omega
          · rw [if_neg g2]
            have := i2 (j - 1) (by omega)
            omega
      · unfold zIn2
        by_cases g1 : j < p
        · rw [if_pos g1]
          have a1 := i2 j (by omega)
          by_cases g3 : j' < p
          · rw [if_pos g3]
            exact i3 j j' h1 (by omega)
          · rw [if_neg g3]
            by_cases g4 : j' = p
            · rw [if_pos g4]
              omega
            · rw [if_neg g4]
              exact i3 j (j' - 1) (by omega) (by omega)
        · rw [if_neg g1, if_neg (show ¬ j' < p by omega), if_neg (show ¬ j' = p by omega)]
          by_cases g2 : j = p
          · rw [if_pos g2]
            have := i2 (j' - 1) (by omega)
            omega
          · rw [if_neg g2]
            exact i3 (j - 1) (j' - 1) (by omega) (by omega)
      · by_cases e : y = x
        · refine ⟨p, by omega, ?_⟩
          unfold zIn2
          rw [if_neg (by omega), if_pos rfl, e]
        · obtain ⟨j, j1, j2⟩ := i4 y (by omega) h0
          by_cases g1 : j < p
          · refine ⟨j, by omega, ?_⟩
            unfold zIn2
            rw [if_pos g1, j2]
          · refine ⟨j + 1, by omega, ?_⟩
            unfold zIn2
            rw [if_neg (by omega), if_neg (by omega), show j + 1 - 1 = j by omega, j2]
theorem zAl_rng (hD : 1 ≤ D) {b e : Nat → Int} {x : Nat} {B : Int} (h : 0 ≤ b x ∧ b x ≤ e x ∧ e x ≤ B) (s : Int) : 0 ≤ zAl D b e x s ∧ zAl D b e x s ≤ B + 1 := by
  unfold zAl
  have hD' : (0 : Int) < (D : Int) := by omega
  have m1 : (s - e x - 1) / (D : Int) ≤ (s - b x) / (D : Int) := Int.ediv_le_ediv hD' (by omega)
  refine ⟨by omega, ?_⟩
  -- over a stretch of length L a floor grows by at most L
  have m2 : (s - b x) / (D : Int) ≤ (s - e x - 1 + (e x - b x + 1) * (D : Int)) / (D : Int) := by
    refine Int.ediv_le_ediv hD' ?_
    have : (e x - b x + 1) * 1 ≤ (e x - b x + 1) * (D : Int) := Int.mul_le_mul_of_nonneg_left (by omega) (by omega)
    omega
  rw [Int.add_mul_ediv_right _ _ (by omega)] at m2
  omega
theorem zSm_rng (hD : 1 ≤ D) {b e : Nat → Int} {o : Nat → Nat} {B : Int} (s : Int) : ∀ k, (∀ j, j < k → 0 ≤ b (o j) ∧ b (o j) ≤ e (o j) ∧ e (o j) ≤ B) → 0 ≤ zSm D b e o s k ∧ zSm D b e o s k ≤ k * (B + 1)
  | 0, _ => by
    unfold zSm
    omega
  | k + 1, h => by
    have ih := zSm_rng hD s k (fun j hj => h j (by omega))
    have h2 := zAl_rng hD (h k (by omega)) s
    unfold zSm
    rw [show ((k + 1 : Nat) : Int) * (B + 1) = (k : Int) * (B + 1) + (B + 1) by rw [Int.natCast_add, Int.add_mul]; simp]
    omega
theorem zNd_rng (hD : 1 ≤ D) {b e : Nat → Int} {o : Nat → Nat} {B : Int} {k : Nat} (hB : 0 ≤ B) (h : ∀ j, j < k → 0 ≤ b (o j) ∧ b (o j) ≤ e (o j) ∧ e (o j) ≤ B) : ∀ s, 0 ≤ zNd D b e o k s ∧ zNd D b e o k s ≤ k * (B + 1)
  | 0 => by
    unfold zNd
    have : (0 : Int) ≤ (k : Int) * (B + 1) := Int.mul_nonneg (by omega) (by omega)
    omega
  | s + 1 => by
    have ih := zNd_rng hD hB h s
    have h2 := zSm_rng (D := D) (b := b) (e := e) (o := o) (B := B) hD (s : Int) k h
    unfold zNd zmx
    split <;> omega
/-- one cycle more -/
theorem zAl_step (hD : 1 ≤ D) (b t : Int) (s : Nat) (hs : s < D) : ((s : Int) - b) / (D : Int) - ((s : Int) - t - 1) / (D : Int) = ((s : Int) - b) / (D : Int) - ((s : Int) - (t - 1) - 1) / (D : Int) + (if t % (D : Int) = (s : Int) then 1 else 0) := by
  have hD' : (0 : Int) < (D : Int) := by omega
  have e1 := Int.emod_add_mul_ediv t (D : Int)
  have e2 := Int.emod_nonneg t (b := (D : Int)) (by omega)
  have e3 := Int.emod_lt_of_pos t hD'
  generalize hq : t / (D : Int) = q at e1
  generalize hr : t % (D : Int) = rr at e1 e2 e3
  have f1 : (s : Int) - (t - 1) - 1 = ((s : Int) - rr) + (-q) * (D : Int) := by
    rw [Int.neg_mul, Int.mul_comm q]
    omega
  have f2 : (s : Int) - t - 1 = ((s : Int) - rr - 1) + (-q) * (D : Int) := by
    rw [Int.neg_mul, Int.mul_comm q]
    omega
  rw [f1, f2, Int.add_mul_ediv_right _ _ (by omega), Int.add_mul_ediv_right _ _ (by omega)]
  by_cases g : rr = (s : Int)
  · rw [if_pos g, show (s : Int) - rr = 0 by omega, show (0 : Int) - 1 = -1 by omega, Int.zero_ediv]
    have : (-1 : Int) / (D : Int) = -1 := by
      rw [show (-1 : Int) = ((D : Int) - 1) + (-1) * (D : Int) by omega, Int.add_mul_ediv_right _ _ (by omega), Int.ediv_eq_zero_of_lt (by omega) (by omega)]
      omega
    rw [this]
    omega
  · rw [if_neg g]
    rcases Int.lt_or_gt_of_ne g with h | h
    · have k1 : ((s : Int) - rr) / (D : Int) = 0 := Int.ediv_eq_zero_of_lt (by omega) (by omega)
      have k2 : ((s : Int) - rr - 1) / (D : Int) = 0 := Int.ediv_eq_zero_of_lt (by omega) (by omega)
      rw [k1, k2]
      omega
    · have k1 : ((s : Int) - rr) / (D : Int) = -1 := by
        rw [show (s : Int) - rr = ((s : Int) - rr + (D : Int)) + (-1) * (D : Int) by omega, Int.add_mul_ediv_right _ _ (by omega), Int.ediv_eq_zero_of_lt (by omega) (by omega)]
        omega
      have k2 : ((s : Int) - rr - 1) / (D : Int) = -1 := by
        rw [show (s : Int) - rr - 1 = ((s : Int) - rr - 1 + (D : Int)) + (-1) * (D : Int) by omega, Int.add_mul_ediv_right _ _ (by omega), Int.ediv_eq_zero_of_lt (by omega) (by omega)]
        omega
      rw [k1, k2]
      omega
/-- a place is met iff one of the rounds brings it there -/
theorem zMe_iff (hD : 1 ≤ D) {b e : Nat → Int} {sz : Nat} (hs : 1 ≤ sz) {off : Nat → Int} {x y f : Nat} (hf : f < sz) : zMe D b e sz off x (f : Int) y ↔ ∃ R : Int, -((e x - b y) / (D : Int)) ≤ R ∧ R ≤ (e y - b x) / (D : Int) ∧ (off y + R) % (sz : Int) = (f : Int) := by
  have hD' : (0 : Int) < (D : Int) := by omega
  have key : ∀ R : Int, (b x + R * (D : Int) ≤ e y ↔ R ≤ (e y - b x) / (D : Int)) ∧ (b y - R * (D : Int) ≤ e x ↔ -((e x - b y) / (D : Int)) ≤ R) := by
    intro R
    rw [Int.le_ediv_iff_mul_le hD']
    refine ⟨⟨fun h => by omega, fun h => by omega⟩, ?_⟩
    have h2 : -((e x - b y) / (D : Int)) ≤ R ↔ -R ≤ (e x - b y) / (D : Int) := ⟨fun h => by omega, fun h => by omega⟩
    rw [h2, Int.le_ediv_iff_mul_le hD', Int.neg_mul]
    exact ⟨fun h => by omega, fun h => by omega⟩
  have md : ∀ R : Int, (off y + R - (f : Int)) % (sz : Int) = 0 ↔ (off y + R) % (sz : Int) = (f : Int) := by
    intro R
    rw [← Int.emod_eq_emod_iff_emod_sub_eq_zero, Int.emod_eq_of_lt (a := (f : Int)) (by omega) (by omega)]
  unfold zMe
  refine ⟨fun ⟨R, h1, h2, h3⟩ => ⟨R, (key R).2.mp h2, (key R).1.mp h1, (md R).mp h3⟩, fun ⟨R, h1, h2, h3⟩ => ⟨R, (key R).1.mpr h2, (key R).2.mpr h1, (md R).mpr h3⟩⟩
end SFACT
