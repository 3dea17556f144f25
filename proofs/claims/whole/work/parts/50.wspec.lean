-- needs: 45 18e
/-! THE WAITS OF A LOOP, one behind another: first row, second row, rounds, cycles -/
abbrev zWe := Nat × Nat × Nat × Nat
section WSPEC
variable (R : Nat) (rc : Nat → zRec) (st : Nat → Nat)
def zTm (x : Nat) : Nat := st (rKd (rc x))
def zUsR (r : Int32) (y : Nat) : Bool := decide (((rc y).2.2.2.2.2.2.1 = 114 ∧ (rc y).2.2.2.2.2.2.2.1 = r) ∨ ((rc y).2.2.2.2.2.2.2.2.1 = 114 ∧ (rc y).2.2.2.2.2.2.2.2.2 = r))
/-- y uses what x sets -/
def zUsX (x y : Nat) : Bool := decide (0 ≤ (rc x).2.2.1) && zUsR rc (rc x).2.2.1 y
def zUon (x y : Nat) : Nat := if x < y then 0 else 1
noncomputable def zPo (x y : Nat) : Int := if ¬ (rc x).2.2.2.1 < 0 ∧ (rc x).2.2.2.1 = (rc y).2.2.2.1 ∧ ((rc x).1 = 3 ∨ (rc y).1 = 3) then zOv R (rSt (rc x)) (rSh (rc x)) (rSt (rc y)) (rSh (rc y)) (zUon x y) else -1
def zPd (x y : Nat) : Nat := if (rc x).1 = 3 then (if (rc y).1 = 3 then 1 else zTm rc st x) else 0
noncomputable def zPair (x y : Nat) : List zWe :=
  if zUsX rc x y = true ∧ zPo R rc x y = (zUon x y : Int) then [(x, y, zUon x y, max (zTm rc st x) (zPd rc st x y))]
  else (if zUsX rc x y = true then [(x, y, zUon x y, zTm rc st x)] else []) ++ (if 0 ≤ zPo R rc x y then [(x, y, (zPo R rc x y).toNat, zPd rc st x y)] else [])
noncomputable def zWy (x : Nat) : Nat → List zWe
  | 0 => []
  | y + 1 => zWy x y ++ zPair R rc st x y
noncomputable def zWx (n : Nat) : Nat → List zWe
  | 0 => []
  | x + 1 => zWx n x ++ zWy R rc st x n
end WSPEC
def wF (W : List zWe) (i : Nat) : Nat := (W.getD i (0, 0, 0, 0)).1
def wT (W : List zWe) (i : Nat) : Nat := (W.getD i (0, 0, 0, 0)).2.1
def wO (W : List zWe) (i : Nat) : Nat := (W.getD i (0, 0, 0, 0)).2.2.1
def wD (W : List zWe) (i : Nat) : Nat := (W.getD i (0, 0, 0, 0)).2.2.2
theorem wG {W : List zWe} {i : Nat} (h : i < W.length) : W[i]? = some (wF W i, wT W i, wO W i, wD W i) := by
  rw [List.getElem?_eq_getElem h]
  unfold wF wT wO wD
  rw [List.getD_eq_getElem?_getD, List.getElem?_eq_getElem h]
  rfl
theorem wG' {W : List zWe} {i : Nat} {e : zWe} (h : W[i]? = some e) : wF W i = e.1 ∧ wT W i = e.2.1 ∧ wO W i = e.2.2.1 ∧ wD W i = e.2.2.2 := by
  unfold wF wT wO wD
  rw [List.getD_eq_getElem?_getD, h]
  exact ⟨rfl, rfl, rfl, rfl⟩
/-- what waits are like -/
def zWeOk (n : Nat) (e : zWe) : Prop := e.1 < n ∧ e.2.1 < n ∧ e.2.2.1 ≤ 64 ∧ e.2.2.2 ≤ 20 ∧ (e.2.2.1 = 0 → e.1 < e.2.1)
section WFACT
variable {R n : Nat} {rc : Nat → zRec} {st : Nat → Nat}
theorem zPo_rng (x y : Nat) : zPo R rc x y = -1 ∨ ((zUon x y : Int) ≤ zPo R rc x y ∧ zPo R rc x y < R) := by
  unfold zPo
  split
  · exact zOvIs_rng (zOv_is R _ _ _ _ _)
  · exact Or.inl rfl
theorem zPair_ok (hR : R ≤ 64) (hs : ∀ j, j < 4 → 1 ≤ st j ∧ st j ≤ 20) (hk : ∀ x, x < n → zRecOk (rc x)) {x y : Nat} (hx : x < n) (hy : y < n) : (∀ e ∈ zPair R rc st x y, zWeOk n e ∧ e.1 = x ∧ e.2.1 = y) ∧ (zPair R rc st x y).length ≤ 2 := by
  have ht := hs (rKd (rc x)) (rKd_ok (hk x hx)).1
  have hp : zPd rc st x y ≤ 20 := by
    unfold zPd zTm
    split
    · split <;> omega
    · omega
  have hu : zUon x y ≤ 1 ∧ (zUon x y = 0 → x < y) := by
    unfold zUon
    split
    · exact ⟨by omega, fun _ => by assumption⟩
    · exact ⟨by omega, fun h => absurd h (by omega)⟩
  have hm : max (zTm rc st x) (zPd rc st x y) ≤ 20 := Nat.max_le.mpr ⟨ht.2, hp⟩
  have e1 : ∀ d : Nat, d ≤ 20 → zWeOk n (x, y, zUon x y, d) := fun d hd => ⟨hx, hy, by show zUon x y ≤ 64; omega, hd, hu.2⟩
  unfold zPair
  split
  · refine ⟨fun e he => ?_, by simp⟩
    rw [List.mem_singleton] at he
    subst he
    exact ⟨e1 _ hm, rfl, rfl⟩
  · refine ⟨fun e he => ?_, ?_⟩
    · rcases List.mem_append.mp he with he | he
      · split at he
        · rw [List.mem_singleton] at he
          subst he
          exact ⟨e1 _ ht.2, rfl, rfl⟩
        · cases he
      · split at he
        · rename_i h0
          rw [List.mem_singleton] at he
          subst he
          have := zPo_rng (R := R) (rc := rc) x y
          refine ⟨⟨hx, hy, ?_, hp, fun h => hu.2 ?_⟩, rfl, rfl⟩
          · show (zPo R rc x y).toNat ≤ 64
            omega
          · have h' : (zPo R rc x y).toNat = 0 := h
            omega
        · cases he
    · rw [List.length_append]
      split <;> split <;> simp
theorem zWy_ok (hR : R ≤ 64) (hs : ∀ j, j < 4 → 1 ≤ st j ∧ st j ≤ 20) (hk : ∀ x, x < n → zRecOk (rc x)) {x : Nat} (hx : x < n) : ∀ y, y ≤ n → (∀ e ∈ zWy R rc st x y, zWeOk n e ∧ e.1 = x ∧ e.2.1 < y) ∧ (zWy R rc st x y).length ≤ 2 * y
  | 0, _ => ⟨fun e he => absurd he (by unfold zWy; simp), by unfold zWy; simp⟩
  | y + 1, hy => by
    obtain ⟨i1, i2⟩ := zWy_ok hR hs hk hx y (by omega)
    obtain ⟨p1, p2⟩ := zPair_ok hR hs hk hx (y := y) (by omega)
    unfold zWy
    refine ⟨fun e he => ?_, by rw [List.length_append]; omega⟩
    rcases List.mem_append.mp he with he | he
    · obtain ⟨a, b, c⟩ := i1 e he
      exact ⟨a, b, by omega⟩
    · obtain ⟨a, b, c⟩ := p1 e he
      exact ⟨a, b, by omega⟩
theorem zWx_ok (hR : R ≤ 64) (hs : ∀ j, j < 4 → 1 ≤ st j ∧ st j ≤ 20) (hk : ∀ x, x < n → zRecOk (rc x)) : ∀ x, x ≤ n → (∀ e ∈ zWx R rc st n x, zWeOk n e ∧ e.1 < x) ∧ (zWx R rc st n x).length ≤ 2 * n * x
  | 0, _ => ⟨fun e he => absurd he (by unfold zWx; simp), by unfold zWx; simp⟩
  | x + 1, hx => by
    obtain ⟨i1, i2⟩ := zWx_ok hR hs hk x (by omega)
    obtain ⟨p1, p2⟩ := zWy_ok hR hs hk (x := x) (by omega) n (Nat.le_refl _)
    unfold zWx
    refine ⟨fun e he => ?_, by rw [List.length_append, Nat.mul_succ]; omega⟩
    rcases List.mem_append.mp he with he | he
    · obtain ⟨a, b⟩ := i1 e he
      exact ⟨a, by omega⟩
    · obtain ⟨a, b, c⟩ := p1 e he
      exact ⟨a, by omega⟩
end WFACT
