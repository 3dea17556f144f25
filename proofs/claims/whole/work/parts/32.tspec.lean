-- needs: 24
/-! THE TABLE OF CYCLES: c x is the cycle of row x, -1 for none; kd x its kind; D the distance -/
section TSPEC
variable (n D : Nat) (kd : Nat → Nat)
/-- does row y, with a cycle of that rest, stand in the group g -/
def sAt (c : Nat → Int) (g j y : Nat) : Bool := decide (0 ≤ c y) && decide (c y % (D : Int) = (j : Int)) && zGrp (kd y) g
/-- how many of the first n rows -/
def sCnt (c : Nat → Int) (g j : Nat) : Nat → Nat
  | 0 => 0
  | y + 1 => sCnt c g j y + (if sAt D kd c g j y = true then 1 else 0)
def iup (c : Nat → Int) (x : Nat) (v : Int) : Nat → Int := fun y => if y = x then v else c y
theorem iup_self (c : Nat → Int) (x : Nat) (v : Int) : iup c x v x = v := by simp [iup]
theorem iup_ne (c : Nat → Int) {x y : Nat} (v : Int) (h : y ≠ x) : iup c x v y = c y := by simp [iup, h]
theorem sAt_ne {c : Nat → Int} {x y : Nat} {v : Int} {g j : Nat} (h : y ≠ x) : sAt D kd (iup c x v) g j y = sAt D kd c g j y := by unfold sAt; rw [iup_ne c v h]
theorem sCnt_lt {c : Nat → Int} {x : Nat} {v : Int} {g j : Nat} : ∀ k, k ≤ x → sCnt D kd (iup c x v) g j k = sCnt D kd c g j k
  | 0, _ => rfl
  | k + 1, h => by
    unfold sCnt
    rw [sCnt_lt k (by omega), sAt_ne D kd (by omega)]
/-- another cycle for one row -/
theorem sCnt_up {c : Nat → Int} {x : Nat} {v : Int} {g j : Nat} : ∀ k, x < k → sCnt D kd (iup c x v) g j k + (if sAt D kd c g j x = true then 1 else 0) = sCnt D kd c g j k + (if sAt D kd (iup c x v) g j x = true then 1 else 0)
  | 0, h => absurd h (by omega)
  | k + 1, h => by
    unfold sCnt
    by_cases e : x = k
    · subst e
      rw [sCnt_lt D kd x (Nat.le_refl _)]
      omega
    · have ih := sCnt_up (c := c) (x := x) (v := v) (g := g) (j := j) k (by omega)
      rw [sAt_ne D kd (c := c) (x := x) (y := k) (v := v) (by omega)]
      omega
theorem sAt_none {c : Nat → Int} {x : Nat} {g j : Nat} (h : c x = -1) : sAt D kd c g j x = false := by
  unfold sAt
  rw [h]
  rfl
theorem sCnt_le (c : Nat → Int) (g j : Nat) : ∀ k, sCnt D kd c g j k ≤ k
  | 0 => Nat.le_refl _
  | k + 1 => by
    have := sCnt_le c g j k
    unfold sCnt
    split <;> omega
theorem sCnt_pos {c : Nat → Int} {g j x : Nat} (h : sAt D kd c g j x = true) : ∀ k, x < k → 0 < sCnt D kd c g j k
  | 0, q => absurd q (by omega)
  | k + 1, q => by
    unfold sCnt
    by_cases e : x = k
    · subst e
      rw [if_pos h]
      omega
    · have := sCnt_pos h k (by omega)
      omega
variable (st : Nat → Nat)
/-- how many rows of a group can begin in one cycle -/
def sUnits (g : Nat) : Nat := st (zGS g).toNatClampNeg
def sRest (t : Int) : Nat := (t % (D : Int)).toNat
/-- a group has no room at t -/
def sFull (c : Nat → Int) (g : Nat) (t : Int) : Bool := decide (sUnits st g ≤ sCnt D kd c g (sRest D t) n)
/-- row x has room at t, in its groups from g on -/
def sRoomF (c : Nat → Int) (x : Nat) (t : Int) : Nat → Nat → Bool
  | 0, _ => true
  | f + 1, g => if zGrp (kd x) g = true ∧ sFull n D kd st c g t = true then false else sRoomF c x t f (g + 1)
def sRoom (c : Nat → Int) (x : Nat) (t : Int) : Bool := sRoomF n D kd st c x t 4 0
/-- the first of f cycles from t on that has room, -1 for none -/
def sFirst (c : Nat → Int) (x : Nat) : Nat → Int → Int
  | 0, _ => -1
  | f + 1, t => if sRoom n D kd st c x t = true then t else sFirst c x f (t + 1)
/-- in a group, from row y - 1 down: what shares the rest loses its cycle, as long as there is no room -/
def sDropG (g : Nat) (t : Int) : Nat → (Nat → Int) → (Nat → Int)
  | 0, c => c
  | y + 1, c => if sFull n D kd st c g t = true then sDropG g t y (if sAt D kd c g (sRest D t) y = true then iup c y (-1) else c) else c
/-- all of x's groups, f from g on -/
def sMake (x : Nat) (t : Int) : Nat → Nat → (Nat → Int) → (Nat → Int)
  | 0, _, c => c
  | f + 1, g, c => sMake x t f (g + 1) (if zGrp (kd x) g = true then sDropG n D kd st g t n c else c)
variable (m : Nat) (fr to ov dl : Nat → Nat)
def sBound (c : Nat → Int) (i : Nat) : Int := c (fr i) + (dl i : Int) - (ov i : Int) * (D : Int)
/-- EARLIEST, by the first k waits -/
def sEar (c : Nat → Int) (x : Nat) : Nat → Int
  | 0 => 0
  | k + 1 => if to k = x ∧ fr k ≠ x ∧ c (fr k) ≠ -1 then (if sEar c x k < sBound D fr ov dl c k then sBound D fr ov dl c k else sEar c x k) else sEar c x k
/-- a wait of x that doesn't hold any more -/
def sBad (x : Nat) (c : Nat → Int) (i : Nat) : Bool := decide (fr i ≠ to i ∧ (fr i = x ∨ to i = x) ∧ c (fr i) ≠ -1 ∧ c (to i) ≠ -1 ∧ c (to i) < sBound D fr ov dl c i)
/-- the waits from i on, f of them: who is on the other side of a bad one loses its cycle -/
def sBrk (x : Nat) : Nat → Nat → (Nat → Int) → (Nat → Int)
  | 0, _, c => c
  | f + 1, i, c => sBrk x f (i + 1) (if sBad D fr to ov dl x c i = true then iup c (if fr i = x then to i else fr i) (-1) else c)
/-- the cycle that x gets -/
def sPick (c lat : Nat → Int) (x : Nat) : Int :=
  if sFirst n D kd st c x D (sEar D fr to ov dl c x m) = -1 then (if lat x ≠ -1 ∧ sEar D fr to ov dl c x m ≤ lat x then lat x + 1 else sEar D fr to ov dl c x m) else sFirst n D kd st c x D (sEar D fr to ov dl c x m)
/-- a TRY of row x: the cycles behind it -/
def sTry (c lat : Nat → Int) (x : Nat) : Nat → Int :=
  sBrk D fr to ov dl x m 0 (iup (if sFirst n D kd st c x D (sEar D fr to ov dl c x m) = -1 then sMake n D kd st x (sPick n D kd st m fr to ov dl c lat x) 4 0 c else c) x (sPick n D kd st m fr to ov dl c lat x))
/-- of the first k rows without a cycle the one with the greatest height, -1 for none -/
def sBest (c h : Nat → Int) : Nat → Int
  | 0 => -1
  | k + 1 => if c k = -1 ∧ (sBest c h k = -1 ∨ h (sBest c h k).toNat < h k) then (k : Int) else sBest c h k
/-- TRIES: how many are left; cycles, latest ones, how many were done; whether all have cycles -/
def sLoop (h : Nat → Int) : Nat → Nat → (Nat → Int) → (Nat → Int) → (Nat → Int) × Nat × Bool
  | 0, k, c, _ => (c, k, decide (sBest c h n = -1))
  | f + 1, k, c, lat => if sBest c h n = -1 then (c, k, true) else sLoop h f (k + 1) (sTry n D kd st m fr to ov dl c lat (sBest c h n).toNat) (iup lat (sBest c h n).toNat (sPick n D kd st m fr to ov dl c lat (sBest c h n).toNat))
/-- a distance is tried -/
def sFill (h : Nat → Int) : (Nat → Int) × Nat × Bool := sLoop n D kd st m fr to ov dl h (8 * n) 0 (fun _ => -1) (fun _ => -1)
end TSPEC
