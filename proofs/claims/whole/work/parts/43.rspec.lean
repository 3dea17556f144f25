-- needs: 29b 42
/-! RUNS: what they leave -/
def rAr (y : zRec) : Nat := y.2.2.2.1.toNatClampNeg
def rSt (y : zRec) : Int := y.2.2.2.2.1.toInt
def rSh (y : zRec) : Int := y.2.2.2.2.2.1.toInt
def rTg (y : zRec) : Nat := y.2.2.1.toNatClampNeg
/-- the int of all arrays that a row has in a round -/
def zCx (y : zRec) (n : Nat) : Nat := ((rAr y : Int) * 1024 + 512 + (rSt y * (n : Int) + rSh y)).toNat
def fu (f : Nat → Int32) (j : Nat) (v : Int32) : Nat → Int32 := fun x => if x = j then v else f x
theorem fu_self (f : Nat → Int32) (j : Nat) (v : Int32) : fu f j v j = v := if_pos rfl
theorem fu_ne (f : Nat → Int32) {j x : Nat} (v : Int32) (h : x ≠ j) : fu f j v x = f x := if_neg h
/-- the arrays at first -/
def zCe0 (i : Nat) : Int32 := if i < 1024 then (nI i * 7) ^^^ 21 else if i < 2048 then nI (i - 1024) * nI (i - 1024) + 3 else if i < 3072 then 5 - nI (i - 2048) else 0
/-- an operand of a run as written -/
def zWv (rg : Nat → Int32) (s v : Int32) (n : Nat) : Int32 := if s = 114 then rg v.toNatClampNeg else if s = 105 then nI n else v
def zDo (y : zRec) (n : Nat) (w : (Nat → Int32) × (Nat → Int32)) : (Nat → Int32) × (Nat → Int32) :=
  if y.1 = 3 then (w.1, fu w.2 (zCx y n) (zWv w.1 y.2.2.2.2.2.2.1 y.2.2.2.2.2.2.2.1 n))
  else if y.1 = 2 then (fu w.1 (rTg y) (w.2 (zCx y n)), w.2)
  else (fu w.1 (rTg y) (zReck y.2.1 (zWv w.1 y.2.2.2.2.2.2.1 y.2.2.2.2.2.2.2.1 n) (zWv w.1 y.2.2.2.2.2.2.2.2.1 y.2.2.2.2.2.2.2.2.2 n)), w.2)
def zDoX (rc : Nat → zRec) (n : Nat) : Nat → (Nat → Int32) × (Nat → Int32) → (Nat → Int32) × (Nat → Int32)
  | 0, w => w
  | x + 1, w => zDo (rc x) n (zDoX rc n x w)
def zDoR (rc : Nat → zRec) (k : Nat) : Nat → (Nat → Int32) × (Nat → Int32) → (Nat → Int32) × (Nat → Int32)
  | 0, w => w
  | n + 1, w => zDoX rc n k (zDoR rc k n w)
theorem zRec_pl {y : zRec} (h : zRecOk y) (hk : y.1 = 2 ∨ y.1 = 3) {n : Nat} (hn : n < 64) : rAr y < 4 ∧ y.2.2.2.1 = nI (rAr y) ∧ (0 ≤ 512 + (rSt y * (n : Int) + rSh y) ∧ 512 + (rSt y * (n : Int) + rSh y) < 1024) ∧ ((zCx y n : Nat) : Int) = (rAr y : Int) * 1024 + 512 + (rSt y * (n : Int) + rSh y) ∧ zCx y n < 4096 ∧ y.2.2.2.2.1 = zI (rSt y) ∧ y.2.2.2.2.2.1 = zI (rSh y) := by
  obtain ⟨-, -, -, h4, -, ⟨s, hs, es⟩, ⟨t, ht, et⟩, -⟩ := h
  obtain ⟨a, ha, ea⟩ := h4 hk
  have e1 : rAr y = a := by unfold rAr; rw [ea, nI_clamp (by omega)]
  have e2 : rSt y = s := by unfold rSt; rw [es, zI_toInt ⟨by omega, by omega⟩]
  have e3 : rSh y = t := by unfold rSh; rw [et, zI_toInt ⟨by omega, by omega⟩]
  have z1 : s * (n : Int) ≤ 4 * (n : Int) := Int.mul_le_mul_of_nonneg_right (by omega) (by omega)
  have z2 : -4 * (n : Int) ≤ s * (n : Int) := Int.mul_le_mul_of_nonneg_right (by omega) (by omega)
  unfold zCx
  rw [e1, e2, e3]
  exact ⟨ha, ea, by omega, by omega, by omega, es, et⟩
theorem zRec_tg {y : zRec} (h : zRecOk y) (hk : ¬ y.1 = 3) : rTg y < 32 ∧ y.2.2.1 = nI (rTg y) := by
  obtain ⟨t, ht, e⟩ := h.2.2.1 hk
  unfold rTg
  rw [e, nI_clamp (by omega)]
  exact ⟨ht, rfl⟩
theorem zOpOk.v {s v : Int32} (h : zOpOk s v) (e : s = 114) : v.toNatClampNeg < 32 ∧ v = nI v.toNatClampNeg ∧ vp_in v 32 := by
  obtain ⟨t, ht, ev⟩ := h.2 e
  rw [ev, nI_clamp (by omega)]
  exact ⟨ht, rfl, vp_in_nI ht (by omega)⟩
/-! the laid run -/
/-- the round that brings what is at 'first' in round 0 to cycle t -/
def zRa (D R : Nat) (t first : Int) : Int := if t - first < 0 then -1 else if (t - first) / (D : Int) < R ∧ (t - first) / (D : Int) * (D : Int) = t - first then (t - first) / (D : Int) else -1
theorem zRa_rng {D R : Nat} (t first : Int) (hD : 1 ≤ D) : zRa D R t first = -1 ∨ (0 ≤ zRa D R t first ∧ zRa D R t first < R ∧ t = first + zRa D R t first * (D : Int)) := by
  unfold zRa
  split
  · exact Or.inl rfl
  · split
    · rename_i h1 h2
      have := Int.ediv_nonneg (a := t - first) (b := (D : Int)) (by omega) (by omega)
      exact Or.inr ⟨this, h2.1, by omega⟩
    · exact Or.inl rfl
theorem zRa_of {D R n : Nat} (first : Int) (hD : 1 ≤ D) (hn : n < R) : zRa D R (first + (n : Int) * (D : Int)) first = (n : Int) := by
  unfold zRa
  have e : first + (n : Int) * (D : Int) - first = (n : Int) * (D : Int) := by omega
  have h0 : 0 ≤ (n : Int) * (D : Int) := Int.mul_nonneg (by omega) (by omega)
  rw [e, Int.mul_ediv_cancel _ (by omega), if_neg (by omega), if_pos ⟨by omega, rfl⟩]
section LAID
variable (k D R sz : Nat) (rc : Nat → zRec) (c b off : Nat → Int) (sv : Nat → Int) (bg : Nat → Int32) (tm : Nat → Nat)
/-- where a value lies -/
def zSp (x : Nat) (n : Int) : Nat := ((off x - n) % (sz : Int)).toNat
/-- cycle t: values come to their places -/
def zBv (t : Int) (g : Nat → Int32) : Nat → (Nat → Int32) → (Nat → Int32)
  | 0, P => P
  | x + 1, P => if 0 ≤ b x ∧ 0 ≤ zRa D R t (b x) then fu (zBv t g x P) (zSp sz off x (zRa D R t (b x))) (g (x * 64 + (zRa D R t (b x)).toNat)) else zBv t g x P
/-- an operand of a laid run -/
def zLv (P : Nat → Int32) (s v : Int32) (y : Nat) (n : Nat) : Int32 :=
  if s = 114 then (if sv v.toNatClampNeg < 0 ∨ (n : Int) - zUo (sv v.toNatClampNeg).toNat y < 0 then bg v.toNatClampNeg else P (zSp sz off (sv v.toNatClampNeg).toNat ((n : Int) - zUo (sv v.toNatClampNeg).toNat y)))
  else if s = 105 then nI n else v
def zGv (P ce : Nat → Int32) (x n : Nat) : Int32 :=
  if (rc x).1 = 2 then ce (zCx (rc x) n)
  else if (rc x).1 = 3 then zLv sz off sv bg P (rc x).2.2.2.2.2.2.1 (rc x).2.2.2.2.2.2.2.1 x n
  else zReck (rc x).2.1 (zLv sz off sv bg P (rc x).2.2.2.2.2.2.1 (rc x).2.2.2.2.2.2.2.1 x n) (zLv sz off sv bg P (rc x).2.2.2.2.2.2.2.2.1 (rc x).2.2.2.2.2.2.2.2.2 x n)
/-- rows begin -/
def zBr (t : Int) (P ce : Nat → Int32) : Nat → (Nat → Int32) → (Nat → Int32)
  | 0, g => g
  | x + 1, g => if 0 ≤ zRa D R t (c x) then fu (zBr t P ce x g) (x * 64 + (zRa D R t (c x)).toNat) (zGv sz rc off sv bg P ce x (zRa D R t (c x)).toNat) else zBr t P ce x g
/-- sets come -/
def zBs (t3 : Nat) (t : Int) (g : Nat → Int32) : Nat → (Nat → Int32) → (Nat → Int32)
  | 0, ce => ce
  | x + 1, ce => if (rc x).1 = 3 ∧ 0 ≤ zRa D R t (c x + (t3 : Int) - 1) then fu (zBs t3 t g x ce) (zCx (rc x) (zRa D R t (c x + (t3 : Int) - 1)).toNat) (g (x * 64 + (zRa D R t (c x + (t3 : Int) - 1)).toNat)) else zBs t3 t g x ce
/-- given, places, arrays: the cycles before t -/
def zLc (t3 : Nat) (w : (Nat → Int32) × (Nat → Int32) × (Nat → Int32)) : Nat → (Nat → Int32) × (Nat → Int32) × (Nat → Int32)
  | 0 => w
  | t + 1 => (zBr D R sz rc c off sv bg (t : Int) (zBv D R sz b off (t : Int) (zLc t3 w t).1 k (zLc t3 w t).2.1) (zLc t3 w t).2.2 k (zLc t3 w t).1, zBv D R sz b off (t : Int) (zLc t3 w t).1 k (zLc t3 w t).2.1, zBs D R rc c t3 (t : Int) (zBr D R sz rc c off sv bg (t : Int) (zBv D R sz b off (t : Int) (zLc t3 w t).1 k (zLc t3 w t).2.1) (zLc t3 w t).2.2 k (zLc t3 w t).1) k (zLc t3 w t).2.2)
/-- the last cycle -/
def zLs : Nat → Int
  | 0 => 0
  | x + 1 => zmx (zLs x) (c x + (tm x : Int))
/-- a register at last -/
def zKl (g : Nat → Int32) (r : Nat) : Int32 := if sv r < 0 then bg r else g ((sv r).toNat * 64 + (R - 1))
end LAID
