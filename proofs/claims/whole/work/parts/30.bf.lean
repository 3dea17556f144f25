-- needs: 20
/-! HEIGHTS: m WAITS from row 'fr i' to row 'to i' (to waits for fr) of weight w i, over n rows. A solution lies, at each wait's first row, not below its second row and the weight; the heights are the least one that isn't below 0. -/
section BF
variable (n m : Nat) (fr to : Nat → Nat) (w : Nat → Int)
def bfOk (h : Nat → Int) : Prop := ∀ i, i < m → h (to i) + w i ≤ h (fr i)
def bfSol (h : Nat → Int) : Prop := (∀ x, x < n → 0 ≤ h x) ∧ bfOk m fr to w h
def bfMin (h : Nat → Int) : Prop := bfSol n m fr to w h ∧ ∀ h', bfSol n m fr to w h' → ∀ x, x < n → h x ≤ h' x
theorem bfMin_eq {h h' : Nat → Int} (a : bfMin n m fr to w h) (b : bfMin n m fr to w h') : ∀ x, x < n → h x = h' x := fun x hx => Int.le_antisymm (a.2 h' b.1 x hx) (b.2 h a.1 x hx)
theorem bf_bound (h : Nat → Int) : ∀ n : Nat, ∃ c : Int, ∀ x, x < n → 0 ≤ h x + c
  | 0 => ⟨0, fun x hx => absurd hx (by omega)⟩
  | n + 1 => by
    obtain ⟨c, hc⟩ := bf_bound h n
    refine ⟨(if c ≤ -h n then -h n else c), fun x hx => ?_⟩
    by_cases e : x = n
    · subst e
      split <;> omega
    · have := hc x (by omega)
      split <;> omega
theorem bf_exists (hf : ∀ i, i < m → fr i < n) (ht : ∀ i, i < m → to i < n) (h : Nat → Int) (ok : bfOk m fr to w h) : ∃ h', bfMin n m fr to w h' := by
  obtain ⟨c, hc⟩ := bf_bound h n
  have s0 : bfSol n m fr to w (fun x => h x + c) := ⟨hc, fun i hi => by have := ok i hi; show h (to i) + c + w i ≤ h (fr i) + c; omega⟩
  have key : ∀ x, ∃ v : Nat, x < n → (∃ h', bfSol n m fr to w h' ∧ h' x = (v : Int)) ∧ ∀ h', bfSol n m fr to w h' → (v : Int) ≤ h' x := by
    intro x
    by_cases hx : x < n
    · obtain ⟨v, ⟨h1, h2, h3⟩, hl⟩ := pk_least (fun v => ∃ h', bfSol n m fr to w h' ∧ h' x = (v : Int)) ⟨(h x + c).toNat, _, s0, by have := hc x hx; show h x + c = _; omega⟩
      refine ⟨v, fun _ => ⟨⟨h1, h2, h3⟩, fun h' s' => ?_⟩⟩
      have p0 := s'.1 x hx
      rcases Int.lt_or_le (h' x) v with q | q
      · exact absurd ⟨h', s', by omega⟩ (hl (h' x).toNat (by omega))
      · exact q
    · exact ⟨0, fun q => absurd q hx⟩
  refine ⟨fun x => ((Classical.choose (key x) : Nat) : Int), ⟨fun x hx => Int.natCast_nonneg _, fun i hi => ?_⟩, fun h' s' x hx => (Classical.choose_spec (key x) hx).2 h' s'⟩
  obtain ⟨⟨h1, s1, e1⟩, -⟩ := Classical.choose_spec (key (fr i)) (hf i hi)
  have h2 := (Classical.choose_spec (key (to i)) (ht i hi)).2 h1 s1
  have h3 := s1.2 i hi
  show ((Classical.choose (key (to i)) : Nat) : Int) + w i ≤ ((Classical.choose (key (fr i)) : Nat) : Int)
  rw [← e1]
  omega
/-- one wait is looked at -/
def bfRel (h : Nat → Int) (i : Nat) : Nat → Int := fun x => if x = fr i ∧ h (fr i) < h (to i) + w i then h (to i) + w i else h x
theorem bfRel_ge (h : Nat → Int) (i x : Nat) : h x ≤ bfRel fr to w h i x := by
  unfold bfRel
  by_cases c : x = fr i ∧ h (fr i) < h (to i) + w i
  · rw [if_pos c, c.1]
    omega
  · rw [if_neg c]
    exact Int.le_refl _
theorem bfRel_ok (h : Nat → Int) (i : Nat) : h (to i) + w i ≤ bfRel fr to w h i (fr i) := by
  unfold bfRel
  by_cases c : h (fr i) < h (to i) + w i
  · rw [if_pos ⟨rfl, c⟩]
    exact Int.le_refl _
  · rw [if_neg (fun q => c q.2)]
    omega
theorem bfRel_le {h h' : Nat → Int} {i : Nat} (hi : i < m) (hf : ∀ i, i < m → fr i < n) (ht : ∀ i, i < m → to i < n) (s : bfOk m fr to w h') (le : ∀ x, x < n → h x ≤ h' x) : ∀ x, x < n → bfRel fr to w h i x ≤ h' x := by
  intro x hx
  unfold bfRel
  by_cases c : x = fr i ∧ h (fr i) < h (to i) + w i
  · rw [if_pos c, c.1]
    have := s i hi
    have := le (to i) (ht i hi)
    omega
  · rw [if_neg c]
    exact le x hx
theorem bfRel_id {h : Nat → Int} {i : Nat} (c : h (to i) + w i ≤ h (fr i)) : bfRel fr to w h i = h := by
  funext x
  unfold bfRel
  rw [if_neg (fun q => by omega)]
/-- all waits, the last one first -/
def bfPass : Nat → (Nat → Int) → (Nat → Int)
  | 0, h => h
  | k + 1, h => bfPass k (bfRel fr to w h k)
theorem bfPass_ge : ∀ (k : Nat) (h : Nat → Int) (x : Nat), h x ≤ bfPass fr to w k h x
  | 0, h, x => Int.le_refl _
  | k + 1, h, x => Int.le_trans (bfRel_ge fr to w h k x) (bfPass_ge k _ x)
theorem bfPass_ok : ∀ (k : Nat) (h : Nat → Int) (i : Nat), i < k → h (to i) + w i ≤ bfPass fr to w k h (fr i)
  | 0, h, i, hi => absurd hi (by omega)
  | k + 1, h, i, hi => by
    by_cases e : i = k
    · subst e
      exact Int.le_trans (bfRel_ok fr to w h i) (bfPass_ge fr to w i _ (fr i))
    · have := bfPass_ok k (bfRel fr to w h k) i (by omega)
      have := bfRel_ge fr to w h k (to i)
      show _ ≤ bfPass fr to w k (bfRel fr to w h k) (fr i)
      omega
theorem bfPass_le {h' : Nat → Int} (hf : ∀ i, i < m → fr i < n) (ht : ∀ i, i < m → to i < n) (s : bfOk m fr to w h') : ∀ (k : Nat) (h : Nat → Int), k ≤ m → (∀ x, x < n → h x ≤ h' x) → ∀ x, x < n → bfPass fr to w k h x ≤ h' x
  | 0, h, _, le => le
  | k + 1, h, hk, le => bfPass_le hf ht s k _ (by omega) (bfRel_le n m fr to w (by omega) hf ht s le)
theorem bfPass_id : ∀ (k : Nat) (h : Nat → Int), bfOk k fr to w h → bfPass fr to w k h = h
  | 0, h, _ => rfl
  | k + 1, h, ok => by
    show bfPass fr to w k (bfRel fr to w h k) = h
    rw [bfRel_id fr to w (ok k (by omega))]
    exact bfPass_id k h (fun i hi => ok i (by omega))
/-- how many rows aren't yet at their height -/
def bfOpen (h hs : Nat → Int) : Nat → Nat
  | 0 => 0
  | x + 1 => bfOpen h hs x + (if h x < hs x then 1 else 0)
theorem bfOpen_le {h h2 hs : Nat → Int} : ∀ k : Nat, (∀ x, x < k → h x ≤ h2 x) → bfOpen h2 hs k ≤ bfOpen h hs k
  | 0, _ => Nat.le_refl _
  | k + 1, le => by
    have := bfOpen_le (hs := hs) k (fun x hx => le x (by omega))
    have := le k (by omega)
    unfold bfOpen
    by_cases c : h2 k < hs k
    · rw [if_pos c, if_pos (by omega)]
      omega
    · rw [if_neg c]
      omega
theorem bfOpen_lt {h h2 hs : Nat → Int} : ∀ k : Nat, (∀ x, x < k → h x ≤ h2 x) → ∀ y, y < k → h y < hs y → ¬ h2 y < hs y → bfOpen h2 hs k < bfOpen h hs k
  | 0, _, y, hy, _, _ => absurd hy (by omega)
  | k + 1, le, y, hy, c1, c2 => by
    unfold bfOpen
    by_cases e : y = k
    · subst e
      have := bfOpen_le (hs := hs) y (fun x hx => le x (by omega))
      rw [if_pos c1, if_neg c2]
      omega
    · have := bfOpen_lt k (fun x hx => le x (by omega)) y (by omega) c1 c2
      have := le k (by omega)
      by_cases c : h2 k < hs k
      · rw [if_pos c, if_pos (by omega)]
        omega
      · rw [if_neg c]
        omega
theorem bfOpen_0 {h hs : Nat → Int} : ∀ k : Nat, bfOpen h hs k = 0 → ∀ x, x < k → ¬ h x < hs x
  | 0, _, x, hx => absurd hx (by omega)
  | k + 1, e, x, hx => by
    unfold bfOpen at e
    by_cases ex : x = k
    · subst ex
      intro c
      rw [if_pos c] at e
      omega
    · exact bfOpen_0 k (by omega) x (by omega)
theorem bfOpen_bd {h hs : Nat → Int} : ∀ k : Nat, bfOpen h hs k ≤ k
  | 0 => Nat.le_refl _
  | k + 1 => by
    have := bfOpen_bd (h := h) (hs := hs) k
    unfold bfOpen
    split <;> omega
theorem bfOpen_some {h hs : Nat → Int} : ∀ k y : Nat, y < k → ¬ h y < hs y → bfOpen h hs k < k
  | 0, y, hy, _ => absurd hy (by omega)
  | k + 1, y, hy, c => by
    unfold bfOpen
    have b := bfOpen_bd (h := h) (hs := hs) k
    by_cases e : y = k
    · subst e
      rw [if_neg c]
      omega
    · have := bfOpen_some k y (by omega) c
      split <;> omega
/-- some wait leads from a row that isn't at its height to one that is -/
theorem bf_edge (hf : ∀ i, i < m → fr i < n) (ht : ∀ i, i < m → to i < n) {h hs : Nat → Int} (h0 : ∀ x, x < n → 0 ≤ h x) (mn : bfMin n m fr to w hs) {y : Nat} (hy : y < n) (cy : h y < hs y) : ∃ i, i < m ∧ h (fr i) < hs (fr i) ∧ ¬ h (to i) < hs (to i) ∧ hs (fr i) ≤ hs (to i) + w i := by
  rcases Classical.em (∃ i, i < m ∧ h (fr i) < hs (fr i) ∧ ¬ h (to i) < hs (to i) ∧ hs (fr i) ≤ hs (to i) + w i) with q | q
  · exact q
  · exfalso
    have s : bfSol n m fr to w (fun x => if h x < hs x then hs x - 1 else hs x) := by
      refine ⟨fun x hx => ?_, fun i hi => ?_⟩
      · have := h0 x hx
        have := mn.1.1 x hx
        show 0 ≤ if h x < hs x then hs x - 1 else hs x
        split <;> omega
      · have e := mn.1.2 i hi
        show (if h (to i) < hs (to i) then hs (to i) - 1 else hs (to i)) + w i ≤ if h (fr i) < hs (fr i) then hs (fr i) - 1 else hs (fr i)
        by_cases c1 : h (to i) < hs (to i)
        · rw [if_pos c1]
          split <;> omega
        · rw [if_neg c1]
          by_cases c2 : h (fr i) < hs (fr i)
          · rw [if_pos c2]
            rcases Int.lt_or_le (hs (to i) + w i) (hs (fr i)) with z | z
            · omega
            · exact absurd ⟨i, hi, c2, c1, z⟩ q
          · rw [if_neg c2]
            omega
    have := mn.2 _ s y hy
    rw [if_pos cy] at this
    omega
theorem bf_less (hf : ∀ i, i < m → fr i < n) (ht : ∀ i, i < m → to i < n) {h hs : Nat → Int} (h0 : ∀ x, x < n → 0 ≤ h x) (mn : bfMin n m fr to w hs) {y : Nat} (hy : y < n) (cy : h y < hs y) : bfOpen (bfPass fr to w m h) hs n < bfOpen h hs n := by
  obtain ⟨i, hi, c1, c2, c3⟩ := bf_edge n m fr to w hf ht h0 mn hy cy
  refine bfOpen_lt n (fun x _ => bfPass_ge fr to w m h x) (fr i) (hf i hi) c1 ?_
  have := bfPass_ok fr to w m h i hi
  omega
/-- k passes from 0 on -/
def bfIt (h : Nat → Int) : Nat → (Nat → Int)
  | 0 => h
  | k + 1 => bfPass fr to w m (bfIt h k)
theorem bfIt_ge : ∀ (k : Nat) (h : Nat → Int) (x : Nat), h x ≤ bfIt m fr to w h k x
  | 0, h, x => Int.le_refl _
  | k + 1, h, x => Int.le_trans (bfIt_ge k h x) (bfPass_ge fr to w m _ x)
theorem bfIt_le {h' : Nat → Int} (hf : ∀ i, i < m → fr i < n) (ht : ∀ i, i < m → to i < n) (s : bfOk m fr to w h') {h : Nat → Int} (le : ∀ x, x < n → h x ≤ h' x) : ∀ (k : Nat), ∀ x, x < n → bfIt m fr to w h k x ≤ h' x
  | 0 => le
  | k + 1 => bfPass_le n m fr to w hf ht s m _ (Nat.le_refl _) (bfIt_le hf ht s le k)
theorem bfIt_open (hf : ∀ i, i < m → fr i < n) (ht : ∀ i, i < m → to i < n) {hs : Nat → Int} (mn : bfMin n m fr to w hs) (hn : 0 < n) : ∀ k : Nat, bfOpen (bfIt m fr to w (fun _ => 0) k) hs n + k < n ∨ bfOpen (bfIt m fr to w (fun _ => 0) k) hs n = 0
  | 0 => by
    by_cases e : bfOpen (bfIt m fr to w (fun _ => 0) 0) hs n = 0
    · exact Or.inr e
    · left
      rcases Classical.em (∃ y, y < n ∧ ¬ (0 : Int) < hs y) with ⟨y, hy, c⟩ | q
      · exact bfOpen_some n y hy c
      · exfalso
        have all : ∀ y, y < n → (0 : Int) < hs y := fun y hy => Classical.byContradiction fun c => q ⟨y, hy, c⟩
        obtain ⟨i, hi, -, c2, -⟩ := bf_edge n m fr to w hf ht (h := fun _ => 0) (fun _ _ => Int.le_refl _) mn hn (all 0 hn)
        exact c2 (all _ (ht i hi))
  | k + 1 => by
    have ih := bfIt_open hf ht mn hn k
    by_cases e : bfOpen (bfIt m fr to w (fun _ => 0) (k + 1)) hs n = 0
    · exact Or.inr e
    · left
      have h0 : ∀ x, x < n → 0 ≤ bfIt m fr to w (fun _ => 0) k x := fun x _ => bfIt_ge m fr to w k (fun _ => 0) x
      rcases Classical.em (∃ y, y < n ∧ bfIt m fr to w (fun _ => 0) k y < hs y) with ⟨y, hy, c⟩ | q
      · have := bf_less n m fr to w hf ht h0 mn hy c
        rcases ih with ih | ih
        · show bfOpen (bfPass fr to w m (bfIt m fr to w (fun _ => 0) k)) hs n + (k + 1) < n
          omega
        · omega
      · exfalso
        have hle := bfOpen_le (hs := hs) n (fun x (_ : x < n) => bfPass_ge fr to w m (bfIt m fr to w (fun _ => 0) k) x)
        rcases ih with ih | ih
        · have z : ∀ j, j ≤ n → bfOpen (bfIt m fr to w (fun _ => 0) k) hs j = 0 := by
            intro j
            induction j with
            | zero => intro _; rfl
            | succ j ihj =>
              intro hj
              unfold bfOpen
              rw [ihj (by omega), if_neg (fun c => q ⟨j, by omega, c⟩)]
          have := z n (Nat.le_refl _)
          exact e (by show bfOpen (bfPass fr to w m (bfIt m fr to w (fun _ => 0) k)) hs n = 0; omega)
        · exact e (by show bfOpen (bfPass fr to w m (bfIt m fr to w (fun _ => 0) k)) hs n = 0; omega)
/-- behind as many passes as there are rows, less one, the heights stand -/
theorem bf_done (hf : ∀ i, i < m → fr i < n) (ht : ∀ i, i < m → to i < n) {hs : Nat → Int} (mn : bfMin n m fr to w hs) (hn : 0 < n) : ∀ x, x < n → bfIt m fr to w (fun _ => 0) (n - 1) x = hs x := by
  have h := bfIt_open n m fr to w hf ht mn hn (n - 1)
  have e : bfOpen (bfIt m fr to w (fun _ => 0) (n - 1)) hs n = 0 := by rcases h with h | h <;> omega
  intro x hx
  have h1 := bfOpen_0 n e x hx
  have h2 := bfIt_le n m fr to w hf ht mn.1.2 (h := fun _ => 0) (fun y hy => mn.1.1 y hy) (n - 1) x hx
  omega
/-- a pass that changes nothing: the heights stand -/
theorem bf_fix (hf : ∀ i, i < m → fr i < n) (ht : ∀ i, i < m → to i < n) (k : Nat) (ok : bfOk m fr to w (bfIt m fr to w (fun _ => 0) k)) : bfMin n m fr to w (bfIt m fr to w (fun _ => 0) k) :=
  ⟨⟨fun x _ => bfIt_ge m fr to w k (fun _ => 0) x, ok⟩, fun h' s' x hx => bfIt_le n m fr to w hf ht s'.2 (h := fun _ => 0) (fun y hy => s'.1 y hy) k x hx⟩
end BF
