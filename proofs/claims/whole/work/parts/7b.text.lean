/-! WHAT A TEXT MAKES, and the class's text -/
def zByT (ty : Nat → Int32) (n i : Nat) : Int32 := if i < n then ty i &&& 255 else -1
def zR0 : zRec := (0, 43, -1, -1, 0, 0, 48, 0, 48, 0)
def zRcL (l : List (Nat × zRec)) (x : Nat) : zRec := match l[x]? with
  | some y => y.2
  | none => zR0
abbrev sgT (by' : Nat → Int32) (n k : Nat) : Int32 := zSg by' n k
abbrev vlT (by' : Nat → Int32) (n k : Nat) : Int32 := nI (zVl by' n k)
abbrev plT (by' : Nat → Int32) (n k : Nat) : Int32 := nI (zPl by' n k)
/-- the answer, the reason, how many rows, the rows -/
def zTxt (by' : Nat → Int32) (n : Nat) : Int32 × Int32 × Nat × (Nat → zRec) := match zPrs (sgT by' n) (vlT by' n) 48 0 0 with
  | .inr k => (plT by' n k, 1, 0, fun _ => zR0)
  | .inl l => match zTw (zTgt l) l.length with
    | some x => (plT by' n (zKs l x), 2, 0, fun _ => zR0)
    | none => (-1, 0, l.length, zRcL l)
theorem zTgt_rc (l : List (Nat × zRec)) : zTgt l = fun x => (zRcL l x).2.2.1 := by
  funext x
  unfold zTgt zRcL
  cases l[x]? with
  | some y => rfl
  | none => rfl
theorem zSet_hit {tg : Nat → Int32} {r x : Nat} (e : tg x = nI r) : ∀ n, x < n → n ≤ 48 → 0 ≤ zSet tg n r
  | 0, h, _ => absurd h (by omega)
  | n + 1, h, hn => by
    unfold zSet
    by_cases q : tg n = nI r
    · rw [if_pos q, show (0 : Int32) = nI 0 from rfl, nI_leI (by omega) (by omega)]
      omega
    · rw [if_neg q]
      refine zSet_hit e n ?_ (by omega)
      rcases Nat.lt_or_ge x n with g | g
      · exact g
      · have : x = n := by omega
        subst this
        exact absurd e q
theorem zTw_none {tg : Nat → Int32} (ok : ∀ x, 0 ≤ tg x → ∃ r : Nat, r < 32 ∧ tg x = nI r) : ∀ n, n ≤ 48 → zTw tg n = none → ∀ x x', x < x' → x' < n → 0 ≤ tg x → tg x = tg x' → False
  | 0, _, _, _, _, _, h, _, _ => absurd h (by omega)
  | n + 1, hn, e, x, x', h1, h2, h3, h4 => by
    unfold zTw at e
    cases hz : zTw tg n with
    | some y =>
      rw [hz] at e
      cases e
    | none =>
      rw [hz] at e
      simp only at e
      rcases Nat.lt_or_ge x' n with g | g
      · exact zTw_none ok n (by omega) hz x x' h1 g h3 h4
      · have : x' = n := by omega
        subst this
        obtain ⟨r, hr, er⟩ := ok x h3
        rw [← h4, er, nI_clamp (by omega), if_pos ⟨er ▸ h3, zSet_hit er _ h1 (by omega)⟩] at e
        cases e
theorem zTxt_uq {by' : Nat → Int32} {n : Nat} {l : List (Nat × zRec)} (e : zPrs (sgT by' n) (vlT by' n) 48 0 0 = .inl l) (ht : zTw (zTgt l) l.length = none) : (l.length ≤ 48 ∧ 0 < l.length) ∧ (∀ x, x < l.length → ∃ y, l[x]? = some y ∧ zRcL l x = y.2 ∧ zRecOk y.2) ∧ zUq l.length (zRcL l) := by
  have tk : zTkOk (sgT by' n) (vlT by' n) := by
    intro k
    obtain ⟨h1, h2, h3⟩ := zTok_ok by' (n - zPl by' n k) (zPl by' n k)
    exact ⟨fun h => ⟨_, h1 h, rfl⟩, fun h => ⟨_, h2 h, rfl⟩, fun h => ⟨_, h3 h, rfl⟩⟩
  obtain ⟨o1, o2, o3⟩ := zPrs_ok tk 48 0 0 l e
  have row : ∀ x, x < l.length → ∃ y, l[x]? = some y ∧ zRcL l x = y.2 ∧ zRecOk y.2 := fun x hx => by
    refine ⟨l[x], List.getElem?_eq_getElem hx, ?_, o1 _ (List.getElem_mem hx)⟩
    unfold zRcL
    rw [List.getElem?_eq_getElem hx]
  refine ⟨⟨o2, o3 rfl (by omega)⟩, row, fun x x' hx hx' h0 he => ?_⟩
  rw [zTgt_rc] at ht
  have ok : ∀ x, 0 ≤ (zRcL l x).2.2.1 → ∃ r : Nat, r < 32 ∧ (zRcL l x).2.2.1 = nI r := fun x h => by
    rcases Nat.lt_or_ge x l.length with g | g
    · obtain ⟨y, y1, y2, y3⟩ := row x g
      rw [y2] at h ⊢
      by_cases q : y.2.1 = 3
      · rw [y3.2.1 q] at h
        exact absurd h (by decide)
      · exact y3.2.2.1 q
    · unfold zRcL at h
      rw [List.getElem?_eq_none g] at h
      exact absurd h (by decide)
  rcases Nat.lt_trichotomy x x' with g | g | g
  · exact (zTw_none ok _ o2 ht x x' g hx' h0 he).elim
  · exact g
  · exact (zTw_none ok _ o2 ht x' x g hx (he ▸ h0) he.symm).elim
section CLS
variable (G : zG) (r : Bool) (ad ln : Nat → Nat) (al : Nat → Nat → Int32) {cap : Nat} {wk lk : Bool} {len : Nat} {ty : Nat → Int32} {st : Nat → Nat} {bg : Nat → Int32} {n : Nat} {rc : Nat → zRec} {re : Int32} {D : Nat} {ran : Bool} {rg ce : Nat → Int32}
theorem c_text (h : zIC r al ln cap wk lk len ty st bg n rc re D ran rg ce) : zMi G yX9_text wsX9_text rmX9_text (zTC r) ad ln [.ref (ad 0)] al (fun q a => q = (zTxt (zByT ty len) len).1 ∧ zIC r a ln cap false false 0 ty st bg (zTxt (zByT ty len) len).2.2.1 (zTxt (zByT ty len) len).2.2.2 (zTxt (zByT ty len) len).2.1 0 false rg ce) := by
  refine zMi.of (cc := cX9_text) (nL := 2) (rt := .int) (by decide) rfl (Nat.le_of_ble_eq_true rfl) (fun Z X hR => ?_)
  refine tX9_text_0 X hR al ?_
  unfold vcX9_text_0
  obtain ⟨⟨h1, hl, ht⟩, ⟨c1, c2, c3, c4, c5⟩, g3, g4, ⟨L, g5⟩, -⟩ := h
  refine (c_forgetPlan G r ad ln _).mono (fun a1 hq => ?_)
  have f1 : zFr [0] al a1 := by rw [hq]; exact ((((zFr.rf.up (by decide) _ _).up (by decide) _ _).up (by decide) _ _).up (by decide) _ _).up (by decide) _ _
  have e1 : a1 0 1 = 0 ∧ a1 0 11 = 0 ∧ a1 0 12 = 0 ∧ a1 0 13 = 0 ∧ a1 0 14 = 0 := by
    rw [hq]
    exact ⟨rfl, rfl, rfl, rfl, rfl⟩
  clear hq
  rw [h1]
  refine (c_readText G r ad ln a1 hl).mono (fun q2 a2 hq2 => ?_)
  have eB : zBy a1 len = zByT ty len := by
    funext i
    unfold zBy zByT
    by_cases q : i < len
    · rw [if_pos q, if_pos q, f1 1 (by decide), (ht i q).1]
    · rw [if_neg q, if_neg q]
  unfold zTxPost sgF vlF plF at hq2
  rw [eB] at hq2
  obtain ⟨f2, hq2⟩ := hq2
  generalize hA : up2 a2 0 10 q2 = A
  have f3 : zFr [0] a2 A := by rw [← hA]; exact zFr.rf.up (by decide) _ _
  have a0 : ∀ j, j ≠ 10 → A 0 j = a1 0 j := fun j hj => by rw [← hA, up2_ne _ _ (fun z => hj z.2), f2 0 (by decide)]
  have a10 : A 0 10 = q2 := by rw [← hA, up2_self]
  have kp : ∀ k, 1 ≤ k → k < 4 ∨ k = 12 ∨ k = 13 ∨ k = 14 ∨ k = 15 ∨ k = 16 → k ∉ zLT → A k = al k := fun k k0 k1 k2 => by
    rw [f3 k (by simp; omega), f2 k k2, f1 k (by simp; omega)]
  have fin : ∀ (n' : Nat) (rc' : Nat → zRec) (re' : Int32), q2 = re' → zRws A n' rc' → (0 < n' → ∀ j, j < 32 → A 6 j = zSv n' rc' j) → zUq n' rc' → zIC r A ln cap false false 0 ty st bg n' rc' re' 0 false rg ce := by
    intro n' rc' re' hre hr hs hu
    refine ⟨⟨?_, by omega, fun j hj => absurd hj (by omega)⟩, ⟨hr, ?_, c3, hs, hu⟩, ?_, ⟨by rw [a10]; exact hre, ?_, ?_, ?_, ?_⟩, ⟨L, g5.fr ?_ (kp 13 (by omega) (by omega) (by decide)) (kp 14 (by omega) (by omega) (by decide)) (kp 15 (by omega) (by omega) (by decide)) (kp 16 (by omega) (by omega) (by decide))⟩, (fun w => by cases w), ⟨(fun w => by cases w), fun _ => rfl⟩, fun d => absurd rfl d, (fun w => by cases w)⟩
    · rw [a0 1 (by decide)]; exact e1.1
    · rw [kp 2 (by omega) (by omega) (by decide)]; exact c2
    · rw [kp 3 (by omega) (by omega) (by decide)]; exact g3
    · rw [a0 11 (by decide)]; exact e1.2.1
    · rw [a0 12 (by decide)]; exact e1.2.2.1
    · rw [a0 13 (by decide)]; exact e1.2.2.2.1
    · rw [a0 14 (by decide)]; exact e1.2.2.2.2
    · rw [kp 12 (by omega) (by omega) (by decide)]
  have a3 : A 4 = a2 4 := f3 4 (by decide)
  have none' : a2 4 1 = 0 → zRws A 0 (fun _ => zR0) := fun z => ⟨by rw [a3]; exact z, by omega, fun x hx => absurd hx (by omega)⟩
  have sv0 : 0 < 0 → ∀ j, j < 32 → A 6 j = zSv 0 (fun _ => zR0) j := fun z => absurd z (by omega)
  have uq0 : zUq 0 (fun _ => zR0) := fun x _ hx => absurd hx (by omega)
  unfold zTxt sgT vlT plT
  cases hp : zPrs (fun k => zSg (zByT ty len) len k) (fun k => nI (zVl (zByT ty len) len k)) 48 0 0 with
  | inr k =>
    rw [hp] at hq2
    obtain ⟨z1, z2, z3⟩ := hq2
    exact ⟨z2, fin _ _ _ z1 (none' z3) sv0 uq0⟩
  | inl l =>
    rw [hp] at hq2
    simp only at hq2 ⊢
    cases hw : zTw (zTgt l) l.length with
    | some x =>
      rw [hw] at hq2
      obtain ⟨z1, z2, z3⟩ := hq2
      exact ⟨z2, fin _ _ _ z1 (none' z3) sv0 uq0⟩
    | none =>
      rw [hw] at hq2
      obtain ⟨z1, z2, z3, z4, z5⟩ := hq2
      obtain ⟨o1, o2, o3⟩ := zTxt_uq (by' := zByT ty len) (n := len) hp hw
      refine ⟨z2, fin _ _ _ z1 ⟨by rw [a3]; exact z3, o1.1, fun x hx => ?_⟩ (fun _ j hj => ?_) o3⟩
      · obtain ⟨y, y1, y2, y3⟩ := o2 x hx
        show (∃ p, zRowAt A x p (zRcL l x)) ∧ zRecOk (zRcL l x)
        rw [y2]
        refine ⟨⟨_, zRowAt_cells (z4 x y y1) (f3 _ ?_) (f3 _ ?_) (f3 _ ?_)⟩, y3⟩ <;> simp <;> omega
      · rw [f3 6 (by decide), z5 j hj, zTgt_rc]
        rfl
end CLS
