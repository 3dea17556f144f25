theorem zz_ended {s : State} {o : Outcome} (h : Ended s Lib.HandBits.below0 o) : zz_ok s = false := by
  cases o with
  | threw a =>
    have h : s.frames = .throwing a :: Lib.HandBits.below0 := h
    unfold zz_ok
    rw [h]
    rfl
  | returned v =>
    have h : s.frames = .native { method := ⟨0, 0⟩, args := #[], awaiting := false, answer := some (.returned v) } :: [] := h
    unfold zz_ok
    rw [h]
    rfl
theorem zz_within {s : State} (h : Within s zz_b) : zz_ok s = true := by
  obtain ⟨above, h1, h2, h3⟩ := h
  have hb : zz_b.length = 2 := by decide +kernel
  cases above with
  | nil => exact absurd rfl h2
  | cons x t =>
    have hl : (t ++ zz_b).length = t.length + 2 := by rw [List.length_append, hb]
    unfold zz_ok
    rw [h1, List.cons_append]
    cases x <;> first | exact decide_eq_true (by omega) | exact decide_eq_true (by show 1 < (t ++ zz_b).length + 1; omega)
theorem zz_k1 : ∀ n, n < 10 → zz_ok (zz_st n) = true := by decide +kernel
theorem zz_k2 : ∀ n, n < 9 → zz_ok (stepsAlone start1.p0.tables start1.e0 n zz_T) = true := by decide +kernel
/-- the end: the exception has left the law -/
def zz_endB (s : State) : Bool := decide (s.status = .running) && match s.frames with
  | [.throwing a, .native f] => decide (a = 6) && decide (f.method = ⟨0, 0⟩) && decide (f.args = #[]) && decide (f.stage = 0) && decide (f.saved = #[]) && !f.awaiting && f.answer.isNone && f.locked.isNone && decide (f.words = 0)
  | _ => false
theorem zz_k3 : zz_endB (stepsAlone start1.p0.tables start1.e0 9 zz_T) = true := by decide +kernel
theorem zz_endS {s : State} (h : zz_endB s = true) : s.status = .running ∧ s.frames = .throwing 6 :: Lib.HandBits.below0 := by
  unfold zz_endB at h
  rw [Bool.and_eq_true] at h
  obtain ⟨h1, h2⟩ := h
  refine ⟨of_decide_eq_true h1, ?_⟩
  split at h2
  · rename_i a f hf
    rw [hf]
    obtain ⟨m, ar, sta, sav, aw, an, lo, wo⟩ := f
    simp only [Bool.and_eq_true, decide_eq_true_eq, Bool.not_eq_true', Option.isNone_iff_eq_none] at h2
    obtain ⟨⟨⟨⟨⟨⟨⟨⟨e1, e2⟩, e3⟩, e4⟩, e5⟩, e6⟩, e7⟩, e8⟩, e9⟩ := h2
    subst e1 e2 e3 e4 e5 e6 e7 e8 e9
    rfl
  · cases h2
theorem zz_N : ∃ N, (∀ n, n < N → zz_ok (stepsAlone start1.p0.tables start1.e0 n zz_S) = true) ∧ (stepsAlone start1.p0.tables start1.e0 N zz_S).status = .running ∧ (stepsAlone start1.p0.tables start1.e0 N zz_S).frames = .throwing 6 :: Lib.HandBits.below0 := by
  obtain ⟨k, hk, wk⟩ := zz_go
  have e9 : ∀ j, stepsAlone start1.p0.tables start1.e0 (9 + j) zz_S = stepsAlone start1.p0.tables start1.e0 j zz_9 := fun j => stepsAlone_add _ _ 9 j zz_S
  have eT : ∀ j, stepsAlone start1.p0.tables start1.e0 (9 + (k + j)) zz_S = stepsAlone start1.p0.tables start1.e0 j zz_T := fun j => by rw [e9, stepsAlone_add, hk]
  refine ⟨9 + (k + 9), fun n hn => ?_, ?_⟩
  · rcases Nat.lt_or_ge n 10 with q | q
    · exact zz_k1 n q
    · rcases Nat.lt_or_ge n (9 + k) with q2 | q2
      · obtain ⟨j, rfl⟩ : ∃ j, n = 9 + j := ⟨n - 9, by omega⟩
        rw [e9]
        exact zz_within (wk j (by omega))
      · obtain ⟨j, rfl⟩ : ∃ j, n = 9 + (k + j) := ⟨n - 9 - k, by omega⟩
        rw [eT]
        exact zz_k2 j (by omega)
  · rw [eT]
    exact zz_endS zz_k3
