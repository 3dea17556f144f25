theorem zz_ended {s : State} {o : Outcome} (h : Ended s Lib.HandBits.below0 o) : zz_ok s = false := by
  cases o with
  | threw a =>
    have h : s.frames = .throwing a :: Lib.HandBits.below0 := h
    unfold zz_ok
    rw [h]
  | returned v =>
    have h : s.frames.length = 1 ∧ ∀ a r, s.frames ≠ .throwing a :: r := by
      have h' : s.frames = .native { method := ⟨0, 0⟩, args := #[], awaiting := false, answer := some (.returned v) } :: [] := h
      rw [h']
      exact ⟨rfl, fun a r z => by cases z⟩
    unfold zz_ok
    cases hf : s.frames with
    | nil => rfl
    | cons x t =>
      rw [hf] at h
      cases x <;> first | rfl | (show decide (1 < _) = false; exact decide_eq_false (by have := h.1; omega))
theorem zz_within {s : State} (h : Within s zz_b) : zz_ok s = true ∨ ∃ a r, s.frames = .throwing a :: r ∧ 1 < r.length := by
  obtain ⟨above, h1, h2, h3⟩ := h
  have hb : zz_b.length = 2 := by decide +kernel
  cases above with
  | nil => exact absurd rfl h2
  | cons x t =>
    have hl : s.frames.length = t.length + 3 := by rw [h1, List.length_append, List.length_cons, hb]
    cases hx : x with
    | throwing a =>
      refine Or.inr ⟨a, t ++ zz_b, by rw [h1, hx]; rfl, ?_⟩
      rw [List.length_append, hb]
      omega
    | _ =>
      refine Or.inl ?_
      unfold zz_ok
      rw [h1, hx]
      show decide (1 < _) = true
      refine decide_eq_true ?_
      rw [h1, hx, List.cons_append] at hl
      show 1 < List.length (_ :: (t ++ zz_b))
      omega
theorem zz_w_not {s : State} {o : Outcome} (h : Within s zz_b) : ¬ Ended s Lib.HandBits.below0 o := by
  intro he
  rcases zz_within h with q | ⟨a, r, q1, q2⟩
  · rw [zz_ended he] at q
    cases q
  · cases o with
    | threw a' =>
      have he : s.frames = .throwing a' :: Lib.HandBits.below0 := he
      rw [q1] at he
      injection he with e1 e2
      rw [e2] at q2
      exact absurd q2 (by decide)
    | returned v =>
      have he : s.frames = .native { method := ⟨0, 0⟩, args := #[], awaiting := false, answer := some (.returned v) } :: [] := he
      rw [q1] at he
      cases he
theorem zz_k1 : ∀ n, n < 10 → zz_ok (zz_st n) = true := by decide +kernel
theorem zz_k2 : ∀ n, n < 5 → zz_ok (stepsAlone start1.p0.tables start1.e0 n zz_T) = true := by decide +kernel
theorem zz_k3 : zz_run (stepsAlone start1.p0.tables start1.e0 5 zz_T) = false := by decide +kernel
theorem zz_stuck {tb : Tables} {e : Env} {s : State} (h : zz_run s = false) : ∀ n, stepsAlone tb e n s = s
  | 0 => rfl
  | n + 1 => by
    unfold stepsAlone
    unfold zz_run at h
    cases hs : s.status with
    | running => rw [hs] at h; cases h
    | _ => rfl
theorem zz_never (n : Nat) (o : Outcome) (hr : (stepsAlone start1.p0.tables start1.e0 n zz_S).status = .running) (he : Ended (stepsAlone start1.p0.tables start1.e0 n zz_S) Lib.HandBits.below0 o) : False := by
  obtain ⟨k, hk, wk⟩ := zz_go
  have e9 : ∀ j, stepsAlone start1.p0.tables start1.e0 (9 + j) zz_S = stepsAlone start1.p0.tables start1.e0 j zz_9 := fun j => stepsAlone_add _ _ 9 j zz_S
  have eT : ∀ j, stepsAlone start1.p0.tables start1.e0 (9 + (k + j)) zz_S = stepsAlone start1.p0.tables start1.e0 j zz_T := fun j => by rw [e9, stepsAlone_add, hk]
  rcases Nat.lt_or_ge n 10 with q | q
  · have := zz_k1 n q
    rw [show zz_st n = stepsAlone start1.p0.tables start1.e0 n zz_S from rfl, zz_ended he] at this
    cases this
  · rcases Nat.lt_or_ge n (9 + k) with q2 | q2
    · obtain ⟨j, rfl⟩ : ∃ j, n = 9 + j := ⟨n - 9, by omega⟩
      rw [e9] at he
      exact zz_w_not (wk j (by omega)) he
    · obtain ⟨j, rfl⟩ : ∃ j, n = 9 + (k + j) := ⟨n - 9 - k, by omega⟩
      rw [eT] at he hr
      rcases Nat.lt_or_ge j 5 with q3 | q3
      · have := zz_k2 j q3
        rw [zz_ended he] at this
        cases this
      · obtain ⟨i, rfl⟩ : ∃ i, j = 5 + i := ⟨j - 5, by omega⟩
        rw [stepsAlone_add, zz_stuck zz_k3] at hr
        have := zz_k3
        unfold zz_run at this
        rw [hr] at this
        cases this
