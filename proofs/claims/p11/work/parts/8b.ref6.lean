theorem zz_all : ∀ c ∈ (Cond.code x code maxLocals ret :: tables_1), c.before start1.args0 zz_S = true := by
  intro c hc
  have hw := start1.words
  rcases List.mem_cons.mp hc with h | h
  · rw [h]
    exact zz_codeG (s := start1.about) (C := zz_C) rfl (hw _ (List.mem_cons_self ..))
  · have hm : ∀ q ∈ tables_1, q.before start1.args0 start1.about = true := fun q hq => hw q (List.mem_cons_of_mem _ hq)
    have h1 : c ∈ tables_1_1 ++ (tables_1_2 ++ (tables_1_3 ++ (tables_1_4 ++ (tables_1_5 ++ (tables_1_6 ++ tables_1_7))))) := h
    have hm' : ∀ q, q ∈ tables_1_1 ++ (tables_1_2 ++ (tables_1_3 ++ (tables_1_4 ++ (tables_1_5 ++ (tables_1_6 ++ tables_1_7))))) → q.before start1.args0 start1.about = true := fun q hq => hm q hq
    rcases List.mem_append.mp h1 with h2 | h1
    · exact zz_words zz_w1 (fun q hq => hm' q (List.mem_append.mpr (Or.inl hq))) c h2
    rcases List.mem_append.mp h1 with h2 | h1
    · exact zz_words zz_w2 (fun q hq => hm' q (List.mem_append.mpr (Or.inr (List.mem_append.mpr (Or.inl hq))))) c h2
    rcases List.mem_append.mp h1 with h2 | h1
    · exact zz_words zz_w3 (fun q hq => hm' q (List.mem_append.mpr (Or.inr (List.mem_append.mpr (Or.inr (List.mem_append.mpr (Or.inl hq))))))) c h2
    rcases List.mem_append.mp h1 with h2 | h1
    · exact zz_words zz_w4 (fun q hq => hm' q (List.mem_append.mpr (Or.inr (List.mem_append.mpr (Or.inr (List.mem_append.mpr (Or.inr (List.mem_append.mpr (Or.inl hq))))))))) c h2
    rcases List.mem_append.mp h1 with h2 | h1
    · exact zz_words zz_w5 (fun q hq => hm' q (List.mem_append.mpr (Or.inr (List.mem_append.mpr (Or.inr (List.mem_append.mpr (Or.inr (List.mem_append.mpr (Or.inr (List.mem_append.mpr (Or.inl hq))))))))))) c h2
    rcases List.mem_append.mp h1 with h2 | h1
    · exact zz_words zz_w6 (fun q hq => hm' q (List.mem_append.mpr (Or.inr (List.mem_append.mpr (Or.inr (List.mem_append.mpr (Or.inr (List.mem_append.mpr (Or.inr (List.mem_append.mpr (Or.inr (List.mem_append.mpr (Or.inl hq))))))))))))) c h2
    exact zz_words zz_w7 (fun q hq => hm' q (List.mem_append.mpr (Or.inr (List.mem_append.mpr (Or.inr (List.mem_append.mpr (Or.inr (List.mem_append.mpr (Or.inr (List.mem_append.mpr (Or.inr (List.mem_append.mpr (Or.inr hq))))))))))))) c h1
set_option maxRecDepth 16384 in
theorem zz_at : AtStart classFile x code maxLocals ret World_1 tables_1 room_1 Calls_1 rest_1 Pre_1 launch0 start1.p0 start1.e0 zz_S ⟨0, 0⟩ start1.args0 Lib.HandBits.below0 :=
  ⟨lists_1, trivial, launch0.admits_env _ _ _, launch0.least_env, fairChoices_fair.cas, fairChoices_fair.clock, rfl, by decide +kernel, by decide +kernel,
    (Spec.applies_iff rfl).mpr ⟨rfl, rfl, rfl, by decide +kernel, by decide +kernel, by decide +kernel, launch0.hasRoom_least _ room_1 (by decide +kernel) (by decide +kernel) (by decide +kernel) (by decide +kernel) (by decide +kernel) (by decide +kernel), atoms_intro zz_all⟩,
    trivial, (show rest_1_c.before start1.args0 zz_S = true by decide +kernel), (show (Cond.and given_1 narrow_1).before start1.args0 zz_S = true by decide +kernel)⟩
/-- while it runs, the frames below lie there as they lay -/
def zz_nat (f : NFrame) : Bool := decide (f.method = ⟨0, 0⟩) && decide (f.args = #[]) && decide (f.stage = 0) && decide (f.saved = #[]) && !f.awaiting && f.answer.isNone && f.locked.isNone && decide (f.words = 0)
theorem zz_natE {f : NFrame} (h : zz_nat f = true) : [Frame.native f] = Lib.HandBits.below0 := by
  unfold zz_nat at h
  obtain ⟨m, ar, sta, sav, aw, an, lo, wo⟩ := f
  simp only [Bool.and_eq_true, decide_eq_true_eq, Bool.not_eq_true', Option.isNone_iff_eq_none] at h
  obtain ⟨⟨⟨⟨⟨⟨⟨e2, e3⟩, e4⟩, e5⟩, e6⟩, e7⟩, e8⟩, e9⟩ := h
  subst e2 e3 e4 e5 e6 e7 e8 e9
  rfl
def zz_inB (fs : List Frame) : Bool := match fs.reverse with
  | .native f :: _ :: _ :: _ => zz_nat f
  | [.native f, .throwing _] => false && zz_nat f
  | [.native f, _] => zz_nat f
  | _ => false
theorem zz_inW {fs : List Frame} (h : zz_inB fs = true) : ∃ above, fs = above ++ Lib.HandBits.below0 ∧ above ≠ [] ∧ ∀ a, above ≠ [.throwing a] := by
  unfold zz_inB at h
  split at h
  · rename_i f x y r hf
    have e : fs = (x :: y :: r).reverse ++ [.native f] := by rw [← List.reverse_reverse fs, hf, List.reverse_cons]
    refine ⟨(x :: y :: r).reverse, by rw [← zz_natE h]; exact e, fun z => ?_, fun a z => ?_⟩
    · have := congrArg List.length z
      simp at this
    · have := congrArg List.length z
      simp at this
  · cases h
  · rename_i f x hx hf
    have e : fs = [x] ++ [.native f] := by rw [← List.reverse_reverse fs, hf, List.reverse_cons]; rfl
    refine ⟨[x], by rw [← zz_natE h]; exact e, (fun z => by cases z), fun a z => ?_⟩
    injection z with z1 z2
    exact hx a z1
  · cases h
theorem zz_j1 : ∀ n, n < 10 → zz_inB (zz_st n).frames = true := by decide +kernel
theorem zz_j2 : ∀ n, n < 9 → zz_inB (stepsAlone start1.p0.tables start1.e0 n zz_T).frames = true := by decide +kernel
theorem zz_j3 : zz_inB zz_b = true := by decide +kernel
theorem zz_M : ∃ N, (∀ n, n < N → Within (stepsAlone start1.p0.tables start1.e0 n zz_S) Lib.HandBits.below0) ∧ (stepsAlone start1.p0.tables start1.e0 N zz_S).status = .running ∧ (stepsAlone start1.p0.tables start1.e0 N zz_S).frames = .throwing 6 :: Lib.HandBits.below0 := by
  obtain ⟨k, hk, wk⟩ := zz_go
  have e9 : ∀ j, stepsAlone start1.p0.tables start1.e0 (9 + j) zz_S = stepsAlone start1.p0.tables start1.e0 j zz_9 := fun j => stepsAlone_add _ _ 9 j zz_S
  have eT : ∀ j, stepsAlone start1.p0.tables start1.e0 (9 + (k + j)) zz_S = stepsAlone start1.p0.tables start1.e0 j zz_T := fun j => by rw [e9, stepsAlone_add, hk]
  refine ⟨9 + (k + 9), fun n hn => ?_, ?_⟩
  · rcases Nat.lt_or_ge n 10 with q | q
    · exact zz_inW (zz_j1 n q)
    · rcases Nat.lt_or_ge n (9 + k) with q2 | q2
      · obtain ⟨j, rfl⟩ : ∃ j, n = 9 + j := ⟨n - 9, by omega⟩
        rw [e9]
        obtain ⟨above, a1, a2, a3⟩ := wk j (by omega)
        obtain ⟨ab, b1, b2, b3⟩ := zz_inW zz_j3
        refine ⟨above ++ ab, by rw [a1, b1, List.append_assoc], fun z => a2 (List.append_eq_nil_iff.mp z).1, fun a z => ?_⟩
        have := congrArg List.length z
        rw [List.length_append] at this
        have l1 : 0 < above.length := List.length_pos_iff.mpr a2
        have l2 : 0 < ab.length := List.length_pos_iff.mpr b2
        simp at this
        omega
      · obtain ⟨j, rfl⟩ : ∃ j, n = 9 + (k + j) := ⟨n - 9 - k, by omega⟩
        rw [eT]
        exact zz_inW (zz_j2 j (by omega))
  · rw [eT]
    exact zz_endS zz_k3
/-- the first part of the claim falls: the law ends there with a throw -/
theorem zz_falls1 : RefutedClaimed_1_1 := by
  obtain ⟨N, h0, h1, h2⟩ := zz_M
  refine ⟨launch0, start1.p0, start1.e0, zz_S, ⟨0, 0⟩, start1.args0, Lib.HandBits.below0, rfl, zz_at, N, .threw 6, h0, h1, h2, fun h => ?_⟩
  have h := h.1
  exact Bool.false_ne_true h
/-- and so does the second -/
theorem zz_falls2 : RefutedClaimed_1_2 := by
  obtain ⟨N, h0, h1, h2⟩ := zz_M
  refine ⟨launch0, start1.p0, start1.e0, zz_S, ⟨0, 0⟩, start1.args0, Lib.HandBits.below0, rfl, zz_at, N, .threw 6, h0, h1, h2, fun h => ?_⟩
  have h := h.1
  exact Bool.false_ne_true h
/-- the claim, as it is written, is false -/
theorem zz_false : ¬ Claimed_1_1 := by
  intro h
  obtain ⟨g1, g2, g3, -, g5, g6, g7, g8, g9, g10, g11, g12, g13⟩ := zz_at
  obtain ⟨n, o, hw, hr, he, hp⟩ := h launch0 rfl g1 g2 start1.p0 start1.e0 g3 g5 g6 zz_S ⟨0, 0⟩ start1.args0 Lib.HandBits.below0 g7 g8 g9 g10 ⟨g11, g12, g13⟩
  obtain ⟨N, n1, n2, n3⟩ := zz_N
  rcases Nat.lt_trichotomy n N with q | q | q
  · have := n1 n q
    rw [zz_ended he] at this
    cases this
  · subst q
    cases o with
    | threw a => exact Bool.false_ne_true hp.1
    | returned v =>
      have he : (stepsAlone start1.p0.tables start1.e0 n zz_S).frames = .native { method := ⟨0, 0⟩, args := #[], awaiting := false, answer := some (.returned v) } :: [] := he
      rw [n3] at he
      cases he
  · obtain ⟨above, w1, w2, w3⟩ := hw N q
    rw [n3] at w1
    have w4 : ([.throwing 6] : List Frame) = above := List.append_cancel_right (w1 : [.throwing 6] ++ Lib.HandBits.below0 = above ++ Lib.HandBits.below0)
    exact w3 6 w4.symm
