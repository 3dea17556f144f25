theorem zz_all : ∀ c ∈ (Cond.code x code maxLocals ret :: tables_1), c.before start1.args0 zz_S = true := by
  intro c hc
  have hw := start1.words
  rcases List.mem_cons.mp hc with h | h
  · rw [h]
    exact zz_codeG (s := start1.about) (C := zz_C) rfl (hw _ (List.mem_cons_self ..))
  · have hm : ∀ q ∈ tables_1, q.before start1.args0 start1.about = true := fun q hq => hw q (List.mem_cons_of_mem _ hq)
    have h1 : c ∈ tables_1_1 ++ (tables_1_2 ++ (tables_1_3 ++ (tables_1_4 ++ (tables_1_5 ++ (tables_1_6 ++ tables_1_7))))) := h
    have hm' : ∀ q, q ∈ tables_1_1 ++ (tables_1_2 ++ (tables_1_3 ++ (tables_1_4 ++ (tables_1_5 ++ (tables_1_6 ++ tables_1_7))))) → q.before start1.args0 start1.about = true := fun q hq => hm q hq
    rcases List.mem_append.mp h1 with h2 | h1
    · exact zz_words zz_w1 (fun q hq => hm' q (List.mem_append.mpr (Or.inl hq))) c h2
    rcases List.mem_append.mp h1 with h2 | h1
    · exact zz_words zz_w2 (fun q hq => hm' q (List.mem_append.mpr (Or.inr (List.mem_append.mpr (Or.inl hq))))) c h2
    rcases List.mem_append.mp h1 with h2 | h1
    · exact zz_words zz_w3 (fun q hq => hm' q (List.mem_append.mpr (Or.inr (List.mem_append.mpr (Or.inr (List.mem_append.mpr (Or.inl hq))))))) c h2
    rcases List.mem_append.mp h1 with h2 | h1
    · exact zz_words zz_w4 (fun q hq => hm' q (List.mem_append.mpr (Or.inr (List.mem_append.mpr (Or.inr (List.mem_append.mpr (Or.inr (List.mem_append.mpr (Or.inl hq))))))))) c h2
    rcases List.mem_append.mp h1 with h2 | h1
    · exact zz_words zz_w5 (fun q hq => hm' q (List.mem_append.mpr (Or.inr (List.mem_append.mpr (Or.inr (List.mem_append.mpr (Or.inr (List.mem_append.mpr (Or.inr (List.mem_append.mpr (Or.inl hq))))))))))) c h2
    rcases List.mem_append.mp h1 with h2 | h1
    · exact zz_words zz_w6 (fun q hq => hm' q (List.mem_append.mpr (Or.inr (List.mem_append.mpr (Or.inr (List.mem_append.mpr (Or.inr (List.mem_append.mpr (Or.inr (List.mem_append.mpr (Or.inr (List.mem_append.mpr (Or.inl hq))))))))))))) c h2
    exact zz_words zz_w7 (fun q hq => hm' q (List.mem_append.mpr (Or.inr (List.mem_append.mpr (Or.inr (List.mem_append.mpr (Or.inr (List.mem_append.mpr (Or.inr (List.mem_append.mpr (Or.inr (List.mem_append.mpr (Or.inr hq))))))))))))) c h1
set_option maxRecDepth 16384 in
theorem zz_at : AtStart classFile x code maxLocals ret World_1 tables_1 room_1 Calls_1 rest_1 Pre_1 launch0 start1.p0 start1.e0 zz_S ⟨0, 0⟩ start1.args0 Lib.HandBits.below0 :=
  ⟨lists_1, trivial, launch0.admits_env _ _ _, launch0.least_env, fairChoices_fair.cas, fairChoices_fair.clock, rfl, by decide +kernel, by decide +kernel,
    (Spec.applies_iff rfl).mpr ⟨rfl, rfl, rfl, by decide +kernel, by decide +kernel, by decide +kernel, launch0.hasRoom_least _ room_1 (by decide +kernel) (by decide +kernel) (by decide +kernel) (by decide +kernel) (by decide +kernel) (by decide +kernel), atoms_intro zz_all⟩,
    trivial, (show rest_1_c.before start1.args0 zz_S = true by decide +kernel), (show (Cond.and given_1 narrow_1).before start1.args0 zz_S = true by decide +kernel)⟩
/-- the claim, as it is written, is false -/
theorem zz_false : ¬ Claimed_1_1 := by
  intro h
  obtain ⟨g1, g2, g3, -, g5, g6, g7, g8, g9, g10, g11, g12, g13⟩ := zz_at
  obtain ⟨n, o, -, hr, he, -⟩ := h launch0 rfl g1 g2 start1.p0 start1.e0 g3 g5 g6 zz_S ⟨0, 0⟩ start1.args0 Lib.HandBits.below0 g7 g8 g9 g10 ⟨g11, g12, g13⟩
  exact zz_never n o hr he
theorem zz_false2 : ¬ Claimed_1_2 := by
  intro h
  obtain ⟨g1, g2, g3, -, g5, g6, g7, g8, g9, g10, g11, g12, g13⟩ := zz_at
  obtain ⟨n, o, -, hr, he, -⟩ := h launch0 rfl g1 g2 start1.p0 start1.e0 g3 g5 g6 zz_S ⟨0, 0⟩ start1.args0 Lib.HandBits.below0 g7 g8 g9 g10 ⟨g11, g12, g13⟩
  exact zz_never n o hr he
