/-! The start is a start of the claim, the claim falls there, and so the owed statement is false -/
theorem rf_code : (Cond.code x code maxLocals ret).before start1.args0 rf_s = true := su_hand_word (m := ⟨0, 0⟩) (by decide +kernel) rfl (by decide +kernel) (by decide +kernel)
theorem rf_words : ∀ c ∈ (Cond.code x code maxLocals ret :: tables_1), c.before start1.args0 rf_s = true := by
  intro c hc
  have hall : tables_1.all rf_has = true := by
    show (tables_1_1 ++ (tables_1_2 ++ (tables_1_3 ++ (tables_1_4 ++ tables_1_5)))).all rf_has = true
    rw [List.all_append, List.all_append, List.all_append, List.all_append, rf_w1, rf_w2, rf_w3, rf_w4, rf_w5]; rfl
  have hsame : tables_1.all rf_same = true := by
    show (tables_1_1 ++ (tables_1_2 ++ (tables_1_3 ++ (tables_1_4 ++ tables_1_5)))).all rf_same = true
    rw [List.all_append, List.all_append, List.all_append, List.all_append, rf_v1, rf_v2, rf_v3, rf_v4, rf_v5]; rfl
  rcases List.mem_cons.mp hc with h | h
  · rw [h]; exact rf_code
  · have h1 := List.all_eq_true.mp hall c h
    cases hq : su_isCode c with
    | false => rw [rf_has, hq, Bool.false_or] at h1; exact h1
    | true => exact rf_move hq (start1.words c hc) (List.all_eq_true.mp hsame c h)
theorem rf_atStart : AtStart classFile x code maxLocals ret World_1 tables_1 room_1 Calls_1 rest_1 Pre_1 launch0 start1.p0 start1.e0 rf_s ⟨0, 0⟩ start1.args0 Lib.HandBits.below0 :=
  ⟨lists_1, trivial, launch0.admits_env _ _ _, launch0.least_env, fairChoices_fair.cas, fairChoices_fair.clock, rfl, rf_args, rf_fits,
    (Spec.applies_iff rfl).mpr ⟨rfl, rfl, rfl, by decide +kernel, by decide +kernel, by decide +kernel, launch0.hasRoom_least _ room_1 (by decide +kernel) (by decide +kernel) (by decide +kernel) (by decide +kernel) (by decide +kernel) (by decide +kernel), atoms_intro rf_words⟩,
    trivial, (show rest_1_c.before start1.args0 rf_s = true from rf_rest), (show (Cond.and given_1 narrow_1).before start1.args0 rf_s = true from rf_pre)⟩
theorem rf_not_framed {s t : State} {a : Addr} {L : List Loc} {k n : Nat} : ¬ Framed s (.threw a) t L k n := fun h => by
  obtain ⟨⟨v, hv⟩, -⟩ := h
  cases hv
theorem rf_refuted_1 : RefutedClaimed_1_1 := by
  obtain ⟨h1, h2, a, h3⟩ := rf_go_ends 65 rf_s rf_run
  exact ⟨launch0, start1.p0, start1.e0, rf_s, ⟨0, 0⟩, start1.args0, Lib.HandBits.below0, rfl, rf_atStart, 65, .threw a, h1, h2, h3, fun h => rf_not_framed h.2⟩
theorem rf_refuted_2 : RefutedClaimed_1_2 := by
  obtain ⟨h1, h2, a, h3⟩ := rf_go_ends 65 rf_s rf_run
  exact ⟨launch0, start1.p0, start1.e0, rf_s, ⟨0, 0⟩, start1.args0, Lib.HandBits.below0, rfl, rf_atStart, 65, .threw a, h1, h2, h3, fun h => rf_not_framed h.2⟩
theorem rf_not_1 : ¬ Claimed_1_1 := by
  intro hC
  obtain ⟨h1, h2, a, h3⟩ := rf_go_ends 65 rf_s rf_run
  obtain ⟨l1, l2, l3, l4, l5, l6, l7, l8, l9, l10, l11, l12, l13⟩ := rf_atStart
  obtain ⟨n, o, k1, k2, k3, k4⟩ := hC launch0 rfl l1 l2 start1.p0 start1.e0 l3 l5 l6 rf_s ⟨0, 0⟩ start1.args0 Lib.HandBits.below0 l7 l8 l9 l10 ⟨l11, l12, l13⟩
  have hn : n = 65 := by
    rcases Nat.lt_trichotomy n 65 with h | h | h
    · exact absurd (h1 n h) (Ended.not_within k3)
    · exact h
    · exact absurd (k1 65 h) (Ended.not_within h3)
  subst hn
  have ho : o = .threw a := Ended.outcome_unique k3 h3
  subst ho
  exact rf_not_framed k4.2
theorem rf_owed_false : ¬ (Claimed_1_1 ∧ Claimed_1_2) := fun h => rf_not_1 h.1
