def gm_clB : Bool := (List.range gm_cl.length).all fun t => match gm_cl[t]? with
  | some q => (u_ws q.1 q.2.1 q.2.2).all (fun w => decide (w ∈ lw_tbl) && gm_keep w) && (List.range q.2.2).all (fun k => decide (parseFieldDescriptor (q.2.1 k).2.2.1 = some (gm_fty t k)) && decide (defaultValue (gm_fty t k) = gm_zero (gm_kd t k))) && (List.range q.2.2).all (fun a => (List.range q.2.2).all fun b => a == b || (q.2.1 a).2.1 != (q.2.1 b).2.1)
  | none => true
theorem gm_clBt : gm_clB = true := by decide +kernel
theorem gm_clOK {t N : Nat} {C : String} {T : u_T} (h : gm_cl[t]? = some (C, T, N)) : (∀ w ∈ u_ws C T N, w ∈ gm_tb) ∧ (∀ k, k < N → parseFieldDescriptor (T k).2.2.1 = some (gm_fty t k)) ∧ (∀ a, a < N → ∀ b, b < N → a ≠ b → (T a).2.1 ≠ (T b).2.1) ∧ (∀ k, k < N → defaultValue (gm_fty t k) = gm_zero (gm_kd t k)) := by
  have hlt : t < gm_cl.length := (List.getElem?_eq_some_iff.mp h).1
  have h1 := List.all_eq_true.mp gm_clBt t (List.mem_range.mpr hlt)
  rw [h] at h1
  simp only [Bool.and_eq_true] at h1
  obtain ⟨⟨h2, h3⟩, h4⟩ := h1
  refine ⟨fun w hw => ?_, fun k hk => ?_, fun a ha b hb hne => ?_, fun k hk => ?_⟩
  · have h5 := List.all_eq_true.mp h2 w hw
    simp only [Bool.and_eq_true, decide_eq_true_eq] at h5
    exact gm_in h5.1 h5.2
  · have h5 := List.all_eq_true.mp h3 k (List.mem_range.mpr hk)
    simp only [Bool.and_eq_true, decide_eq_true_eq] at h5
    exact h5.1
  · have h5 := List.all_eq_true.mp (List.all_eq_true.mp h4 a (List.mem_range.mpr ha)) b (List.mem_range.mpr hb)
    simp only [Bool.or_eq_true, beq_iff_eq, bne_iff_ne] at h5
    exact h5.resolve_left hne
  · have h5 := List.all_eq_true.mp h3 k (List.mem_range.mpr hk)
    simp only [Bool.and_eq_true, decide_eq_true_eq] at h5
    exact h5.2
