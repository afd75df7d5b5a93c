/-! What is known of the surroundings in every frame -/
def gm_keep : Cond → Bool
  | .arrayClass _ => true
  | .fieldLinkNest .. => true
  | .methodLinkNest .. => true
  | .castable .. => true
  | .declares _ => true
  | w => w.onTables && w.keeps
def gm_tb : List Cond := lw_tbl.filter gm_keep
theorem gm_in {w : Cond} (h : w ∈ lw_tbl) (hk : gm_keep w = true := by rfl) : w ∈ gm_tb := List.mem_filter.mpr ⟨h, hk⟩
theorem gm_castable_warm {s U : State} {a a' : Array Value} {C nm : String} (hW : s.WarmedH U.vm) (h : (Cond.castable C nm).before a s = true) : (Cond.castable C nm).before a' U = true := by
  obtain ⟨c, t, h1, h2, h3⟩ := Cond.castable_spec h
  have hal := hW.alike
  simp only [Cond.before, Cond.holds, Cond.value, hal.findClass, h1, h2, hal.assignable, h3]
  rfl
theorem gm_word_at {s U : State} {a a' : Array Value} (hW : s.WarmedH U.vm) {w : Cond} (hk : gm_keep w = true) (h : w.before a s = true) : w.before a' U = true := by
  cases w with
  | arrayClass ty => exact word_at hW (Or.inr ⟨ty, rfl⟩) h
  | fieldLinkNest x1 x2 x3 x4 x5 x6 => exact va_Nw.use rfl (va_Nw.warmF hW (va_Nw.of rfl h))
  | methodLinkNest x1 x2 x3 x4 => exact va_Nw.use rfl (va_Nw.warmM hW (va_Nw.of rfl h))
  | castable C nm => exact gm_castable_warm hW h
  | declares x =>
    have h1 : (Cond.declares x).before a (s.setVm U.vm) = true := by rw [Cond.declares_setVm hW.alike]; exact h
    have e := Cond.onTables_vm (A := a) (A' := a') (U := s) (U' := U) U.vm (Cond.declares x) rfl
    have hU : U.setVm U.vm = U := rfl
    rw [hU] at e
    rw [← e]
    exact h1
  | _ => exact word_at hW (Or.inl hk) h
theorem gm_words {s U : State} {a a' : Array Value} (hW : s.WarmedH U.vm) (h : ∀ w ∈ gm_tb, w.before a s = true) : ∀ w ∈ gm_tb, w.before a' U = true :=
  fun w hw => gm_word_at hW (List.mem_filter.mp hw).2 (h w hw)
def gm_env (E : gm_E) (s : State) : Prop :=
  (∀ (t : Nat) (q : vw_C), gm_cl[t]? = some q → u_Kn s q.1 q.2.1 q.2.2 (E.2.1.1 t) (E.2.1.2 t)) ∧
  (∀ t : Nat, 100 ≤ t → t < 110 → ArrOfT s (E.2.1.1 t) (gm_ty t) ∧ s.vm.findClass ("[" ++ (gm_ty t).toString) = some (E.2.1.1 t)) ∧
  (∀ (i : Nat) (q : String × String × String), gm_sts[i]? = some q → va_Z q.1 q.2.1 q.2.2 (.ref (E.2.2 i)) (fun x => E.1.heap.size ≤ x) s E.1.heap) ∧
  (∀ q ∈ gm_strs, ∃ a : Nat, vk_R q.1 q.2.1 q.2.2 a s) ∧ (∀ q ∈ gm_noc, va_Nc q.1 q.2 s) ∧ E.1.WarmedH s.vm ∧ (∃ a0 : Array Value, ∀ w ∈ gm_hw, w.before a0 E.1 = true) ∧
  va_RA s (E.2.1.1 105) (.object "java/lang/Object") ∧ va_Mi "[Ljava/lang/Object;" (E.2.2 9) s ∧ va_Dc s ∧ va_AO "java/lang/Object" s
theorem gm_Nc_moved {C T : String} {u U : State} (hvm : u.vm.Alike U.vm) (h : va_Nc C T u) : va_Nc C T U := by
  obtain ⟨c, t, h1, h2, h3⟩ := h
  exact ⟨c, t, by rw [hvm.findClass]; exact h1, by rw [hvm.findClass]; exact h2, by rw [hvm.assignable]; exact h3⟩
theorem gm_env.moved {E : gm_E} {s U : State} (hW : s.WarmedH U.vm) (h : gm_env E s) : gm_env E U := by
  obtain ⟨h1, h2, h3, h4, h5, h6, h7, h8, h9, h10, h11⟩ := h
  have hal := hW.alike
  refine ⟨fun t q hq => u_Kn_moved hal (h1 t q hq), fun t t0 t1 => ⟨arrOfT_moved hal (h2 t t0 t1).1, by rw [hal.findClass]; exact (h2 t t0 t1).2⟩, fun i q hq => (h3 i q hq).moved hal, fun q hq => ?_, fun q hq => gm_Nc_moved hal (h5 q hq), State.WarmedH.trans h6 hW, h7, h8.moved hal, h9.moved hal, h10.moved hal, h11.moved hal⟩
  obtain ⟨a, ha⟩ := h4 q hq
  exact ⟨a, ha.warm hW⟩
