/-! The callee's walk -/
def gm_cw (M : gm_M) : Prop := (Cond.code M.1 M.2.1 M.2.2.1 M.2.2.2.1 ∈ gm_tb ∧ M.2.2.2.2.1 = []) ∨ Cond.codeWith M.1 M.2.1 M.2.2.1 M.2.2.2.1 M.2.2.2.2.1 ∈ gm_tb
theorem gm_cw.spec {M : gm_M} {U : State} {a : Array Value} (hcw : gm_cw M) (hw : ∀ w ∈ gm_tb, w.before a U = true) :
    ∃ (m : MethodId) (meth : Method) (c : Code), U.methodNamed? M.1 = some m ∧ U.vm.method? m = some meth ∧ meth.code = some c ∧ c.code = M.2.1 ∧ c.maxLocals = M.2.2.1 ∧
      c.exceptionTable.toList.map (fun h => (h.startPc, h.endPc, h.handlerPc, h.catchType)) = M.2.2.2.2.1 ∧ meth.sig.returnType = M.2.2.2.1 ∧ meth.locks = false ∧ parseMethodDescriptor M.1.desc = some meth.sig := by
  rcases hcw with ⟨h1, h2⟩ | h1
  · have h3 : (Cond.codeWith M.1 M.2.1 M.2.2.1 M.2.2.2.1 []).before a U = true := by
      have h4 := hw _ h1
      simp only [Cond.before, Cond.holds] at h4 ⊢
      rw [← Cond.code_iff_codeWith_nil]
      exact h4
    obtain ⟨m, meth, c, e1, e2, e3, e4, e5, e6, e7, e8, e9⟩ := Cond.codeWith_spec h3
    exact ⟨m, meth, c, e1, e2, e3, e4, e5, by rw [h2]; exact e6, e7, e8, e9⟩
  · exact Cond.codeWith_spec (hw _ h1)
theorem gm_steps_up {p : Program} {e : Env} {below : List Frame} {g : Frame} {s t : State} (h : Steps p.tables e (g :: below) s t) : Steps p.tables e below s t := by
  obtain ⟨n, h1, h2⟩ := h
  exact ⟨n, h1, fun k hk => Within.weaken (mid := [g]) (h2 k hk)⟩
section GK
variable {E : gm_E} {M N : gm_M} {pc : Nat} {lv : gm_V} {st rest : List Value} {h : gm_H} {K : gm_Q}
theorem gm_core {p : Program} {l : Launch} {e : Env} {R : Room} {s : State} {m : MethodId} {args : Array Value} {below : List Frame} {meth : Method} {c : Code} {T : State} {locs : List Loc} {cells slots : Nat} {ls : Array Slot}
    (hc : gm_ctx E M p e R s m args meth c) (X : Stand p l e R s m args below meth c T locs cells slots) (hL : ∀ q ∈ locs, E.1.heap.size ≤ q.base) (hA : gm_abs E s h T.heap) (h1 : cells + gm_rc h ≤ R.cells) (h2 : slots + gm_rs h ≤ R.slots) (hl : lv_has ls M.2.2.1 lv)
    {ig : Instr} (hd : decode M.2.1 pc = .ok (ig, 3)) {mk : MethodId} (hn : s.methodNamed? N.1 = some mk) (hcw : gm_cw N) (hpn : plainName N.1.cls = true) (As : List Value)
    (hfr : N.2.2.2.2.2.1 + 1 ≤ M.2.2.2.2.2.1) (hlo : (rest.map fun v => v.category).sum + (N.2.2.1 + 11) + N.2.2.2.2.2.2 ≤ M.2.2.2.2.2.2) (hsl : (lg_sl As).length ≤ N.2.2.1)
    (k : gm_A E N 0 (lv_args 0 As) [] h (gm_k E (gm_back E M pc lv rest K))) :
    ∃ t, (∀ acts, Steps p.tables e below (doInvoke e (T.setTop (F0 m pc ls rest)) acts mk As.toArray).1 t) ∧ K p R s below t := by
  obtain ⟨c1, c2, c3, c4, c5, c6, c7, c8, c9, c10, c11, c12⟩ := hc
  have hc' : gm_ctx E M p e R s m args meth c := ⟨c1, c2, c3, c4, c5, c6, c7, c8, c9, c10, c11, c12⟩
  have hW0 : s.WarmedH T.vm := X.warmed
  have hwT : ∀ w ∈ gm_tb, w.before As.toArray (T.calling (F0 m pc ls rest) mk As.toArray) = true := gm_words (show s.WarmedH (T.calling (F0 m pc ls rest) mk As.toArray).vm from hW0) c4
  obtain ⟨mk', methk, ck, e1, e2, e3, e4, e5, e6, e7, e8, e9⟩ := hcw.spec hwT
  have hn' : (T.calling (F0 m pc ls rest) mk As.toArray).methodNamed? N.1 = some mk := X.named hn
  cases hn'.symm.trans e1
  have hd' : decode c.code (F0 m pc ls rest).pc = .ok (ig, 3) := by rw [c2]; exact hd
  have hsize : (F0 m pc ls rest).locals.size = c.maxLocals := hl.1.trans c7.symm
  have hpk : T.plainMethod mk := hW0.plainAt (fun k0 hk0 => by
    obtain ⟨k1, hk1, hnm⟩ := className_of_methodNamed hn
    cases hk0.symm.trans hk1
    rw [hnm]; exact hpn)
  obtain ⟨Xk, hdo⟩ := X.into (g := F0 m pc ls rest) rfl hsize hd' As.toArray (R' := { frames := N.2.2.2.2.2.1, cells := gm_rc h, slots := gm_rs h, locals := N.2.2.2.2.2.2 }) (show T.vm.method? mk = some methk from e2) e3 e8 hpk
    (by show N.2.2.2.2.2.1 + 1 ≤ _; omega) (by show 2 * 0 + _ + (ck.maxLocals + 11) + N.2.2.2.2.2.2 ≤ _; rw [e5]; show 2 * 0 + (rest.map fun v => v.category).sum + _ + _ ≤ _; omega) (by show cells + gm_rc h ≤ _; omega) (by show slots + gm_rs h ≤ _; omega)
  have hEnt : entryFrame mk As.toArray ck.maxLocals = F0 mk 0 ((lg_sl As ++ List.replicate (N.2.2.1 - (lg_sl As).length) Slot.unset).toArray) [] := by rw [e5]; exact lg_entry_eq mk As N.2.2.1
  have hal : s.vm.Alike T.vm := hW0.alike
  have hctx : gm_ctx E N p e { frames := N.2.2.2.2.2.1, cells := gm_rc h, slots := gm_rs h, locals := N.2.2.2.2.2.2 } (T.calling (F0 m pc ls rest) mk As.toArray) mk As.toArray methk ck :=
    ⟨c1, e4, c3, hwT, c5.moved (show s.WarmedH (T.calling (F0 m pc ls rest) mk As.toArray).vm from hW0), hn', e5, e7, e8, e6, Nat.le_refl _, Nat.le_refl _⟩
  obtain ⟨t, hst, o, h', L, kc, ks, b1, b2, b3, b4, b5, b6, b7, b8, b9⟩ := k p l e _ _ mk As.toArray (.java (F0 m pc ls rest) :: below) methk ck T.heap _ [] 0 0 hctx (fun q hq => by cases hq) (hA.moved (s' := T.calling (F0 m pc ls rest) mk As.toArray) hal) (by show 0 + gm_rc h ≤ gm_rc h; omega) (by show 0 + gm_rs h ≤ gm_rs h; omega) (lv_entry As hsl) ((T.setTop (F0 m pc ls rest)).pushFrame (.java (entryFrame mk As.toArray ck.maxLocals))) rfl Xk
  have hst' : ∀ acts, Steps p.tables e below (doInvoke e (T.setTop (F0 m pc ls rest)) acts mk As.toArray).1 t := by
    intro acts
    rw [hdo acts]
    have e10 := gm_steps_up hst
    rw [← hEnt] at e10
    exact e10
  have hLL : ∀ q ∈ locs ++ L, E.1.heap.size ≤ q.base := t_lL (free := fun q => E.1.heap.size ≤ q) hL b6
  have b8' : kc + gm_rc h' ≤ gm_rc h := b8
  have b9' : ks + gm_rs h' ≤ gm_rs h := b9
  cases o with
  | returned v =>
    obtain ⟨T', X', hW', -, ht⟩ := X.outOf (g := F0 m pc ls rest) rfl hd' b3 b4 b5
    have hT' : T'.heap = t.heap := by rw [ht]; rfl
    have hA' : gm_abs E s h' T'.heap := by
      rw [hT']
      exact b7.moved (s' := s) (show (T.calling (F0 m pc ls rest) mk As.toArray).vm.Alike s.vm from hal.symm)
    have kk : gm_A E M (pc + 3) lv (v.toList ++ rest) h' K := b1
    obtain ⟨t2, st2, q2⟩ := kk p l e R s m args below meth c T'.heap ls (locs ++ L) (cells + kc) (slots + ks) hc' hLL hA' (by omega) (by omega) hl T' rfl X'
    refine ⟨t2, fun acts => (hst' acts).trans ?_, q2⟩
    rw [ht]
    exact st2
  | threw x =>
    obtain ⟨T', X', hW', -, ht⟩ := X.outOfThrown (g := F0 m pc ls rest) rfl b3 b4 b5
    have hT' : T'.heap = t.heap := by rw [ht]; rfl
    have hA' : gm_abs E s h' T'.heap := by
      rw [hT']
      exact b7.moved (s' := s) (show (T.calling (F0 m pc ls rest) mk As.toArray).vm.Alike s.vm from hal.symm)
    have kk : gm_thr E M pc lv x h' K := b1
    rcases kk with ⟨hall, K0, rfl, kk⟩ | ⟨h120, hp, hs, kk⟩
    · have hout : ∀ y ∈ c.exceptionTable.toList, covers y (F0 m pc ls rest).pc = false := by
        intro y hy
        have h9 : (y.startPc, y.endPc, y.handlerPc, y.catchType) ∈ M.2.2.2.2.1 := by rw [← c10]; exact List.mem_map.mpr ⟨y, hy, rfl⟩
        have h8 := List.all_eq_true.mp hall _ h9
        have h6 : gm_cov (y.startPc, y.endPc, y.handlerPc, y.catchType) pc = false := by simpa using h8
        exact h6
      obtain ⟨g1, g2, g3, g4, g5⟩ := X'.leaveThrown x (g := F0 m pc ls rest) rfl rfl rfl hout c9
      refine ⟨_, fun acts => (hst' acts).trans ?_, .threw x, h', locs ++ L, cells + kc, slots + ks, kk, g2, g3, g4, g5, hLL, hA', by omega, by omega⟩
      rw [ht]
      exact g1
    · obtain ⟨cell, q1, q2, q3, q4, q5, q6, q7⟩ := hA'.cell (t := gm_tag h' x) rfl (by omega)
      unfold gm_cls at q4
      rw [if_neg (by omega), if_neg (by omega)] at q4
      obtain ⟨vm', X'', hgo⟩ := gm_caught (M := M) (ls := ls) (rest := rest) X' c4 c5 hc'.own c10 q1 q3 q4 hs
      obtain ⟨t2, st2, r2⟩ := kk p l e R s m args below meth c T'.heap ls (locs ++ L) (cells + kc) (slots + ks) hc' hLL hA' (by omega) (by omega) hl (T'.setVm vm') rfl X''
      refine ⟨t2, fun acts => (hst' acts).trans ?_, r2⟩
      rw [ht]
      exact hgo _ st2
/-- a static method -/
theorem gm_invS {idx : Nat} (As : List Value) (n w q : Nat) (hd : decode M.2.1 pc = .ok (.invokestatic idx, 3)) (hcw : gm_cw N) (hw1 : Cond.methodLink M.1.cls idx N.1 ∈ gm_tb ∨ ∃ host : String, Cond.methodLinkNest M.1.cls idx N.1 host ∈ gm_tb) (hw2 : Cond.static N.1 ∈ gm_tb) (hw3 : Cond.initialized N.1.cls ∈ gm_tb)
    (hq : (plainName N.1.cls && N.1.cls != "java/lang/invoke/MethodHandle" && N.1.cls != "java/lang/invoke/VarHandle" && decide ((parseMethodDescriptor N.1.desc).map (fun d => d.parameters.length) = some n) && decide (N.2.2.2.2.2.1 + 1 ≤ M.2.2.2.2.2.1) && decide (w + (N.2.2.1 + 11) + N.2.2.2.2.2.2 ≤ M.2.2.2.2.2.2) && decide (q ≤ N.2.2.1)) = true) (hn9 : As.length = n) (hw9 : (rest.map fun v => v.category).sum = w) (hq9 : (lg_sl As).length = q)
    (hst : st = As.reverse ++ rest) (k : gm_A E N 0 (lv_args 0 As) [] h (gm_k E (gm_back E M pc lv rest K))) : gm_A E M pc lv st h K := by
  subst hn9 hw9 hq9
  simp only [Bool.and_eq_true, decide_eq_true_eq, bne_iff_ne] at hq
  obtain ⟨⟨⟨⟨⟨⟨r1, r2⟩, r3⟩, r4⟩, r5⟩, r6⟩, r7⟩ := hq
  subst hst
  intro p l e R s m args below meth c H ls locs cells slots hc hL hA h1 h2 hl T hT X
  subst hT
  obtain ⟨mk, methk, ck, e1, e2, e3, e4, e5, e6, e7, e8, e9⟩ := hcw.spec hc.2.2.2.1
  have hstatic : methk.isStatic = true := Cond.static_spec e1 e2 (hc.word hw2)
  obtain ⟨kP, hkP, -⟩ := className_of_methodNamed e1
  have hinitP : kP.init = .initialized := Cond.initialized_spec (findClass_of_methodNamed e1) hkP (hc.word hw3)
  have hlen : As.length = methk.sig.parameters.length := by rw [e9] at r4; exact (Option.some.inj r4).symm
  have hd' : decode c.code (F0 m pc ls (As.reverse ++ rest)).pc = .ok (.invokestatic idx, 3) := by rw [hc.2.1]; exact hd
  rcases hw1 with hw1 | ⟨host, hw1⟩
  · obtain ⟨vm₁, X₁, hstep⟩ := X.invokestatic hc.1 hc.own (hc.word hw1) e1 e2 hstatic hkP hinitP ⟨r2, r3⟩ (g := F0 m pc ls (As.reverse ++ rest)) rfl (argsL := As) (rest := rest) hlen rfl hd'
    obtain ⟨t, g1, g2⟩ := gm_core hc X₁ hL hA h1 h2 hl hd e1 hcw r1 As r5 r6 r7 k
    exact ⟨t, hstep t g1, g2⟩
  · obtain ⟨vm₁, X₁, hstep⟩ := X.invokestaticNest hc.1 hc.own (hc.word hw1) e1 e2 hstatic hkP hinitP ⟨r2, r3⟩ (g := F0 m pc ls (As.reverse ++ rest)) rfl (argsL := As) (rest := rest) hlen rfl hd'
    obtain ⟨t, g1, g2⟩ := gm_core hc X₁ hL hA h1 h2 hl hd e1 hcw r1 As r5 r6 r7 k
    exact ⟨t, hstep t g1, g2⟩
/-- a constructor -/
theorem gm_invI {idx : Nat} {b : Nat} (As : List Value) (n w q : Nat) (hd : decode M.2.1 pc = .ok (.invokespecial idx, 3)) (hcw : Cond.code N.1 N.2.1 N.2.2.1 none ∈ gm_tb ∧ N.2.2.2.2.1 = [] ∧ N.2.2.2.1 = none) (hw1 : Cond.methodLink M.1.cls idx N.1 ∈ gm_tb ∨ ∃ host : String, Cond.methodLinkNest M.1.cls idx N.1 host ∈ gm_tb) (hw2 : Cond.instanceMethod N.1 ∈ gm_tb)
    (hq : (N.1.name == "<init>" && plainName N.1.cls && N.1.cls != "java/lang/invoke/MethodHandle" && N.1.cls != "java/lang/invoke/VarHandle" && decide ((parseMethodDescriptor N.1.desc).map (fun d => d.parameters.length) = some n) && decide (N.2.2.2.2.2.1 + 1 ≤ M.2.2.2.2.2.1) && decide (w + (N.2.2.1 + 11) + N.2.2.2.2.2.2 ≤ M.2.2.2.2.2.2) && decide (q ≤ N.2.2.1)) = true) (hn9 : As.length = n) (hw9 : (rest.map fun v => v.category).sum = w) (hq9 : (lg_sl (.ref b :: As)).length = q)
    (hst : st = As.reverse ++ .ref b :: rest) (k : gm_A E N 0 (lv_args 0 (.ref b :: As)) [] h (gm_k E (gm_back E M pc lv rest K))) : gm_A E M pc lv st h K := by
  subst hn9 hw9 hq9
  simp only [Bool.and_eq_true, decide_eq_true_eq, bne_iff_ne, beq_iff_eq] at hq
  obtain ⟨⟨⟨⟨⟨⟨⟨r0, r1⟩, r2⟩, r3⟩, r4⟩, r5⟩, r6⟩, r7⟩ := hq
  subst hst
  intro p l e R s m args below meth c H ls locs cells slots hc hL hA h1 h2 hl T hT X
  subst hT
  have hcw' : gm_cw N := Or.inl ⟨by rw [hcw.2.2]; exact hcw.1, hcw.2.1⟩
  have hpl : e.platform.magicAccessors = ({} : Platform).magicAccessors := by rw [X.admits.platform]
  have hlen : ∀ sig, parseMethodDescriptor N.1.desc = some sig → As.length = sig.parameters.length := fun sig hs => by rw [hs] at r4; exact (Option.some.inj r4).symm
  have hd' : decode c.code (F0 m pc ls (As.reverse ++ .ref b :: rest)).pc = .ok (.invokespecial idx, 3) := by rw [hc.2.1]; exact hd
  rcases hw1 with hw1 | ⟨host, hw1⟩
  · obtain ⟨mk, methM, cM, kP, vm₁, hnamed, -, -, -, -, -, -, -, hW₁, hstep⟩ := Steps.initColdArgs (e := e) X.here hc.1 X.warmed hpl hc.own r0 ⟨r2, r3⟩ (hc.word hw1) (hc.word hw2) (hc.word hcw.1) (f := F0 m pc ls (As.reverse ++ .ref b :: rest)) rfl hlen rfl hd'
    obtain ⟨t, g1, g2⟩ := gm_core hc (X.noted hW₁) hL hA h1 h2 hl hd hnamed hcw' r1 (.ref b :: As) r5 r6 r7 k
    exact ⟨t, hstep t g1, g2⟩
  · obtain ⟨mk, methM, cM, kP, vm₁, hnamed, -, -, -, -, -, -, -, hW₁, hstep⟩ := Steps.initColdArgsNest (e := e) X.here hc.1 X.warmed hpl hc.own r0 ⟨r2, r3⟩ (hc.word hw1) (hc.word hw2) (hc.word hcw.1) (f := F0 m pc ls (As.reverse ++ .ref b :: rest)) rfl hlen rfl hd'
    obtain ⟨t, g1, g2⟩ := gm_core hc (X.noted hW₁) hL hA h1 h2 hl hd hnamed hcw' r1 (.ref b :: As) r5 r6 r7 k
    exact ⟨t, hstep t g1, g2⟩
end GK
