section GV
variable {E : gm_E} {M N : gm_M} {pc : Nat} {lv : gm_V} {st rest : List Value} {h : gm_H} {K : gm_Q}
/-- a method of an object -/
theorem gm_invV {idx : Nat} {b t : Nat} {C : String} {F : u_T} {NF : Nat} (As : List Value) (n w q : Nat) (hd : decode M.2.1 pc = .ok (.invokevirtual idx, 3)) (hcl : gm_cl[t]? = some (C, F, NF)) (t0 : 0 < t) (t1 : t < 100) (hcw : gm_cw N)
    (hw1 : Cond.methodLink M.1.cls idx N.1 ∈ gm_tb ∨ ∃ host : String, Cond.methodLinkNest M.1.cls idx N.1 host ∈ gm_tb) (hw2 : Cond.instanceMethod N.1 ∈ gm_tb) (hw3 : Cond.selects C N.1 N.1 ∈ gm_tb)
    (hq : (plainName N.1.cls && N.1.cls != "java/lang/invoke/MethodHandle" && N.1.cls != "java/lang/invoke/VarHandle" && decide ((parseMethodDescriptor N.1.desc).map (fun d => d.parameters.length) = some n) && decide (N.2.2.2.2.2.1 + 1 ≤ M.2.2.2.2.2.1) && decide (w + (N.2.2.1 + 11) + N.2.2.2.2.2.2 ≤ M.2.2.2.2.2.2) && decide (q ≤ N.2.2.1)) = true) (hn9 : As.length = n) (hw9 : (rest.map fun v => v.category).sum = w) (hq9 : (lg_sl (.ref b :: As)).length = q)
    (ht : gm_tag h b = t) (hst : st = As.reverse ++ .ref b :: rest) (k : gm_A E N 0 (lv_args 0 (.ref b :: As)) [] h (gm_k E (gm_back E M pc lv rest K))) : gm_A E M pc lv st h K := by
  subst hn9 hw9 hq9
  simp only [Bool.and_eq_true, decide_eq_true_eq, bne_iff_ne] at hq
  obtain ⟨⟨⟨⟨⟨⟨r1, r2⟩, r3⟩, r4⟩, r5⟩, r6⟩, r7⟩ := hq
  subst hst
  intro p l e R s m args below meth c H ls locs cells slots hc hL hA h1 h2 hl T hT X
  subst hT
  obtain ⟨cell, q1, q2, q3, q4, q5, q6, q7⟩ := hA.cell ht (by omega)
  unfold gm_cls at q4
  rw [if_pos (by omega)] at q4
  have hKn := hc.2.2.2.2.1.1 t _ hcl
  have hcls : s.vm.findClass C = some cell.cls := by rw [q4.2.1]; exact hKn.2.1
  obtain ⟨mk, methM, hnamed, hmethM, hstM, habM⟩ := Cond.instanceMethod_spec (hc.word hw2)
  obtain ⟨mk', methk, ck, e1, e2, e3, e4, e5, e6, e7, e8, e9⟩ := hcw.spec hc.2.2.2.1
  cases hnamed.symm.trans e1
  cases hmethM.symm.trans e2
  obtain ⟨c2, r2', m2, z1, z2, z3, z4, kP, hkP, hkPi⟩ := Cond.selects_spec (hc.word hw3)
  cases hcls.symm.trans z1
  cases (State.methodFound?_of_named hnamed ⟨r2, r3⟩).symm.trans z2
  cases hnamed.symm.trans z3
  have hsel : selectMethod e.platform s.vm cell.cls mk = .method mk := by rw [Launch.admits_selectMethod X.admits]; exact z4
  have hlen : As.length = methM.sig.parameters.length := by rw [e9] at r4; exact (Option.some.inj r4).symm
  have hd' : decode c.code (F0 m pc ls (As.reverse ++ .ref b :: rest)).pc = .ok (.invokevirtual idx, 3) := by rw [hc.2.1]; exact hd
  rcases hw1 with hw1 | ⟨host, hw1⟩
  · obtain ⟨vm₁, X₁, hstep⟩ := X.invokevirtual hc.1 hc.own (hc.word hw1) hnamed hmethM hstM hkP hkPi ⟨r2, r3⟩ (a := b) (cell := cell) q1 (VmData.ne_statics_of q3) hsel hmethM habM hkP hkPi (g := F0 m pc ls (As.reverse ++ .ref b :: rest)) rfl (argsL := As) (rest := rest) hlen rfl hd'
    obtain ⟨t', g1, g2⟩ := gm_core hc X₁ hL hA h1 h2 hl hd hnamed hcw r1 (.ref b :: As) r5 r6 r7 k
    exact ⟨t', hstep t' g1, g2⟩
  · obtain ⟨vm₁, X₁, hstep⟩ := X.invokevirtualNest hc.1 hc.own (hc.word hw1) hnamed hmethM hstM hkP hkPi ⟨r2, r3⟩ (a := b) (cell := cell) q1 (VmData.ne_statics_of q3) hsel hmethM habM hkP hkPi (g := F0 m pc ls (As.reverse ++ .ref b :: rest)) rfl (argsL := As) (rest := rest) hlen rfl hd'
    obtain ⟨t', g1, g2⟩ := gm_core hc X₁ hL hA h1 h2 hl hd hnamed hcw r1 (.ref b :: As) r5 r6 r7 k
    exact ⟨t', hstep t' g1, g2⟩
end GV
/-- the walk as if the method had just been called with the heap as it is now -/
theorem gm_reroot {p : Program} {l : Launch} {e : Env} {R : Room} {s : State} {m : MethodId} {args : Array Value} {below : List Frame} {meth : Method} {c : Code} {T : State} {locs : List Loc} {cells slots : Nat}
    (X : Stand p l e R s m args below meth c T locs cells slots) {R' : Room} (hf : R'.frames ≤ R.frames) (hlo : R'.locals ≤ R.locals) (hc : cells + R'.cells ≤ R.cells) (hs : slots + R'.slots ≤ R.slots) :
    Stand p l e R' (T.setFrames (.invoking m args :: below)) m args below meth c T [] 0 0 := by
  obtain ⟨g₀, hfr⟩ := X.frames_eq
  have hcur : T.cur < T.threads.size := State.cur_lt_of_frames hfr
  have hF : (T.setFrames (.invoking m args :: below)).frames = .invoking m args :: below := State.frames_setFrames _ hcur
  obtain ⟨th, hth, -⟩ := State.frames_cons hF
  have hcur' : (T.setFrames (.invoking m args :: below)).cur < (T.setFrames (.invoking m args :: below)).threads.size := State.cur_lt_of_frames hF
  have hT : (T.setFrames (.invoking m args :: below)).setFrames T.frames = T := by
    obtain ⟨th0, hth0, -⟩ := State.frames_cons hfr
    rw [State.setFrames_setFrames, State.setFrames_self hth0]
  have hroom : (T.setFrames (.invoking m args :: below)).hasRoom e.platform R' = true := by
    have hr := X.room
    have hz := X.heapSize
    have hu := X.used
    simp only [State.hasRoom, Bool.and_eq_true, decide_eq_true_eq] at hr ⊢
    obtain ⟨⟨⟨⟨r1, r2, r3, r4, r5, r6⟩, r7⟩, r8⟩, r9⟩ := hr
    have e1 : (T.setFrames (.invoking m args :: below)).localsInUse = s.localsInUse := by
      rw [State.localsInUse_invoking hF (show (T.setFrames (.invoking m args :: below)).vm.method? m = some meth from X.method') X.code, State.localsInUse_invoking X.frames X.method X.code]
    have e2 : (T.setFrames (.invoking m args :: below)).frames.length = s.frames.length := by rw [hF, X.frames]
    have e3 : e.platform.stackLimits (T.setFrames (.invoking m args :: below)).me = e.platform.stackLimits s.me := by rw [State.stackLimits_setFrames]; exact X.limits
    have e4 : (T.setFrames (.invoking m args :: below)).me.stackBytes = s.me.stackBytes := by rw [State.stackBytes_setFrames]; exact X.bytes
    rw [e1, e2, e3, e4]
    refine ⟨⟨⟨⟨by omega, by omega, by omega, by omega, by omega, r6⟩, ?_⟩, ?_⟩, X.book⟩
    · show T.heap.size + R'.cells ≤ _; omega
    · show T.slotsUsed + R'.slots ≤ _; omega
  have hhear : (T.setFrames (.invoking m args :: below)).hears m below = true := by
    have hh := X.hears
    have hm : ∀ q, T.vm.method? q = s.vm.method? q := fun q => X.warmed.alike.method? q
    have hcd : ∀ q, (T.setFrames (.invoking m args :: below)).code? q = s.code? q := fun q => by rw [State.code?_eq, State.code?_eq]; exact congrArg (fun z => Option.bind z _) (hm q)
    unfold State.hears at hh ⊢
    split at hh
    · simp only [hcd]; exact hh
    · rfl
    · rfl
    · rw [show (T.setFrames (.invoking m args :: below)).vm.method? m = s.vm.method? m from hm m]; exact hh
  refine ⟨X.admits, X.cas, X.clock, hF, hroom, hhear, X.method', X.code, X.here, X.tail, State.WarmedH.refl (T.setFrames (.invoking m args :: below)), by rw [State.stackLimits_setFrames], by rw [State.stackBytes_setFrames], ?_⟩
  have h9 := (State.sameButNew.refl (T.setFrames (.invoking m args :: below)) hth).setFrames T.frames hcur'
  rw [hT] at h9
  exact h9
