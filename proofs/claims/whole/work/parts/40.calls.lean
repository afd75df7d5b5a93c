/-! Calls: the callee's walk, its end, the handlers -/
def gm_cov (q : Nat × Nat × Nat × Nat) (pc : Nat) : Bool := decide (q.1 ≤ pc) && decide (pc < q.2.1)
/-- the search through the handlers ends at hp for an object of tag t thrown at pc -/
def gm_srch (own : String) (t pc hp : Nat) : List (Nat × Nat × Nat × Nat) → Prop
  | [] => False
  | q :: r => (gm_cov q pc = false ∧ gm_srch own t pc hp r) ∨ (gm_cov q pc = true ∧ q.2.2.2 ≠ 0 ∧ ∃ nm : String, Cond.classLink own q.2.2.2 nm ∈ gm_tb ∧ ((Cond.castable (gm_ex t) nm ∈ gm_tb ∧ q.2.2.1 = hp) ∨ ((gm_ex t, nm) ∈ gm_noc ∧ gm_srch own t pc hp r)))
def gm_thr (E : gm_E) (M : gm_M) (pc : Nat) (lv : gm_V) (a : Nat) (h : gm_H) (K : gm_Q) : Prop :=
  ((M.2.2.2.2.1.all fun q => !gm_cov q pc) = true ∧ ∃ K0 : Outcome → gm_H → Prop, K = gm_k E K0 ∧ K0 (.threw a) h) ∨ (120 ≤ gm_tag h a ∧ ∃ hp : Nat, gm_srch M.1.cls (gm_tag h a) pc hp M.2.2.2.2.1 ∧ gm_A E M hp lv [.ref a] h K)
def gm_back (E : gm_E) (M : gm_M) (pc : Nat) (lv : gm_V) (rest : List Value) (K : gm_Q) : Outcome → gm_H → Prop := fun o h =>
  match o with
  | .returned v => gm_A E M (pc + 3) lv (v.toList ++ rest) h K
  | .threw a => gm_thr E M pc lv a h K
section GS
variable {e : Env} {f : JFrame} {a : Addr} {cell : Cell} {S : State} {x : ExceptionTableEntry} {tl : List ExceptionTableEntry} {cT : ClassId}
theorem gm_goYes (hx : covers x f.pc = true) (h0 : x.catchType ≠ 0) (hl : S.vm.ClassLinks e.platform f.method.cls x.catchType cT) (hcell : S.heap[a]? = some cell) (hobj : ∀ k, cell.vm ≠ .statics k)
    (hk : ∃ k, S.vm.classes[cell.cls]? = some k) (hc : ∃ k, S.vm.classes[cT]? = some k) (hfit : S.vm.assignable cell.cls cT = true) (Q : Handler → Pre) (Ec : CtlPost) (d : Bool) (acts : List Action) :
    wp (findHandler.go f a (x :: tl)) Q Ec e d acts S ↔ Q (.found x.handlerPc) d acts (S.setVm (S.vm.noted f.method.cls x.catchType (.cls cT))) := by
  simp only [covers] at hx
  obtain ⟨ha, ht⟩ := (resolveClass_links e.toSetting hl).op (op := VmOp.resolveClass f.method.cls x.catchType) rfl
  have hal : S.vm.Alike (S.vm.noted f.method.cls x.catchType (.cls cT)) := (Vm.Alike.refl S.vm).noted _ _ _
  obtain ⟨k1, hk1⟩ := hk
  obtain ⟨k2, hk2⟩ := hc
  obtain ⟨k3, hk3, -⟩ := hal.2.2 _ _ hk1
  obtain ⟨k4, hk4, -⟩ := hal.2.2 _ _ hk2
  have hfit' : (S.vm.noted f.method.cls x.catchType (.cls cT)).assignable cell.cls cT = true := by rw [hal.assignable]; exact hfit
  simp [findHandler.go, hx, h0, ha, ht, hcell, hobj, hk3, hk4, hfit', VmOp.dirties, VmOp.acts]
theorem gm_goNo (hx : covers x f.pc = true) (h0 : x.catchType ≠ 0) (hl : S.vm.ClassLinks e.platform f.method.cls x.catchType cT) (hcell : S.heap[a]? = some cell) (hobj : ∀ k, cell.vm ≠ .statics k)
    (hk : ∃ k, S.vm.classes[cell.cls]? = some k) (hc : ∃ k, S.vm.classes[cT]? = some k) (hfit : S.vm.assignable cell.cls cT = false) (Q : Handler → Pre) (Ec : CtlPost) (d : Bool) (acts : List Action) :
    wp (findHandler.go f a (x :: tl)) Q Ec e d acts S ↔ wp (findHandler.go f a tl) Q Ec e d acts (S.setVm (S.vm.noted f.method.cls x.catchType (.cls cT))) := by
  simp only [covers] at hx
  obtain ⟨ha, ht⟩ := (resolveClass_links e.toSetting hl).op (op := VmOp.resolveClass f.method.cls x.catchType) rfl
  have hal : S.vm.Alike (S.vm.noted f.method.cls x.catchType (.cls cT)) := (Vm.Alike.refl S.vm).noted _ _ _
  obtain ⟨k1, hk1⟩ := hk
  obtain ⟨k2, hk2⟩ := hc
  obtain ⟨k3, hk3, -⟩ := hal.2.2 _ _ hk1
  obtain ⟨k4, hk4, -⟩ := hal.2.2 _ _ hk2
  have hfit' : (S.vm.noted f.method.cls x.catchType (.cls cT)).assignable cell.cls cT = false := by rw [hal.assignable]; exact hfit
  simp [findHandler.go, hx, h0, ha, ht, hcell, hobj, hk3, hk4, hfit', VmOp.dirties, VmOp.acts]
end GS
section GT
variable {E : gm_E} {M N : gm_M} {pc : Nat} {lv : gm_V} {st rest : List Value} {h : gm_H} {K : gm_Q}
variable {p : Program} {l : Launch} {e : Env} {R : Room} {s : State} {m : MethodId} {args : Array Value} {below : List Frame} {meth : Method} {c : Code} {T : State} {locs : List Loc} {cells slots : Nat} {ls : Array Slot}
theorem gm_search (hw : ∀ w ∈ gm_tb, w.before args s = true) (hE : gm_env E s) (hown : s.vm.findClass M.1.cls = some m.cls) (hpl : e.platform.magicAccessors = ({} : Platform).magicAccessors) {a : Nat} {cell : Cell} {t hp : Nat} (hobj : cell.vm.isStatics = false) (hcls : s.vm.findClass (gm_ex t) = some cell.cls) {f : JFrame} (hf : f.method = m) :
    ∀ (tl : List ExceptionTableEntry) (S : State), s.WarmedH S.vm → S.heap[a]? = some cell → gm_srch M.1.cls t f.pc hp (tl.map (fun h => (h.startPc, h.endPc, h.handlerPc, h.catchType))) →
      ∃ vm', s.WarmedH vm' ∧ ∀ (Q : Handler → Pre) (Ec : CtlPost) (d : Bool) (acts : List Action), wp (findHandler.go f a tl) Q Ec e d acts S ↔ Q (.found hp) d acts (S.setVm vm') := by
  subst hf
  obtain ⟨k0, hk0⟩ := Vm.classAt_of_findClass hcls
  intro tl
  induction tl with
  | nil => intro S _ _ hs; exact hs.elim
  | cons x tl ih =>
    intro S hW hcell hs
    rcases hs with ⟨hcv, hs⟩ | ⟨hcv, h0, nm, hlw, hs⟩
    · obtain ⟨vm', h1, h2⟩ := ih S hW hcell hs
      exact ⟨vm', h1, fun Q Ec d acts => by rw [W.findHandler_go_skip hcv]; exact h2 Q Ec d acts⟩
    · obtain ⟨cT, hcT, hcl⟩ := Cond.classLink_spec hown (hw _ hlw) e.platform hpl
      obtain ⟨dk, _, _, kt, hd, _, _, _, _, hkt, _, hopen⟩ := hcl.here
      have hW' := hW.noted hd hopen (State.rightAt_cls hcl)
      obtain ⟨k3, hk3, -⟩ := hW.alike.2.2 _ _ hk0
      obtain ⟨k4, hk4, -⟩ := hW.alike.2.2 _ _ hkt
      rcases hs with ⟨hcw, hhp⟩ | ⟨hno, hs⟩
      · obtain ⟨c1, c2, e1, e2, e3⟩ := Cond.castable_spec (hw _ hcw)
        cases hcls.symm.trans e1
        cases hcT.symm.trans e2
        refine ⟨_, hW', fun Q Ec d acts => ?_⟩
        rw [gm_goYes hcv h0 (hW.classLinks hcl) hcell (VmData.ne_statics_of hobj) ⟨k3, hk3⟩ ⟨k4, hk4⟩ (by rw [hW.alike.assignable]; exact e3)]
        have e4 : x.handlerPc = hp := hhp
        rw [e4]
      · obtain ⟨c1, c2, e1, e2, e3⟩ := hE.2.2.2.2.1 _ hno
        cases hcls.symm.trans e1
        cases hcT.symm.trans e2
        obtain ⟨vm', h1, h2⟩ := ih (S.setVm (S.vm.noted f.method.cls x.catchType (.cls cT))) hW' hcell hs
        refine ⟨vm', h1, fun Q Ec d acts => ?_⟩
        rw [gm_goNo hcv h0 (hW.classLinks hcl) hcell (VmData.ne_statics_of hobj) ⟨k3, hk3⟩ ⟨k4, hk4⟩ (by rw [hW.alike.assignable]; exact e3)]
        exact h2 Q Ec d acts
theorem gm_setVmFr (u : State) (vm' : Vm) (F G : List Frame) : ((u.setFrames F).setVm vm').setFrames G = (u.setVm vm').setFrames G := by
  have h1 : (u.setFrames F).setVm vm' = (u.setVm vm').setFrames F := rfl
  rw [h1, State.setFrames_setFrames]
/-- the object is caught -/
theorem gm_caught (X : Stand p l e R s m args below meth c T locs cells slots) (hw : ∀ w ∈ gm_tb, w.before args s = true) (hE : gm_env E s) (hown : s.vm.findClass M.1.cls = some m.cls) (htb : c.exceptionTable.toList.map (fun h => (h.startPc, h.endPc, h.handlerPc, h.catchType)) = M.2.2.2.2.1)
    {a : Nat} {cell : Cell} {t hp : Nat} (hcell : T.heap[a]? = some cell) (hobj : cell.vm.isStatics = false) (hcls : s.vm.findClass (gm_ex t) = some cell.cls) (hs : gm_srch M.1.cls t pc hp M.2.2.2.2.1) :
    ∃ vm', Stand p l e R s m args below meth c (T.setVm vm') locs cells slots ∧ ∀ target, Steps p.tables e below ((T.setVm vm').setTop (F0 m hp ls [.ref a])) target → Steps p.tables e below ((T.setTop (F0 m pc ls rest)).pushFrame (.throwing a)) target := by
  have hpl : e.platform.magicAccessors = ({} : Platform).magicAccessors := by rw [X.admits.platform]
  rw [← htb] at hs
  obtain ⟨vm', hW', hq⟩ := gm_search (M := M) (e := e) hw hE hown hpl (a := a) hobj hcls (f := F0 m pc ls rest) rfl c.exceptionTable.toList ((T.setTop (F0 m pc ls rest)).pushFrame (.throwing a)) X.warmed hcell hs
  refine ⟨vm', X.noted hW', fun target hrest => ?_⟩
  have hAt : At T (F0 m pc ls rest).method c below := X.here
  obtain ⟨hgo, hwi⟩ := hAt.throwing a
  refine Steps.head hgo hwi ?_
  have hstep : (stepThrowing e ((T.setTop (F0 m pc ls rest)).pushFrame (.throwing a)) a (.java (F0 m pc ls rest) :: T.frames.tail)).Is ((((T.setTop (F0 m pc ls rest)).pushFrame (.throwing a)).setVm vm').setFrames (.java (F0 m hp ls [.ref a]) :: T.frames.tail)) [] := by
    simp only [stepThrowing, searchFrame, vmDo]
    generalize hr : Sem.go _ e false [] _ = res
    obtain ⟨as, rfl, ha⟩ := Sem.eq_ok_of hr (a := Handler.found hp) (s' := ((T.setTop (F0 m pc ls rest)).pushFrame (.throwing a)).setVm vm') (acts' := []) (by
      have hfull : ∀ (Q : Handler → Pre) (Ec : CtlPost) (d : Bool) (acts : List Action), wp (findHandler (F0 m pc ls rest) a) Q Ec e d acts ((T.setTop (F0 m pc ls rest)).pushFrame (.throwing a)) ↔ Q (.found hp) d acts (((T.setTop (F0 m pc ls rest)).pushFrame (.throwing a)).setVm vm') := by
        intro Q Ec d acts
        rw [W.findHandler_eq (meth := meth) (code := c) X.method' X.code]
        exact hq Q Ec d acts
      simp [hfull])
    exact ⟨rfl, ha⟩
  rw [stepThread_throwing (frames_entered hAt.top _), hstep.1]
  obtain ⟨g₀, hg⟩ := Option.isSome_iff_exists.mp hAt.top
  obtain ⟨r, hr⟩ := State.topJava?_eq_some.mp hg
  have hr' : (T.setVm vm').frames = .java g₀ :: r := hr
  rw [State.setTop_of_frames _ hr'] at hrest
  rw [hr, List.tail_cons, State.pushFrame, gm_setVmFr, State.setTop_of_frames _ hr, gm_setVmFr]
  exact hrest
end GT
