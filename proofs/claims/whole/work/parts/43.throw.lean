/-! An exception with a text is made and thrown out of the method -/
theorem gm_hw_at {s0 U : State} {a0 a1 : Array Value} {C n d : String} (hW : s0.WarmedH U.vm) (hH : ∀ q : Nat, q < s0.heap.size → U.heap[q]? = s0.heap[q]?) (h1 : (Cond.laysStatic C n d).before a0 s0 = true) :
    (Cond.laysStatic C n d).before a1 U = true ∧ ((Cond.isRef (.static C n d)).before a0 s0 = true → (Cond.isRef (.static C n d)).before a1 U = true) := by
  obtain ⟨c, k, i, f, a, cell, e1, e2, e3, e4, e5, e6, e7, e8, e9⟩ := Cond.laysStatic_spec h1
  have hal := hW.alike
  obtain ⟨k', hi', he⟩ := State.fieldFound?_setVm hal e2
  have hi2 : U.fieldFound? C n d = some (c, k', i, f) := hi'
  have g1 : k'.statics = some a := by rw [he]; exact e4
  have g2 : k'.staticTypes[f.slot]? = some f.type := by rw [he]; exact e9
  have g3 : U.heap[a]? = some cell := by rw [hH a (Array.getElem?_eq_some_iff.mp e5).1]; exact e5
  have g4 : U.vm.findClass C = some c := by rw [hal.findClass]; exact e1
  refine ⟨?_, fun h2 => ?_⟩
  · simp [Cond.before, Cond.holds, Cond.value, g4, hi2, g1, g3, e3, e6, e7, e8, g2]
  · have t0 : (Term.static C n d).eval a0 s0 none [] s0 = cell.slots[f.slot]? := by simp [Term.eval, State.fieldNamed?, e2, e3, e4, e5, e6]
    have t1 : (Term.static C n d).eval a1 U none [] U = cell.slots[f.slot]? := by simp [Term.eval, State.fieldNamed?, hi2, e3, g1, g3, e6]
    simp only [Cond.before, Cond.holds, Cond.value] at h2 ⊢
    rw [t0] at h2
    rw [t1]
    exact h2
theorem gm_hw_all {E : gm_E} {s : State} {h : gm_H} {H : Heap} {a1 : Array Value} {U : State} (hE : gm_env E s) (hA : gm_abs E s h H) (hW : s.WarmedH U.vm) (hU : U.heap = H) : ∀ w ∈ gm_hw, w.before a1 U = true := by
  obtain ⟨-, -, -, -, -, h6, ⟨a0, h7⟩, -⟩ := hE
  have hW' : E.1.WarmedH U.vm := State.WarmedH.trans h6 hW
  have hH : ∀ q : Nat, q < E.1.heap.size → U.heap[q]? = E.1.heap[q]? := fun q hq => by rw [hU]; exact hA.2.2.1 q hq
  intro w hw
  simp only [gm_hw, List.mem_cons, List.not_mem_nil, or_false] at hw
  rcases hw with rfl | rfl | rfl | rfl
  · exact (gm_hw_at hW' hH (h7 _ (by simp [gm_hw]))).1
  · exact (gm_hw_at hW' hH (h7 _ (by simp [gm_hw]))).1
  · exact (gm_hw_at hW' hH (h7 (.laysStatic "java/lang/Throwable" "UNASSIGNED_STACK" "[Ljava/lang/StackTraceElement;") (by simp [gm_hw]))).2 (h7 _ (by simp [gm_hw]))
  · exact (gm_hw_at hW' hH (h7 (.laysStatic "java/lang/Throwable" "SUPPRESSED_SENTINEL" "Ljava/util/List;") (by simp [gm_hw]))).2 (h7 _ (by simp [gm_hw]))
theorem gm_cell_ext {c c' : Cell} (h1 : c' = { c with slots := c'.slots }) (h2 : c'.slots.size = c.slots.size) (h3 : ∀ i : Nat, c'.slots[i]? = c.slots[i]?) : c' = c := by
  have h4 : c'.slots = c.slots := by
    apply Array.ext_getElem?
    exact h3
  rw [h1, h4]
section GX
variable {E : gm_E} {M : gm_M} {pc : Nat} {lv : gm_V} {st : List Value} {h : gm_H} {K : gm_Q}
theorem gm_throw {K0 : Outcome → gm_H → Prop} {idx k ic x : Nat} {tx : String} {names : List String} (d0 : decode M.2.1 pc = .ok (.new idx, 3)) (d1 : decode M.2.1 (pc + 3) = .ok (.dup, 1)) (d2 : decode M.2.1 (pc + 4) = .ok (.ldc k, 2)) (d3 : decode M.2.1 (pc + 6) = .ok (.invokespecial ic, 3)) (d4 : decode M.2.1 (pc + 9) = .ok (.athrow, 1))
    (hx : 120 ≤ x) (hw1 : Cond.classLink M.1.cls idx (gm_ex x) ∈ gm_tb) (hw2 : Cond.instantiable (gm_ex x) 6 ∈ gm_tb) (hw3 : Cond.initialized (gm_ex x) ∈ gm_tb) (hstr : (M.1.cls, k, tx) ∈ gm_strs)
    (hfit : Bundle.fit (gm_ex x) = true) (hnames : ∀ n ∈ names, Bundle.fit n = true) (hat : ∀ w ∈ Bundle.ownAtoms M.1.cls ic (gm_ex x) names, w ∈ gm_tb ∨ w ∈ gm_hw) (hall : (M.2.2.2.2.1.all fun q => !gm_cov q (pc + 9)) = true)
    (hf : names.length + 3 < M.2.2.2.2.2.1) (hlo : 1 + (st.map fun v => v.category).sum + (13 * (names.length + 1) + 42) ≤ M.2.2.2.2.2.2) (hr : 1 ≤ gm_rc h) (hs : 6 ≤ gm_rs h)
    (kk : K0 (.threw (gm_sz h)) (gm_new h x 0 6)) : gm_A E M pc lv st h (gm_k E K0) := by
  intro p l e R s m args below meth c H ls locs cells slots hc hL hA h1 h2 hl T hT X
  subst hT
  obtain ⟨c1, c2, c3, c4, c5, c6, c7, c8, c9, c10, c11, c12⟩ := hc
  have hc : gm_ctx E M p e R s m args meth c := ⟨c1, c2, c3, c4, c5, c6, c7, c8, c9, c10, c11, c12⟩
  have X' := gm_reroot X (R' := { frames := R.frames, cells := gm_rc h, slots := gm_rs h, locals := R.locals }) (Nat.le_refl _) (Nat.le_refl _) h1 h2
  have hW0 : s.WarmedH (T.setFrames (.invoking m args :: below)).vm := X.warmed
  have hal : s.vm.Alike (T.setFrames (.invoking m args :: below)).vm := hW0.alike
  have hw' : ∀ w ∈ gm_tb, w.before args (T.setFrames (.invoking m args :: below)) = true := gm_words hW0 c4
  have hE' : gm_env E (T.setFrames (.invoking m args :: below)) := c5.moved hW0
  have hhw : ∀ w ∈ gm_hw, w.before args (T.setFrames (.invoking m args :: below)) = true := gm_hw_all c5 hA hW0 rfl
  have hat' : ∀ w ∈ Bundle.ownAtoms M.1.cls ic (gm_ex x) names, w.before args (T.setFrames (.invoking m args :: below)) = true := fun w hw => (hat w hw).elim (hw' w) (hhw w)
  have own' : (T.setFrames (.invoking m args :: below)).vm.findClass M.1.cls = some m.cls := by rw [hal.findClass]; exact hc.own
  obtain ⟨sa, hZ⟩ := hE'.2.2.2.1 _ hstr
  obtain ⟨cX, kX0, hfX, -⟩ := Cond.instantiable_spec (hw' _ hw2)
  have hsz : T.heap.size = gm_sz h := hA.1
  have main : W p l e { frames := R.frames, cells := gm_rc h, slots := gm_rs h, locals := R.locals } (T.setFrames (.invoking m args :: below)) m args below meth c T.heap [] 0 0
      (fun t => t.status = .running ∧ Ended t below (.threw (gm_sz h)) ∧ (T.setFrames (.invoking m args :: below)).WarmedH t.vm ∧ (T.setFrames (.invoking m args :: below)).sameButNew ({ t with vm := (T.setFrames (.invoking m args :: below)).vm } : State) [] 1 6 ∧
        ∃ ce, t.heap[gm_sz h]? = some ce ∧ Bundle.OwnCell args (T.setFrames (.invoking m args :: below)) (gm_ex x) (gm_sz h) (.ref sa) ce) (F0 m pc ls st) := by
    refine W.newcK c1 c2 own' (hw' _ hw1) (hw' _ hw2) (hw' _ hw3) rfl d0 (by show 0 + 1 ≤ gm_rc h; omega) (by show 0 + 6 ≤ gm_rs h; omega) hfX hsz (fun H1 kC hkC g1 g2 g3 => ?_)
    refine lv_dup c1 c2 d1 rfl ?_
    refine va_ldcS c1 c2 own' hZ d2 ?_
    intro T2 hT2 X2
    obtain ⟨U, a1, a2, a3, a4, a5, ce, a6, a7⟩ := X2.ctorThrowS c1 c3 own' hfit hnames hat' (fun q hq => by cases hq) hfX hkC (by rw [hT2]; exact g1) (by show T.heap.size ≤ gm_sz h; omega) (msg := .ref sa) rfl (g := F0 m (pc + 6) ls (.ref sa :: .ref (gm_sz h) :: .ref (gm_sz h) :: st)) rfl (hl.1.trans c7.symm) rfl rfl rfl
      (by rw [c2]; exact d3) (by rw [c2]; exact d4) (fun y hy => by
        have h9 : (y.startPc, y.endPc, y.handlerPc, y.catchType) ∈ M.2.2.2.2.1 := by rw [← c10]; exact List.mem_map.mpr ⟨y, hy, rfl⟩
        have h8 := List.all_eq_true.mp hall _ h9
        have h7 : gm_cov (y.startPc, y.endPc, y.handlerPc, y.catchType) (pc + 9) = false := by simpa using h8
        exact h7)
      (by show names.length + 3 < R.frames; omega) (by show 2 * 0 + (1 + (st.map fun v => v.category).sum) + (13 * (names.length + 1) + 42) ≤ R.locals; omega) c9
    exact ⟨U, a1, a2, a3, a4, a5, ce, a6, a7⟩
  obtain ⟨t, a1, a2, a3, a4, a5, ce, a6, a7⟩ := main T rfl X'
  have hB : T.sameButNew ({ t with vm := T.vm } : State) [] 1 6 := by
    refine ⟨?_, a5.2⟩
    have h9 := a5.1
    rw [State.setFrames_setFrames] at h9
    exact h9
  have hsame : s.sameButNew ({ t with vm := s.vm } : State) (locs ++ []) (cells + 1) (slots + 6) := X.same.trans (hB.setVm s.vm)
  have hlt : gm_sz h < t.heap.size := (Array.getElem?_eq_some_iff.mp a6).1
  have hle : t.heap.size ≤ T.heap.size + 1 := hB.2.2.1
  have hold : ∀ q : Nat, q < gm_sz h → t.heap[q]? = T.heap[q]? := by
    intro q hq
    have hq' : q < T.heap.size := by omega
    obtain ⟨c', b1, b2, b3, b4⟩ := hB.2.2.2.2.2 q T.heap[q] (Array.getElem?_eq_getElem hq')
    have b1' : t.heap[q]? = some c' := b1
    rw [b1', Array.getElem?_eq_getElem hq', gm_cell_ext b2 b3 (fun i => b4 i (by simp))]
  have hA' : gm_abs E s (gm_new h x 0 6) t.heap := by
    refine hA.push (by omega) a6 hold ?_
    have et : gm_tag (gm_new h x 0 6) (gm_sz h) = x := if_pos rfl
    have el : gm_len (gm_new h x 0 6) (gm_sz h) = 0 := if_pos rfl
    unfold gm_ok
    rw [et, el]
    refine ⟨fun q => (by rw [a7.vm] at q; cases q), (by rw [a7.vm]; rfl), ?_, fun j hj => absurd hj (by omega)⟩
    unfold gm_cls
    rw [if_neg (by omega), if_neg (by omega)]
    have h9 := a7.cls
    rw [hal.findClass] at h9
    exact h9
  refine ⟨t, a1, .threw (gm_sz h), gm_new h x 0 6, locs ++ [], cells + 1, slots + 6, kk, a2, a3, State.WarmedH.trans X.warmed (show T.WarmedH t.vm from a4), hsame, by simpa using hL, hA', ?_, ?_⟩
  · show cells + 1 + (gm_rc h - 1) ≤ _; omega
  · show slots + 6 + (gm_rs h - 6) ≤ _; omega
end GX
