/-! Locals as a list of places and values -/
abbrev gm_V : Type := List (Nat × Value)
def gm_get : gm_V → Nat → Option Value
  | [], _ => none
  | q :: t, i => bif q.1 == i then some q.2 else gm_get t i
theorem gm_get_mem {i : Nat} {v : Value} : ∀ {lv : gm_V}, gm_get lv i = some v → (i, v) ∈ lv := by
  intro lv
  induction lv with
  | nil => intro h; cases h
  | cons q t ih =>
    intro h
    rw [gm_get] at h
    by_cases hq : q.1 = i
    · have e1 : (q.1 == i) = true := by simp [hq]
      rw [e1] at h
      have h' : some q.2 = some v := h
      cases h'
      rw [← hq]
      exact List.mem_cons_self
    · have e1 : (q.1 == i) = false := by simp [hq]
      rw [e1] at h
      exact List.mem_cons_of_mem _ (ih h)
theorem gm_get_has {ls : Array Slot} {nL i : Nat} {lv : gm_V} {v : Value} (h : lv_has ls nL lv) (hg : gm_get lv i = some v) : ls[i]? = some (.val v) := h.2.2 (i, v) (gm_get_mem hg)
def gm_ins : gm_V → Nat → Value → gm_V
  | [], i, v => [(i, v)]
  | q :: t, i, v => bif q.1 == i then (i, v) :: t.filter (fun r => !(r.1 == i)) else q :: gm_ins t i v
theorem gm_ins_mem {i : Nat} {v : Value} {q : Nat × Value} : ∀ {lv : gm_V}, q ∈ gm_ins lv i v → q = (i, v) ∨ (q ∈ lv ∧ ¬ q.1 = i) := by
  intro lv
  induction lv with
  | nil => intro h; exact Or.inl (List.mem_singleton.mp h)
  | cons r t ih =>
    intro h
    rw [gm_ins] at h
    by_cases hr : r.1 = i
    · have e1 : (r.1 == i) = true := by simp [hr]
      rw [e1] at h
      have h' : q ∈ (i, v) :: t.filter (fun r => !(r.1 == i)) := h
      rcases List.mem_cons.mp h' with h2 | h2
      · exact Or.inl h2
      · obtain ⟨h3, h4⟩ := List.mem_filter.mp h2
        exact Or.inr ⟨List.mem_cons_of_mem _ h3, by simpa using h4⟩
    · have e1 : (r.1 == i) = false := by simp [hr]
      rw [e1] at h
      have h' : q ∈ r :: gm_ins t i v := h
      rcases List.mem_cons.mp h' with h2 | h2
      · subst h2
        exact Or.inr ⟨List.mem_cons_self, hr⟩
      · rcases ih h2 with h3 | ⟨h3, h4⟩
        · exact Or.inl h3
        · exact Or.inr ⟨List.mem_cons_of_mem _ h3, h4⟩
def gm_set1 (lv : gm_V) (i : Nat) (v : Value) : gm_V := gm_ins (lv.filter (fun q => !(q.1 + 1 == i && q.2.category == 2))) i v
def gm_set2 (lv : gm_V) (i : Nat) (v : Value) : gm_V := gm_ins (lv.filter (fun q => !(q.1 == i + 1) && !(q.1 + 1 == i && q.2.category == 2))) i v
theorem gm_set1_has {ls : Array Slot} {nL i : Nat} {lv : gm_V} {v : Value} (h : lv_has ls nL ((i, v) :: lv.filter (fun q => !(q.1 == i) && !(q.1 + 1 == i && q.2.category == 2)))) : lv_has ls nL (gm_set1 lv i v) := by
  refine ⟨h.1, h.2.1, fun q hq => h.2.2 q ?_⟩
  rcases gm_ins_mem hq with h1 | ⟨h1, h2⟩
  · subst h1; exact List.mem_cons_self
  · obtain ⟨h3, h4⟩ := List.mem_filter.mp h1
    refine List.mem_cons_of_mem _ (List.mem_filter.mpr ⟨h3, ?_⟩)
    rw [h4]
    simp [h2]
theorem gm_set2_has {ls : Array Slot} {nL i : Nat} {lv : gm_V} {v : Value} (h : lv_has ls nL ((i, v) :: lv.filter (fun q => !(q.1 == i) && (!(q.1 == i + 1) && !(q.1 + 1 == i && q.2.category == 2))))) : lv_has ls nL (gm_set2 lv i v) := by
  refine ⟨h.1, h.2.1, fun q hq => h.2.2 q ?_⟩
  rcases gm_ins_mem hq with h1 | ⟨h1, h2⟩
  · subst h1; exact List.mem_cons_self
  · obtain ⟨h3, h4⟩ := List.mem_filter.mp h1
    refine List.mem_cons_of_mem _ (List.mem_filter.mpr ⟨h3, ?_⟩)
    rw [h4]
    simp [h2]
/-! A method: its name, bytes, number of locals, answer, handlers, frames and words of locals that it needs -/
abbrev gm_M : Type := MethodName × ByteArray × Nat × Option FieldType × List (Nat × Nat × Nat × Nat) × Nat × Nat
def gm_ctx (E : gm_E) (M : gm_M) (p : Program) (e : Env) (R : Room) (s : State) (m : MethodId) (args : Array Value) (meth : Method) (c : Code) : Prop :=
  p.tables.exec = Jvm.exec ∧ c.code = M.2.1 ∧ e.platform.stackTraces = false ∧ (∀ w ∈ gm_tb, w.before args s = true) ∧ gm_env E s ∧ s.methodNamed? M.1 = some m ∧ c.maxLocals = M.2.2.1 ∧
  meth.sig.returnType = M.2.2.2.1 ∧ meth.locks = false ∧ c.exceptionTable.toList.map (fun h => (h.startPc, h.endPc, h.handlerPc, h.catchType)) = M.2.2.2.2.1 ∧ M.2.2.2.2.2.1 ≤ R.frames ∧ M.2.2.2.2.2.2 ≤ R.locals
def gm_end (E : gm_E) (R : Room) (s : State) (below : List Frame) (K : Outcome → gm_H → Prop) : State → Prop := fun t =>
  ∃ (o : Outcome) (h' : gm_H) (L : List Loc) (k n : Nat), K o h' ∧ t.status = .running ∧ Ended t below o ∧ s.WarmedH t.vm ∧ s.sameButNew ({ t with vm := s.vm } : State) L k n ∧ (∀ q ∈ L, E.1.heap.size ≤ q.base) ∧ gm_abs E s h' t.heap ∧ k + gm_rc h' ≤ R.cells ∧ n + gm_rs h' ≤ R.slots
/-- what a walk comes to; the ends of a method among them -/
abbrev gm_Q : Type := Program → Room → State → List Frame → State → Prop
def gm_k (E : gm_E) (K : Outcome → gm_H → Prop) : gm_Q := fun _ R s below t => gm_end E R s below K t
/-- the machine, at pc of M with these locals, this stack and this heap, comes to K -/
def gm_A (E : gm_E) (M : gm_M) (pc : Nat) (lv : gm_V) (st : List Value) (h : gm_H) (K : gm_Q) : Prop :=
  ∀ (p : Program) (l : Launch) (e : Env) (R : Room) (s : State) (m : MethodId) (args : Array Value) (below : List Frame) (meth : Method) (c : Code) (H : Heap) (ls : Array Slot) (locs : List Loc) (cells slots : Nat),
    gm_ctx E M p e R s m args meth c → (∀ q ∈ locs, E.1.heap.size ≤ q.base) → gm_abs E s h H → cells + gm_rc h ≤ R.cells → slots + gm_rs h ≤ R.slots → lv_has ls M.2.2.1 lv →
    W p l e R s m args below meth c H locs cells slots (K p R s below) (F0 m pc ls st)
section GF
variable {E : gm_E} {M : gm_M} {pc pc' : Nat} {lv lv' : gm_V} {st st' : List Value} {h : gm_H} {K : gm_Q}
theorem gm_fr (row : ∀ {p : Program} {l : Launch} {e : Env} {R : Room} {s : State} {m : MethodId} {args : Array Value} {below : List Frame} {meth : Method} {c : Code} {H : Heap} {ls : Array Slot} {locs : List Loc} {cells slots : Nat} {Q : State → Prop},
      p.tables.exec = Jvm.exec → c.code = M.2.1 → lv_has ls M.2.2.1 lv → W p l e R s m args below meth c H locs cells slots Q (F0 m pc' ls st') → W p l e R s m args below meth c H locs cells slots Q (F0 m pc ls st))
    (k : gm_A E M pc' lv st' h K) : gm_A E M pc lv st h K := by
  intro p l e R s m args below meth c H ls locs cells slots hc hL hA h1 h2 hl
  exact row hc.1 hc.2.1 hl (k p l e R s m args below meth c H ls locs cells slots hc hL hA h1 h2 hl)
theorem gm_frS (row : ∀ {p : Program} {l : Launch} {e : Env} {R : Room} {s : State} {m : MethodId} {args : Array Value} {below : List Frame} {meth : Method} {c : Code} {H : Heap} {ls : Array Slot} {locs : List Loc} {cells slots : Nat} {Q : State → Prop},
      p.tables.exec = Jvm.exec → c.code = M.2.1 → lv_has ls M.2.2.1 lv → (∀ ls' : Array Slot, lv_has ls' M.2.2.1 lv' → W p l e R s m args below meth c H locs cells slots Q (F0 m pc' ls' st')) → W p l e R s m args below meth c H locs cells slots Q (F0 m pc ls st))
    (k : gm_A E M pc' lv' st' h K) : gm_A E M pc lv st h K := by
  intro p l e R s m args below meth c H ls locs cells slots hc hL hA h1 h2 hl
  exact row hc.1 hc.2.1 hl (fun ls' hl' => k p l e R s m args below meth c H ls' locs cells slots hc hL hA h1 h2 hl')
theorem gm_lv (ks : List Nat) (hk : lv_pick lv ks = lv') (k : gm_A E M pc lv' st h K) : gm_A E M pc lv st h K := by
  intro p l e R s m args below meth c H ls locs cells slots hc hL hA h1 h2 hl
  exact k p l e R s m args below meth c H ls locs cells slots hc hL hA h1 h2 (lv_sub hl ks hk)
theorem gm_lvEq (hk : lv = lv') (k : gm_A E M pc lv' st h K) : gm_A E M pc lv st h K := hk ▸ k
theorem gm_mono {K1 K2 : Outcome → gm_H → Prop} (hK : ∀ o h', K1 o h' → K2 o h') (k : gm_A E M pc lv st h (gm_k E K1)) : gm_A E M pc lv st h (gm_k E K2) := by
  intro p l e R s m args below meth c H ls locs cells slots hc hL hA h1 h2 hl T hT X
  obtain ⟨t, a, o, h', L, kk, n, b1, b2⟩ := k p l e R s m args below meth c H ls locs cells slots hc hL hA h1 h2 hl T hT X
  exact ⟨t, a, o, h', L, kk, n, hK o h' b1, b2⟩
theorem gm_iconst {n : Int} (hd : decode M.2.1 pc = .ok (.iconst n, 1)) (k : gm_A E M (pc + 1) lv (z_i n :: st) h K) : gm_A E M pc lv st h K := gm_fr (fun hx hb _ w => lv_iconst hx hb hd rfl w) k
theorem gm_bipush {n : Int} (hd : decode M.2.1 pc = .ok (.bipush n, 2)) (hv : (Int8.ofInt n).toInt32 = Int32.ofInt n) (k : gm_A E M (pc + 2) lv (z_i n :: st) h K) : gm_A E M pc lv st h K := gm_fr (fun hx hb _ w => lv_bipush hx hb hd hv w) k
theorem gm_sipush {n : Int} (hd : decode M.2.1 pc = .ok (.sipush n, 3)) (hv : (Int16.ofInt n).toInt32 = Int32.ofInt n) (k : gm_A E M (pc + 3) lv (z_i n :: st) h K) : gm_A E M pc lv st h K := gm_fr (fun hx hb _ w => lv_sipush hx hb hd hv w) k
theorem gm_lconst {n : Fin 2} {z : Int} (hd : decode M.2.1 pc = .ok (.lconst n, 1)) (hv : Int64.ofNat (n : Nat) = Int64.ofInt z) (k : gm_A E M (pc + 1) lv (z_l z :: st) h K) : gm_A E M pc lv st h K := gm_fr (fun hx hb _ w => lv_lconst hx hb hd hv w) k
theorem gm_null (hd : decode M.2.1 pc = .ok (.aconst_null, 1)) (k : gm_A E M (pc + 1) lv (.null :: st) h K) : gm_A E M pc lv st h K := gm_fr (fun hx hb _ w => lv_null hx hb hd w) k
theorem gm_iload_n {i : Fin 4} {x : Int} (hd : decode M.2.1 pc = .ok (.iload_n i, 1)) (hg : gm_get lv (i : Nat) = some (z_i x)) (k : gm_A E M (pc + 1) lv (z_i x :: st) h K) : gm_A E M pc lv st h K := gm_fr (fun hx hb hl w => lv_iload_n hx hb hd rfl (gm_get_has hl hg) w) k
theorem gm_iload {i : Nat} {x : Int} (hd : decode M.2.1 pc = .ok (.iload i, 2)) (hg : gm_get lv i = some (z_i x)) (k : gm_A E M (pc + 2) lv (z_i x :: st) h K) : gm_A E M pc lv st h K := gm_fr (fun hx hb hl w => lv_iload hx hb hd (gm_get_has hl hg) w) k
theorem gm_lload_n {i : Fin 4} {x : Int} (hd : decode M.2.1 pc = .ok (.lload_n i, 1)) (hg : gm_get lv (i : Nat) = some (z_l x)) (k : gm_A E M (pc + 1) lv (z_l x :: st) h K) : gm_A E M pc lv st h K := gm_fr (fun hx hb hl w => lv_lload_n hx hb hd rfl (gm_get_has hl hg) w) k
theorem gm_lload {i : Nat} {x : Int} (hd : decode M.2.1 pc = .ok (.lload i, 2)) (hg : gm_get lv i = some (z_l x)) (k : gm_A E M (pc + 2) lv (z_l x :: st) h K) : gm_A E M pc lv st h K := gm_fr (fun hx hb hl w => lv_lload hx hb hd (gm_get_has hl hg) w) k
theorem gm_aload_n {i : Fin 4} {x : Nat} (hd : decode M.2.1 pc = .ok (.aload_n i, 1)) (hg : gm_get lv (i : Nat) = some (.ref x)) (k : gm_A E M (pc + 1) lv (.ref x :: st) h K) : gm_A E M pc lv st h K := gm_fr (fun hx hb hl w => lv_aload_n hx hb hd rfl (gm_get_has hl hg) w) k
theorem gm_aload {i : Nat} {x : Nat} (hd : decode M.2.1 pc = .ok (.aload i, 2)) (hg : gm_get lv i = some (.ref x)) (k : gm_A E M (pc + 2) lv (.ref x :: st) h K) : gm_A E M pc lv st h K := gm_fr (fun hx hb hl w => lv_aload hx hb hd (gm_get_has hl hg) w) k
theorem gm_istore_n {i : Fin 4} {x : Int} (hd : decode M.2.1 pc = .ok (.istore_n i, 1)) (hn : (i : Nat) < M.2.2.1) (hl' : gm_set1 lv (i : Nat) (z_i x) = lv') (k : gm_A E M (pc + 1) lv' st h K) : gm_A E M pc lv (z_i x :: st) h K := gm_frS (fun hx hb hl w => lv_istore_n hx hb hd rfl hl hn rfl (fun ls' q => w ls' (hl' ▸ gm_set1_has q))) k
theorem gm_istore {i : Nat} {x : Int} (hd : decode M.2.1 pc = .ok (.istore i, 2)) (hn : i < M.2.2.1) (hl' : gm_set1 lv i (z_i x) = lv') (k : gm_A E M (pc + 2) lv' st h K) : gm_A E M pc lv (z_i x :: st) h K := gm_frS (fun hx hb hl w => lv_istore hx hb hd hl hn rfl (fun ls' q => w ls' (hl' ▸ gm_set1_has q))) k
theorem gm_lstore_n {i : Fin 4} {x : Int} (hd : decode M.2.1 pc = .ok (.lstore_n i, 1)) (hn : (i : Nat) + 1 < M.2.2.1) (hl' : gm_set2 lv (i : Nat) (z_l x) = lv') (k : gm_A E M (pc + 1) lv' st h K) : gm_A E M pc lv (z_l x :: st) h K := gm_frS (fun hx hb hl w => lv_lstore_n hx hb hd rfl hl hn rfl (fun ls' q => w ls' (hl' ▸ gm_set2_has q))) k
theorem gm_lstore {i : Nat} {x : Int} (hd : decode M.2.1 pc = .ok (.lstore i, 2)) (hn : i + 1 < M.2.2.1) (hl' : gm_set2 lv i (z_l x) = lv') (k : gm_A E M (pc + 2) lv' st h K) : gm_A E M pc lv (z_l x :: st) h K := gm_frS (fun hx hb hl w => lv_lstore hx hb hd hl hn rfl (fun ls' q => w ls' (hl' ▸ gm_set2_has q))) k
theorem gm_astore_n {i : Fin 4} {x : Nat} (hd : decode M.2.1 pc = .ok (.astore_n i, 1)) (hn : (i : Nat) < M.2.2.1) (hl' : gm_set1 lv (i : Nat) (.ref x) = lv') (k : gm_A E M (pc + 1) lv' st h K) : gm_A E M pc lv (.ref x :: st) h K := gm_frS (fun hx hb hl w => lv_astore_n hx hb hd rfl hl hn rfl (fun ls' q => w ls' (hl' ▸ gm_set1_has q))) k
theorem gm_astore {i : Nat} {x : Nat} (hd : decode M.2.1 pc = .ok (.astore i, 2)) (hn : i < M.2.2.1) (hl' : gm_set1 lv i (.ref x) = lv') (k : gm_A E M (pc + 2) lv' st h K) : gm_A E M pc lv (.ref x :: st) h K := gm_frS (fun hx hb hl w => lv_astore hx hb hd hl hn rfl (fun ls' q => w ls' (hl' ▸ gm_set1_has q))) k
theorem gm_iinc {i : Nat} {n : Int} {x : Int} (hd : decode M.2.1 pc = .ok (.iinc i n, 3)) (hg : gm_get lv i = some (z_i x)) (hn : i < M.2.2.1) (hl' : gm_set1 lv i (z_i (x + n)) = lv') (k : gm_A E M (pc + 3) lv' st h K) : gm_A E M pc lv st h K := by
  obtain ⟨j, hj⟩ := List.getElem?_of_mem (gm_get_mem hg)
  exact gm_frS (fun hx hb hl w => lv_iinc hx hb hd hl hj (v := Int32.ofInt (x + n)) (by rw [Int32.ofInt_add]) hn rfl (fun ls' q => w ls' (hl' ▸ gm_set1_has q))) k
theorem gm_iadd {x y : Int} (hd : decode M.2.1 pc = .ok (.iadd, 1)) (k : gm_A E M (pc + 1) lv (z_i (x + y) :: st) h K) : gm_A E M pc lv (z_i y :: z_i x :: st) h K := gm_fr (fun hx hb _ w => lv_iadd hx hb hd (by rw [z_add]; exact w)) k
theorem gm_isub {x y : Int} (hd : decode M.2.1 pc = .ok (.isub, 1)) (k : gm_A E M (pc + 1) lv (z_i (x - y) :: st) h K) : gm_A E M pc lv (z_i y :: z_i x :: st) h K := gm_fr (fun hx hb _ w => lv_isub hx hb hd (by rw [z_sub]; exact w)) k
theorem gm_imul {x y : Int} (hd : decode M.2.1 pc = .ok (.imul, 1)) (k : gm_A E M (pc + 1) lv (z_i (x * y) :: st) h K) : gm_A E M pc lv (z_i y :: z_i x :: st) h K := gm_fr (fun hx hb _ w => lv_imul hx hb hd (by rw [z_mul]; exact w)) k
theorem gm_ineg {x : Int} (hd : decode M.2.1 pc = .ok (.ineg, 1)) (k : gm_A E M (pc + 1) lv (z_i (-x) :: st) h K) : gm_A E M pc lv (z_i x :: st) h K := gm_fr (fun hx hb _ w => lv_ineg hx hb hd (by rw [z_neg]; exact w)) k
theorem gm_idiv {x y : Int} (hd : decode M.2.1 pc = .ok (.idiv, 1)) (hx : zR x) (hy : zR y) (hne : y ≠ 0) (k : gm_A E M (pc + 1) lv (z_i (x.tdiv y) :: st) h K) : gm_A E M pc lv (z_i y :: z_i x :: st) h K := gm_fr (fun hx' hb _ w => lv_idiv hx' hb hd (z_ne hy hne) (by rw [z_div hx hy]; exact w)) k
theorem gm_irem {x y : Int} (hd : decode M.2.1 pc = .ok (.irem, 1)) (hx : zR x) (hy : zR y) (hne : y ≠ 0) (k : gm_A E M (pc + 1) lv (z_i (x.tmod y) :: st) h K) : gm_A E M pc lv (z_i y :: z_i x :: st) h K := gm_fr (fun hx' hb _ w => lv_irem hx' hb hd (z_ne hy hne) (by rw [z_rem hx hy]; exact w)) k
theorem gm_iand {x y : Int} (hd : decode M.2.1 pc = .ok (.iand, 1)) (k : gm_A E M (pc + 1) lv (z_i (z_and x y) :: st) h K) : gm_A E M pc lv (z_i y :: z_i x :: st) h K := gm_fr (fun hx hb _ w => lv_iand hx hb hd (by rw [z_andE]; exact w)) k
theorem gm_ior {x y : Int} (hd : decode M.2.1 pc = .ok (.ior, 1)) (k : gm_A E M (pc + 1) lv (z_i (z_or x y) :: st) h K) : gm_A E M pc lv (z_i y :: z_i x :: st) h K := gm_fr (fun hx hb _ w => lv_ior hx hb hd (by rw [z_orE]; exact w)) k
theorem gm_ishl {x y : Int} (hd : decode M.2.1 pc = .ok (.ishl, 1)) (k : gm_A E M (pc + 1) lv (z_i (z_shl x y) :: st) h K) : gm_A E M pc lv (z_i y :: z_i x :: st) h K := gm_fr (fun hx hb _ w => lv_ishl hx hb hd (by rw [z_shlE]; exact w)) k
theorem gm_ishr {x y : Int} (hd : decode M.2.1 pc = .ok (.ishr, 1)) (k : gm_A E M (pc + 1) lv (z_i (z_shr x y) :: st) h K) : gm_A E M pc lv (z_i y :: z_i x :: st) h K := gm_fr (fun hx hb _ w => lv_ishr hx hb hd (by rw [z_shrE]; exact w)) k
theorem gm_ladd {x y : Int} (hd : decode M.2.1 pc = .ok (.ladd, 1)) (k : gm_A E M (pc + 1) lv (z_l (x + y) :: st) h K) : gm_A E M pc lv (z_l y :: z_l x :: st) h K := gm_fr (fun hx hb _ w => lv_ladd hx hb hd (by rw [z_ladd]; exact w)) k
theorem gm_lmul {x y : Int} (hd : decode M.2.1 pc = .ok (.lmul, 1)) (k : gm_A E M (pc + 1) lv (z_l (x * y) :: st) h K) : gm_A E M pc lv (z_l y :: z_l x :: st) h K := gm_fr (fun hx hb _ w => lv_lmul hx hb hd (by rw [z_lmul]; exact w)) k
theorem gm_ldiv {x y : Int} (hd : decode M.2.1 pc = .ok (.ldiv, 1)) (hx : zRL x) (hy : zRL y) (hne : y ≠ 0) (k : gm_A E M (pc + 1) lv (z_l (x.tdiv y) :: st) h K) : gm_A E M pc lv (z_l y :: z_l x :: st) h K := gm_fr (fun hx' hb _ w => lv_ldiv hx' hb hd (z_lne hy hne) (by rw [z_ldiv hx hy]; exact w)) k
theorem gm_i2l {x : Int} (hd : decode M.2.1 pc = .ok (.i2l, 1)) (hx : zR x) (k : gm_A E M (pc + 1) lv (z_l x :: st) h K) : gm_A E M pc lv (z_i x :: st) h K := gm_fr (fun hx' hb _ w => lv_i2l hx' hb hd (z_i2l hx) w) k
theorem gm_l2i {x : Int} (hd : decode M.2.1 pc = .ok (.l2i, 1)) (k : gm_A E M (pc + 1) lv (z_i x :: st) h K) : gm_A E M pc lv (z_l x :: st) h K := gm_fr (fun hx hb _ w => lv_l2i hx hb hd Int64.toInt32_ofInt w) k
theorem gm_i2c {x : Int} (hd : decode M.2.1 pc = .ok (.i2c, 1)) (k : gm_A E M (pc + 1) lv (z_i (x % 65536) :: st) h K) : gm_A E M pc lv (z_i x :: st) h K := gm_fr (fun hx hb _ w => lv_i2c hx hb hd (z_i2c x) w) k
theorem gm_lcmp {x y : Int} (hd : decode M.2.1 pc = .ok (.lcmp, 1)) (hx : zRL x) (hy : zRL y) (k : gm_A E M (pc + 1) lv (z_i (z_cmp x y) :: st) h K) : gm_A E M pc lv (z_l y :: z_l x :: st) h K := gm_fr (fun hx' hb _ w => W.lcmp hx' hb hd (by rw [z_cmpE hx hy]; exact w)) k
theorem gm_dup {v : Value} (hd : decode M.2.1 pc = .ok (.dup, 1)) (hv : v.category = 1) (k : gm_A E M (pc + 1) lv (v :: v :: st) h K) : gm_A E M pc lv (v :: st) h K := gm_fr (fun hx hb _ w => lv_dup hx hb hd hv w) k
theorem gm_pop {v : Value} (hd : decode M.2.1 pc = .ok (.pop, 1)) (hv : v.category = 1) (k : gm_A E M (pc + 1) lv st h K) : gm_A E M pc lv (v :: st) h K := gm_fr (fun hx hb _ w => lv_pop hx hb hd hv w) k
theorem gm_dup2 {v u : Value} (hd : decode M.2.1 pc = .ok (.dup2, 1)) (hv : v.category = 1) (hu : u.category = 1) (k : gm_A E M (pc + 1) lv (v :: u :: v :: u :: st) h K) : gm_A E M pc lv (v :: u :: st) h K := gm_fr (fun hx hb _ w => lv_dup2_11 hx hb hd hv hu w) k
theorem gm_goto {off : Int} {tgt : Nat} (hd : decode M.2.1 pc = .ok (.goto off, 3)) (ht : (pc : Int) + off = (tgt : Int)) (k : gm_A E M tgt lv st h K) : gm_A E M pc lv st h K := gm_fr (fun hx hb _ w => lv_goto hx hb hd ht w) k
theorem gm_if_eq {x : Int} {off : Int} {tgt : Nat} (hd : decode M.2.1 pc = .ok (.ifCond .eq off, 3)) (ht : (pc : Int) + off = (tgt : Int)) (hx : zR x) (kt : x = 0 → gm_A E M tgt lv st h K) (kf : x ≠ 0 → gm_A E M (pc + 3) lv st h K) : gm_A E M pc lv (z_i x :: st) h K := by
  intro p l e R s m args below meth c H ls locs cells slots hc hL hA h1 h2 hl
  exact lv_if_eq hc.1 hc.2.1 hd ht (fun q => kt (((z_eq0 hx)).mp q) p l e R s m args below meth c H ls locs cells slots hc hL hA h1 h2 hl) (fun q => kf (fun z => q (((z_eq0 hx)).mpr z)) p l e R s m args below meth c H ls locs cells slots hc hL hA h1 h2 hl)
theorem gm_icmp_eq {x y : Int} {off : Int} {tgt : Nat} (hd : decode M.2.1 pc = .ok (.if_icmp .eq off, 3)) (ht : (pc : Int) + off = (tgt : Int)) (hx : zR x) (hy : zR y) (kt : x = y → gm_A E M tgt lv st h K) (kf : x ≠ y → gm_A E M (pc + 3) lv st h K) : gm_A E M pc lv (z_i y :: z_i x :: st) h K := by
  intro p l e R s m args below meth c H ls locs cells slots hc hL hA h1 h2 hl
  exact lv_icmp_eq hc.1 hc.2.1 hd ht (fun q => kt (((z_eq hx hy)).mp q) p l e R s m args below meth c H ls locs cells slots hc hL hA h1 h2 hl) (fun q => kf (fun z => q (((z_eq hx hy)).mpr z)) p l e R s m args below meth c H ls locs cells slots hc hL hA h1 h2 hl)
theorem gm_if_ne {x : Int} {off : Int} {tgt : Nat} (hd : decode M.2.1 pc = .ok (.ifCond .ne off, 3)) (ht : (pc : Int) + off = (tgt : Int)) (hx : zR x) (kt : x ≠ 0 → gm_A E M tgt lv st h K) (kf : x = 0 → gm_A E M (pc + 3) lv st h K) : gm_A E M pc lv (z_i x :: st) h K := by
  intro p l e R s m args below meth c H ls locs cells slots hc hL hA h1 h2 hl
  exact lv_if_ne hc.1 hc.2.1 hd ht (fun q => kt (fun z => q (((z_eq0 hx)).mpr z)) p l e R s m args below meth c H ls locs cells slots hc hL hA h1 h2 hl) (fun q => kf (((z_eq0 hx)).mp q) p l e R s m args below meth c H ls locs cells slots hc hL hA h1 h2 hl)
theorem gm_icmp_ne {x y : Int} {off : Int} {tgt : Nat} (hd : decode M.2.1 pc = .ok (.if_icmp .ne off, 3)) (ht : (pc : Int) + off = (tgt : Int)) (hx : zR x) (hy : zR y) (kt : x ≠ y → gm_A E M tgt lv st h K) (kf : x = y → gm_A E M (pc + 3) lv st h K) : gm_A E M pc lv (z_i y :: z_i x :: st) h K := by
  intro p l e R s m args below meth c H ls locs cells slots hc hL hA h1 h2 hl
  exact lv_icmp_ne hc.1 hc.2.1 hd ht (fun q => kt (fun z => q (((z_eq hx hy)).mpr z)) p l e R s m args below meth c H ls locs cells slots hc hL hA h1 h2 hl) (fun q => kf (((z_eq hx hy)).mp q) p l e R s m args below meth c H ls locs cells slots hc hL hA h1 h2 hl)
theorem gm_if_lt {x : Int} {off : Int} {tgt : Nat} (hd : decode M.2.1 pc = .ok (.ifCond .lt off, 3)) (ht : (pc : Int) + off = (tgt : Int)) (hx : zR x) (kt : x < 0 → gm_A E M tgt lv st h K) (kf : 0 ≤ x → gm_A E M (pc + 3) lv st h K) : gm_A E M pc lv (z_i x :: st) h K := by
  intro p l e R s m args below meth c H ls locs cells slots hc hL hA h1 h2 hl
  exact lv_if_lt hc.1 hc.2.1 hd ht (fun q => kt (((z_lt0 hx)).mp q) p l e R s m args below meth c H ls locs cells slots hc hL hA h1 h2 hl) (fun q => kf (by have z := mt ((z_lt0 hx)).mpr q; omega) p l e R s m args below meth c H ls locs cells slots hc hL hA h1 h2 hl)
theorem gm_icmp_lt {x y : Int} {off : Int} {tgt : Nat} (hd : decode M.2.1 pc = .ok (.if_icmp .lt off, 3)) (ht : (pc : Int) + off = (tgt : Int)) (hx : zR x) (hy : zR y) (kt : x < y → gm_A E M tgt lv st h K) (kf : y ≤ x → gm_A E M (pc + 3) lv st h K) : gm_A E M pc lv (z_i y :: z_i x :: st) h K := by
  intro p l e R s m args below meth c H ls locs cells slots hc hL hA h1 h2 hl
  exact lv_icmp_lt hc.1 hc.2.1 hd ht (fun q => kt (((z_lt hx hy)).mp q) p l e R s m args below meth c H ls locs cells slots hc hL hA h1 h2 hl) (fun q => kf (by have z := mt ((z_lt hx hy)).mpr q; omega) p l e R s m args below meth c H ls locs cells slots hc hL hA h1 h2 hl)
theorem gm_if_ge {x : Int} {off : Int} {tgt : Nat} (hd : decode M.2.1 pc = .ok (.ifCond .ge off, 3)) (ht : (pc : Int) + off = (tgt : Int)) (hx : zR x) (kt : 0 ≤ x → gm_A E M tgt lv st h K) (kf : x < 0 → gm_A E M (pc + 3) lv st h K) : gm_A E M pc lv (z_i x :: st) h K := by
  intro p l e R s m args below meth c H ls locs cells slots hc hL hA h1 h2 hl
  exact lv_if_ge hc.1 hc.2.1 hd ht (fun q => kt (((z_ge0 hx)).mp q) p l e R s m args below meth c H ls locs cells slots hc hL hA h1 h2 hl) (fun q => kf (by have z := mt ((z_ge0 hx)).mpr q; omega) p l e R s m args below meth c H ls locs cells slots hc hL hA h1 h2 hl)
theorem gm_icmp_ge {x y : Int} {off : Int} {tgt : Nat} (hd : decode M.2.1 pc = .ok (.if_icmp .ge off, 3)) (ht : (pc : Int) + off = (tgt : Int)) (hx : zR x) (hy : zR y) (kt : y ≤ x → gm_A E M tgt lv st h K) (kf : x < y → gm_A E M (pc + 3) lv st h K) : gm_A E M pc lv (z_i y :: z_i x :: st) h K := by
  intro p l e R s m args below meth c H ls locs cells slots hc hL hA h1 h2 hl
  exact lv_icmp_ge hc.1 hc.2.1 hd ht (fun q => kt (((z_ge hx hy)).mp q) p l e R s m args below meth c H ls locs cells slots hc hL hA h1 h2 hl) (fun q => kf (by have z := mt ((z_ge hx hy)).mpr q; omega) p l e R s m args below meth c H ls locs cells slots hc hL hA h1 h2 hl)
theorem gm_if_gt {x : Int} {off : Int} {tgt : Nat} (hd : decode M.2.1 pc = .ok (.ifCond .gt off, 3)) (ht : (pc : Int) + off = (tgt : Int)) (hx : zR x) (kt : 0 < x → gm_A E M tgt lv st h K) (kf : x ≤ 0 → gm_A E M (pc + 3) lv st h K) : gm_A E M pc lv (z_i x :: st) h K := by
  intro p l e R s m args below meth c H ls locs cells slots hc hL hA h1 h2 hl
  exact lv_if_gt hc.1 hc.2.1 hd ht (fun q => kt (((z_gt0 hx)).mp q) p l e R s m args below meth c H ls locs cells slots hc hL hA h1 h2 hl) (fun q => kf (by have z := mt ((z_gt0 hx)).mpr q; omega) p l e R s m args below meth c H ls locs cells slots hc hL hA h1 h2 hl)
theorem gm_icmp_gt {x y : Int} {off : Int} {tgt : Nat} (hd : decode M.2.1 pc = .ok (.if_icmp .gt off, 3)) (ht : (pc : Int) + off = (tgt : Int)) (hx : zR x) (hy : zR y) (kt : y < x → gm_A E M tgt lv st h K) (kf : x ≤ y → gm_A E M (pc + 3) lv st h K) : gm_A E M pc lv (z_i y :: z_i x :: st) h K := by
  intro p l e R s m args below meth c H ls locs cells slots hc hL hA h1 h2 hl
  exact lv_icmp_gt hc.1 hc.2.1 hd ht (fun q => kt (((z_gt hx hy)).mp q) p l e R s m args below meth c H ls locs cells slots hc hL hA h1 h2 hl) (fun q => kf (by have z := mt ((z_gt hx hy)).mpr q; omega) p l e R s m args below meth c H ls locs cells slots hc hL hA h1 h2 hl)
theorem gm_if_le {x : Int} {off : Int} {tgt : Nat} (hd : decode M.2.1 pc = .ok (.ifCond .le off, 3)) (ht : (pc : Int) + off = (tgt : Int)) (hx : zR x) (kt : x ≤ 0 → gm_A E M tgt lv st h K) (kf : 0 < x → gm_A E M (pc + 3) lv st h K) : gm_A E M pc lv (z_i x :: st) h K := by
  intro p l e R s m args below meth c H ls locs cells slots hc hL hA h1 h2 hl
  exact lv_if_le hc.1 hc.2.1 hd ht (fun q => kt (((z_le0 hx)).mp q) p l e R s m args below meth c H ls locs cells slots hc hL hA h1 h2 hl) (fun q => kf (by have z := mt ((z_le0 hx)).mpr q; omega) p l e R s m args below meth c H ls locs cells slots hc hL hA h1 h2 hl)
theorem gm_icmp_le {x y : Int} {off : Int} {tgt : Nat} (hd : decode M.2.1 pc = .ok (.if_icmp .le off, 3)) (ht : (pc : Int) + off = (tgt : Int)) (hx : zR x) (hy : zR y) (kt : x ≤ y → gm_A E M tgt lv st h K) (kf : y < x → gm_A E M (pc + 3) lv st h K) : gm_A E M pc lv (z_i y :: z_i x :: st) h K := by
  intro p l e R s m args below meth c H ls locs cells slots hc hL hA h1 h2 hl
  exact lv_icmp_le hc.1 hc.2.1 hd ht (fun q => kt (((z_le hx hy)).mp q) p l e R s m args below meth c H ls locs cells slots hc hL hA h1 h2 hl) (fun q => kf (by have z := mt ((z_le hx hy)).mpr q; omega) p l e R s m args below meth c H ls locs cells slots hc hL hA h1 h2 hl)
theorem gm_dup_x1 {v u : Value} (hd : decode M.2.1 pc = .ok (.dup_x1, 1)) (hv : v.category = 1) (hu : u.category = 1) (k : gm_A E M (pc + 1) lv (v :: u :: v :: st) h K) : gm_A E M pc lv (v :: u :: st) h K := gm_fr (fun hx hb _ w => lv_dup_x1 hx hb hd hv hu w) k
theorem gm_ifnonnull {x : Nat} {off : Int} {tgt : Nat} (hd : decode M.2.1 pc = .ok (.ifnonnull off, 3)) (ht : (pc : Int) + off = (tgt : Int)) (k : gm_A E M tgt lv st h K) : gm_A E M pc lv (.ref x :: st) h K := gm_fr (fun hx hb _ w => lv_ifnonnull hx hb hd ht w) k
theorem gm_ifnonnullN {off : Int} (hd : decode M.2.1 pc = .ok (.ifnonnull off, 3)) (k : gm_A E M (pc + 3) lv st h K) : gm_A E M pc lv (.null :: st) h K := gm_fr (fun hx hb _ w => lv_ifnonnullN hx hb hd w) k
theorem gm_ifnull {x : Nat} {off : Int} (hd : decode M.2.1 pc = .ok (.ifnull off, 3)) (k : gm_A E M (pc + 3) lv st h K) : gm_A E M pc lv (.ref x :: st) h K := gm_fr (fun hx hb _ w => lv_ifnull hx hb hd w) k
theorem gm_ifnullN {off : Int} {tgt : Nat} (hd : decode M.2.1 pc = .ok (.ifnull off, 3)) (ht : (pc : Int) + off = (tgt : Int)) (k : gm_A E M tgt lv st h K) : gm_A E M pc lv (.null :: st) h K := gm_fr (fun hx hb _ w => lv_ifnullN hx hb hd ht w) k
theorem gm_tableIn {dflt lo hi : Int} {offs : Array Int} {len : Nat} {x : Int} {off : Int} {tgt : Nat} (hd : decode M.2.1 pc = .ok (.tableswitch dflt lo hi offs, len)) (hx : zR x) (h1 : lo ≤ x) (h2 : x ≤ hi) (ho : offs[(x - lo).toNat]? = some off) (ht : (pc : Int) + off = (tgt : Int)) (k : gm_A E M tgt lv st h K) : gm_A E M pc lv (z_i x :: st) h K := gm_fr (fun hx' hb _ w => lv_tableIn hx' hb hd (by rw [z_toInt hx]; omega) (by rw [z_toInt hx]; omega) (by rw [z_toInt hx]; exact ho) ht w) k
theorem gm_tableOut {dflt lo hi : Int} {offs : Array Int} {len : Nat} {x : Int} {tgt : Nat} (hd : decode M.2.1 pc = .ok (.tableswitch dflt lo hi offs, len)) (hx : zR x) (h1 : x < lo ∨ hi < x) (ht : (pc : Int) + dflt = (tgt : Int)) (k : gm_A E M tgt lv st h K) : gm_A E M pc lv (z_i x :: st) h K := gm_fr (fun hx' hb _ w => lv_tableOut hx' hb hd (by rw [z_toInt hx]; exact h1) ht w) k
theorem gm_acmp_eq {rx ry : Option Nat} {off : Int} {tgt : Nat} (hd : decode M.2.1 pc = .ok (.if_acmp .eq off, 3)) (ht : (pc : Int) + off = (tgt : Int)) (kt : rx = ry → gm_A E M tgt lv st h K) (kf : ¬ rx = ry → gm_A E M (pc + 3) lv st h K) : gm_A E M pc lv (va_rf ry :: va_rf rx :: st) h K := by
  intro p l e R s m args below meth c H ls locs cells slots hc hL hA h1 h2 hl
  exact lv_acmp_eq hc.1 hc.2.1 hd ht (fun q => kt q p l e R s m args below meth c H ls locs cells slots hc hL hA h1 h2 hl) (fun q => kf q p l e R s m args below meth c H ls locs cells slots hc hL hA h1 h2 hl)
theorem gm_acmp_ne {rx ry : Option Nat} {off : Int} {tgt : Nat} (hd : decode M.2.1 pc = .ok (.if_acmp .ne off, 3)) (ht : (pc : Int) + off = (tgt : Int)) (kt : ¬ rx = ry → gm_A E M tgt lv st h K) (kf : rx = ry → gm_A E M (pc + 3) lv st h K) : gm_A E M pc lv (va_rf ry :: va_rf rx :: st) h K := by
  intro p l e R s m args below meth c H ls locs cells slots hc hL hA h1 h2 hl
  exact lv_acmp_ne hc.1 hc.2.1 hd ht (fun q => kt q p l e R s m args below meth c H ls locs cells slots hc hL hA h1 h2 hl) (fun q => kf q p l e R s m args below meth c H ls locs cells slots hc hL hA h1 h2 hl)
theorem gm_ctx.own {p : Program} {e : Env} {R : Room} {s : State} {m : MethodId} {args : Array Value} {meth : Method} {c : Code} (hc : gm_ctx E M p e R s m args meth c) : s.vm.findClass M.1.cls = some m.cls := findClass_of_methodNamed hc.2.2.2.2.2.1
theorem gm_ctx.word {p : Program} {e : Env} {R : Room} {s : State} {m : MethodId} {args : Array Value} {meth : Method} {c : Code} (hc : gm_ctx E M p e R s m args meth c) {w : Cond} (hw : w ∈ gm_tb) : w.before args s = true := hc.2.2.2.1 w hw
theorem gm_ldc {i : Nat} {z : Int} {v : Int32} (hd : decode M.2.1 pc = .ok (.ldc i, 2)) (hw : Cond.constant M.1.cls i v ∈ gm_tb) (hz : v = Int32.ofInt z) (k : gm_A E M (pc + 2) lv (z_i z :: st) h K) : gm_A E M pc lv st h K := by
  intro p l e R s m args below meth c H ls locs cells slots hc hL hA h1 h2 hl
  subst hz
  exact W.ldc hc.1 hc.2.1 hc.own (hc.word hw) rfl hd (k p l e R s m args below meth c H ls locs cells slots hc hL hA h1 h2 hl)
theorem gm_ldc2 {i : Nat} {z : Int} {v : Int64} (hd : decode M.2.1 pc = .ok (.ldc2_w i, 3)) (hw : Cond.constantLong M.1.cls i v ∈ gm_tb) (hz : v = Int64.ofInt z) (k : gm_A E M (pc + 3) lv (z_l z :: st) h K) : gm_A E M pc lv st h K := by
  intro p l e R s m args below meth c H ls locs cells slots hc hL hA h1 h2 hl
  subst hz
  exact W.ldc2 hc.1 hc.2.1 hc.own (hc.word hw) rfl hd (k p l e R s m args below meth c H ls locs cells slots hc hL hA h1 h2 hl)
/-! the ends -/
theorem gm_retW {K0 : Outcome → gm_H → Prop} {p : Program} {l : Launch} {e : Env} {R : Room} {s : State} {m : MethodId} {args : Array Value} {below : List Frame} {meth : Method} {c : Code} {H : Heap} {locs : List Loc} {cells slots : Nat} {g : JFrame} {o : Outcome}
    (hL : ∀ q ∈ locs, E.1.heap.size ≤ q.base) (hA : gm_abs E s h H) (h1 : cells + gm_rc h ≤ R.cells) (h2 : slots + gm_rs h ≤ R.slots) (k : K0 o h)
    (w : W p l e R s m args below meth c H locs cells slots (MQ below (fun _ _ o' t => o' = o ∧ t.heap = H) args s cells slots (fun q => E.1.heap.size ≤ q)) g) : W p l e R s m args below meth c H locs cells slots (gm_end E R s below K0) g := by
  intro T hT X
  obtain ⟨t, a, o', b1, b2, ⟨rfl, b3⟩, L, ⟨-, b4, b5⟩, b6⟩ := w T hT X
  exact ⟨t, a, o', h, L, cells, slots, k, b1, b2, b4, b5, b6, by rw [b3]; exact hA, h1, h2⟩
theorem gm_iret {K0 : Outcome → gm_H → Prop} {ty : FieldType} {x : Int} (hd : decode M.2.1 pc = .ok (.ireturn, 1)) (hr : M.2.2.2.1 = some ty) (hn : narrow ty (z_i x) = z_i x) (k : K0 (.returned (some (z_i x))) h) : gm_A E M pc lv [z_i x] h (gm_k E K0) := by
  intro p l e R s m args below meth c H ls locs cells slots hc hL hA h1 h2 hl
  exact gm_retW hL hA h1 h2 k (W.zret hc.1 hc.2.1 (hc.2.2.2.2.2.2.2.1.trans hr) hn (fun t ht _ => ⟨rfl, ht⟩) hL hd hc.2.2.2.2.2.2.2.2.1)
theorem gm_lret {K0 : Outcome → gm_H → Prop} {x : Int} (hd : decode M.2.1 pc = .ok (.lreturn, 1)) (hr : M.2.2.2.1 = some .long) (k : K0 (.returned (some (z_l x))) h) : gm_A E M pc lv [z_l x] h (gm_k E K0) := by
  intro p l e R s m args below meth c H ls locs cells slots hc hL hA h1 h2 hl
  exact gm_retW hL hA h1 h2 k (W.lret hc.1 hc.2.1 (hc.2.2.2.2.2.2.2.1.trans hr) (fun t ht _ => ⟨rfl, ht⟩) hL hd hc.2.2.2.2.2.2.2.2.1)
theorem gm_vret {K0 : Outcome → gm_H → Prop} (hd : decode M.2.1 pc = .ok (.return_, 1)) (hr : M.2.2.2.1 = none) (k : K0 (.returned none) h) : gm_A E M pc lv [] h (gm_k E K0) := by
  intro p l e R s m args below meth c H ls locs cells slots hc hL hA h1 h2 hl
  exact gm_retW hL hA h1 h2 k (W.vret hc.1 hc.2.1 (hc.2.2.2.2.2.2.2.1.trans hr) (fun t ht _ => ⟨rfl, ht⟩) hL hd hc.2.2.2.2.2.2.2.2.1)
theorem gm_aret {K0 : Outcome → gm_H → Prop} {rt : FieldType} {v : Value} (hd : decode M.2.1 pc = .ok (.areturn, 1)) (hr : M.2.2.2.1 = some rt) (hrt : (∃ n, rt = .object n) ∨ ∃ t, rt = .array t) (hv : v = .null ∨ ∃ a, v = .ref a) (k : K0 (.returned (some v)) h) : gm_A E M pc lv [v] h (gm_k E K0) := by
  intro p l e R s m args below meth c H ls locs cells slots hc hL hA h1 h2 hl
  exact gm_retW hL hA h1 h2 k (W.aret hc.1 hc.2.1 (hc.2.2.2.2.2.2.2.1.trans hr) hrt hv (fun t ht _ => ⟨rfl, ht⟩) hL hd hc.2.2.2.2.2.2.2.2.1)
end GF
