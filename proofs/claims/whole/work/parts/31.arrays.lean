/-! Reading and writing arrays, making cells, statics, casts -/
section GA
variable {E : gm_E} {M : gm_M} {pc : Nat} {lv : gm_V} {st : List Value} {h : gm_H} {K : gm_Q} {a t f : Nat}
theorem gm_kdA (t0 : 100 ≤ t) (k : Nat) : gm_kd t k = gm_kdt (gm_ty t) := by unfold gm_kd; rw [if_neg (by omega)]
theorem gm_valI {k : Int} (hk : gm_kd t k.toNat = 0) : gm_val h t a k = z_i (gm_I h a k) := by unfold gm_val; rw [if_pos hk]
theorem gm_valL {k : Int} (hk : gm_kd t k.toNat = 1) : gm_val h t a k = z_l (gm_L h a k) := by unfold gm_val; rw [if_neg (by omega), if_pos hk]
theorem gm_valP {k : Int} (hk : gm_kd t k.toNat = 2) : gm_val h t a k = va_rf (gm_P h a k) := by unfold gm_val; rw [if_neg (by omega), if_neg (by omega)]
theorem gm_idx {j n : Int} (h0 : 0 ≤ j) (hk : j < n) (hn : n < 2147483648) : (Int32.ofInt j).toNatClampNeg = j.toNat ∧ ¬ Int32.ofInt j < 0 := by
  have hz : zR j := by omega
  refine ⟨?_, fun q => ?_⟩
  · show (Int32.ofInt j).toInt.toNat = _
    rw [z_toInt hz]
  · have := (z_lt0 hz).mp q
    omega
theorem gm_inb {j n : Int} {sz : Nat} (h0 : 0 ≤ j) (hk : j < n) (hn : (sz : Int) = n ∧ n < 2147483648) : ¬ (Int32.ofInt j < 0 ∨ sz ≤ (Int32.ofInt j).toNatClampNeg) := by
  obtain ⟨e1, e2⟩ := gm_idx h0 hk hn.2
  rintro (q | q)
  · exact e2 q
  · rw [e1] at q; omega
theorem gm_iald {j : Int} (hd : decode M.2.1 pc = .ok (.iaload, 1)) (ht : gm_tag h a = t) (t0 : 100 ≤ t) (t1 : t < 120) (hty : gm_ty t = .int) (h0 : 0 ≤ j) (hk : j < gm_len h a) (kk : gm_A E M (pc + 1) lv (z_i (gm_I h a j) :: st) h K) : gm_A E M pc lv (z_i j :: .ref a :: st) h K := by
  intro p l e R s m args below meth c H ls locs cells slots hc hL hA h1 h2 hl
  obtain ⟨cell, q1, q2, q3, q4, q5, q6⟩ := hA.arr hc ht t0 t1
  rw [hty] at q3
  exact W.iald hc.1 hc.2.1 q1 q3 q2 (gm_inb h0 hk q4) (by rw [(gm_idx h0 hk q4.2).1, q5 j.toNat (by omega), show ((j.toNat : Nat) : Int) = j by omega, gm_valI (by rw [gm_kdA t0, hty]; rfl)]) rfl rfl hd (kk p l e R s m args below meth c H ls locs cells slots hc hL hA h1 h2 hl)
theorem gm_cald {j : Int} (hd : decode M.2.1 pc = .ok (.caload, 1)) (ht : gm_tag h a = t) (t0 : 100 ≤ t) (t1 : t < 120) (hty : gm_ty t = .char) (h0 : 0 ≤ j) (hk : j < gm_len h a) (kk : gm_A E M (pc + 1) lv (z_i (gm_I h a j) :: st) h K) : gm_A E M pc lv (z_i j :: .ref a :: st) h K := by
  intro p l e R s m args below meth c H ls locs cells slots hc hL hA h1 h2 hl
  obtain ⟨cell, q1, q2, q3, q4, q5, q6⟩ := hA.arr hc ht t0 t1
  rw [hty] at q3
  exact W.cald hc.1 hc.2.1 q1 q3 q2 (gm_inb h0 hk q4) (by rw [(gm_idx h0 hk q4.2).1, q5 j.toNat (by omega), show ((j.toNat : Nat) : Int) = j by omega, gm_valI (by rw [gm_kdA t0, hty]; rfl)]) rfl rfl hd (kk p l e R s m args below meth c H ls locs cells slots hc hL hA h1 h2 hl)
theorem gm_zald {j : Int} (hd : decode M.2.1 pc = .ok (.baload, 1)) (ht : gm_tag h a = t) (t0 : 100 ≤ t) (t1 : t < 120) (hty : gm_ty t = .boolean) (h0 : 0 ≤ j) (hk : j < gm_len h a) (kk : gm_A E M (pc + 1) lv (z_i (gm_I h a j) :: st) h K) : gm_A E M pc lv (z_i j :: .ref a :: st) h K := by
  intro p l e R s m args below meth c H ls locs cells slots hc hL hA h1 h2 hl
  obtain ⟨cell, q1, q2, q3, q4, q5, q6⟩ := hA.arr hc ht t0 t1
  rw [hty] at q3
  exact W.zald hc.1 hc.2.1 q1 q3 q2 (gm_inb h0 hk q4) (by rw [(gm_idx h0 hk q4.2).1, q5 j.toNat (by omega), show ((j.toNat : Nat) : Int) = j by omega, gm_valI (by rw [gm_kdA t0, hty]; rfl)]) rfl rfl hd (kk p l e R s m args below meth c H ls locs cells slots hc hL hA h1 h2 hl)
theorem gm_bald {j : Int} (hd : decode M.2.1 pc = .ok (.baload, 1)) (ht : gm_tag h a = t) (t0 : 100 ≤ t) (t1 : t < 120) (hty : gm_ty t = .byte) (h0 : 0 ≤ j) (hk : j < gm_len h a) (kk : gm_A E M (pc + 1) lv (z_i (gm_I h a j) :: st) h K) : gm_A E M pc lv (z_i j :: .ref a :: st) h K := by
  intro p l e R s m args below meth c H ls locs cells slots hc hL hA h1 h2 hl
  obtain ⟨cell, q1, q2, q3, q4, q5, q6⟩ := hA.arr hc ht t0 t1
  rw [hty] at q3
  exact W.bald hc.1 hc.2.1 q1 q3 q2 (gm_inb h0 hk q4) (by rw [(gm_idx h0 hk q4.2).1, q5 j.toNat (by omega), show ((j.toNat : Nat) : Int) = j by omega, gm_valI (by rw [gm_kdA t0, hty]; rfl)]) rfl rfl hd (kk p l e R s m args below meth c H ls locs cells slots hc hL hA h1 h2 hl)
theorem gm_lald {j : Int} (hd : decode M.2.1 pc = .ok (.laload, 1)) (ht : gm_tag h a = t) (t0 : 100 ≤ t) (t1 : t < 120) (hty : gm_ty t = .long) (h0 : 0 ≤ j) (hk : j < gm_len h a) (kk : gm_A E M (pc + 1) lv (z_l (gm_L h a j) :: st) h K) : gm_A E M pc lv (z_i j :: .ref a :: st) h K := by
  intro p l e R s m args below meth c H ls locs cells slots hc hL hA h1 h2 hl
  obtain ⟨cell, q1, q2, q3, q4, q5, q6⟩ := hA.arr hc ht t0 t1
  rw [hty] at q3
  exact W.lald hc.1 hc.2.1 q1 q3 q2 (gm_inb h0 hk q4) (by rw [(gm_idx h0 hk q4.2).1, q5 j.toNat (by omega), show ((j.toNat : Nat) : Int) = j by omega, gm_valL (by rw [gm_kdA t0, hty]; rfl)]) rfl rfl hd (kk p l e R s m args below meth c H ls locs cells slots hc hL hA h1 h2 hl)
theorem gm_aald {j : Int} (hd : decode M.2.1 pc = .ok (.aaload, 1)) (ht : gm_tag h a = t) (t0 : 100 ≤ t) (t1 : t < 120) (hty : (gm_ty t).isReference = true) (hkd : gm_kdt (gm_ty t) = 2) (h0 : 0 ≤ j) (hk : j < gm_len h a) (kk : gm_A E M (pc + 1) lv (va_rf (gm_P h a j) :: st) h K) : gm_A E M pc lv (z_i j :: .ref a :: st) h K := by
  intro p l e R s m args below meth c H ls locs cells slots hc hL hA h1 h2 hl
  obtain ⟨cell, q1, q2, q3, q4, q5, q6⟩ := hA.arr hc ht t0 t1
  exact W.aald hc.1 hc.2.1 q1 q3 hty q2 (gm_inb h0 hk q4) (by rw [(gm_idx h0 hk q4.2).1, q5 j.toNat (by omega), show ((j.toNat : Nat) : Int) = j by omega, gm_valP (by rw [gm_kdA t0]; exact hkd)]) rfl rfl hd (kk p l e R s m args below meth c H ls locs cells slots hc hL hA h1 h2 hl)
/-- behind a store into an array -/
theorem gm_stA {p : Program} {l : Launch} {e : Env} {R : Room} {s : State} {m : MethodId} {args : Array Value} {below : List Frame} {meth : Method} {c : Code} {H : Heap} {ls : Array Slot} {locs : List Loc} {cells slots : Nat}
    (hc : gm_ctx E M p e R s m args meth c) (hL : ∀ q ∈ locs, E.1.heap.size ≤ q.base) (hA : gm_abs E s h H) (h1 : cells + gm_rc h ≤ R.cells) (h2 : slots + gm_rs h ≤ R.slots) (hl : lv_has ls M.2.2.1 lv)
    (ht : gm_tag h a = t) (t0 : 100 ≤ t) (t1 : t < 110) {k : Nat} (hk : (k : Int) < gm_len h a) {cell : Cell} (q6 : E.1.heap.size ≤ a) (q7 : gm_ok E s h a cell) {h' : gm_H} {v : Value}
    (e1 : gm_sz h' = gm_sz h) (e2 : gm_tag h' = gm_tag h) (e3 : gm_len h' = gm_len h) (e4 : gm_rc h' = gm_rc h) (e5 : gm_rs h' = gm_rs h) (hv : gm_val h' t a (k : Int) = v) (hvo : ∀ (t b : Nat) (j : Int), ¬ (b = a ∧ j = (k : Int)) → gm_val h' t b j = gm_val h t b j)
    (kk : gm_A E M (pc + 1) lv st h' K) (H' : Heap) (g1 : H'[a]? = some (cell.setSlot k v)) (g2 : H'.size = H.size) (g3 : ∀ q, q ≠ a → H'[q]? = H[q]?) : W p l e R s m args below meth c H' (locs ++ [⟨a, k⟩]) cells slots (K p R s below) (F0 m (pc + 1) ls st) := by
  refine kk p l e R s m args below meth c H' ls _ cells slots hc (t_lc (free := fun q => E.1.heap.size ≤ q) hL q6) (hA.put q6 e1 e2 e3 (fun t b j hb => hvo t b j (fun z => hb z.1)) g2 g1 g3 ?_) (by rw [e4]; exact h1) (by rw [e5]; exact h2) hl
  have hs0 : gm_sl E t k = k := by unfold gm_sl; rw [if_neg (by omega)]
  subst ht
  have h9 := q7.set (k := k) (v := v) (h' := h') t1 hk (fun i j _ _ hne => by unfold gm_sl; rw [if_neg (by omega), if_neg (by omega)]; exact hne) e2 e3 hv (fun j hj => hvo _ a j (fun z => hj z.2))
  rw [hs0] at h9
  exact h9
theorem gm_iast {j x : Int} (hd : decode M.2.1 pc = .ok (.iastore, 1)) (ht : gm_tag h a = t) (t0 : 100 ≤ t) (t1 : t < 110) (hty : gm_ty t = .int) (h0 : 0 ≤ j) (hk : j < gm_len h a) (kk : gm_A E M (pc + 1) lv st (gm_setI h a j x) K) : gm_A E M pc lv (z_i x :: z_i j :: .ref a :: st) h K := by
  intro p l e R s m args below meth c H ls locs cells slots hc hL hA h1 h2 hl
  obtain ⟨cell, q1, q2, q3, q4, q5, q6⟩ := hA.arr hc ht t0 (by omega)
  rw [hty] at q3
  obtain ⟨r1, r2, -⟩ := q6 t1
  refine W.iast hc.1 hc.2.1 q1 q3 q2 (gm_inb h0 hk q4) rfl rfl hd (fun H' g1 g2 g3 => ?_)
  rw [(gm_idx h0 hk q4.2).1] at g1 ⊢
  have hjj : ((j.toNat : Nat) : Int) = j := by omega
  exact gm_stA (h' := gm_setI h a j x) (k := j.toNat) hc hL hA h1 h2 hl ht t0 t1 (by omega) r1 r2 rfl rfl rfl rfl rfl (by rw [hjj, gm_valI (by rw [gm_kdA t0, hty]; rfl), gm_I_at]; rfl) (fun t b i hne => gm_val_setI h a j x t b i (fun z => hne ⟨z.1, by rw [hjj]; exact z.2⟩)) kk H' g1 g2 g3
theorem gm_last {j x : Int} (hd : decode M.2.1 pc = .ok (.lastore, 1)) (ht : gm_tag h a = t) (t0 : 100 ≤ t) (t1 : t < 110) (hty : gm_ty t = .long) (h0 : 0 ≤ j) (hk : j < gm_len h a) (kk : gm_A E M (pc + 1) lv st (gm_setL h a j x) K) : gm_A E M pc lv (z_l x :: z_i j :: .ref a :: st) h K := by
  intro p l e R s m args below meth c H ls locs cells slots hc hL hA h1 h2 hl
  obtain ⟨cell, q1, q2, q3, q4, q5, q6⟩ := hA.arr hc ht t0 (by omega)
  rw [hty] at q3
  obtain ⟨r1, r2, -⟩ := q6 t1
  refine W.last hc.1 hc.2.1 q1 q3 q2 (gm_inb h0 hk q4) rfl rfl hd (fun H' g1 g2 g3 => ?_)
  rw [(gm_idx h0 hk q4.2).1] at g1 ⊢
  have hjj : ((j.toNat : Nat) : Int) = j := by omega
  exact gm_stA (h' := gm_setL h a j x) (k := j.toNat) hc hL hA h1 h2 hl ht t0 t1 (by omega) r1 r2 rfl rfl rfl rfl rfl (by rw [hjj, gm_valL (by rw [gm_kdA t0, hty]; rfl), gm_L_at]; rfl) (fun t b i hne => gm_val_setL h a j x t b i (fun z => hne ⟨z.1, by rw [hjj]; exact z.2⟩)) kk H' g1 g2 g3
theorem gm_cast {j x : Int} {y : Int} (hy : narrow .char (z_i x) = z_i y) (hd : decode M.2.1 pc = .ok (.castore, 1)) (ht : gm_tag h a = t) (t0 : 100 ≤ t) (t1 : t < 110) (hty : gm_ty t = .char) (h0 : 0 ≤ j) (hk : j < gm_len h a) (kk : gm_A E M (pc + 1) lv st (gm_setI h a j y) K) : gm_A E M pc lv (z_i x :: z_i j :: .ref a :: st) h K := by
  intro p l e R s m args below meth c H ls locs cells slots hc hL hA h1 h2 hl
  obtain ⟨cell, q1, q2, q3, q4, q5, q6⟩ := hA.arr hc ht t0 (by omega)
  rw [hty] at q3
  obtain ⟨r1, r2, -⟩ := q6 t1
  refine W.cast hc.1 hc.2.1 q1 q3 q2 (gm_inb h0 hk q4) rfl rfl hd (fun H' g1 g2 g3 => ?_)
  rw [(gm_idx h0 hk q4.2).1] at g1 ⊢
  have hjj : ((j.toNat : Nat) : Int) = j := by omega
  have g1' : H'[a]? = some (cell.setSlot j.toNat (z_i y)) := by rw [← hy]; exact g1
  exact gm_stA (h' := gm_setI h a j y) (k := j.toNat) hc hL hA h1 h2 hl ht t0 t1 (by omega) r1 r2 rfl rfl rfl rfl rfl (by rw [hjj, gm_valI (by rw [gm_kdA t0, hty]; rfl), gm_I_at]) (fun t b i hne => gm_val_setI h a j y t b i (fun z => hne ⟨z.1, by rw [hjj]; exact z.2⟩)) kk H' g1' g2 g3
theorem gm_zast {j x : Int} {y : Int} (hy : narrow .boolean (z_i x) = z_i y) (hd : decode M.2.1 pc = .ok (.bastore, 1)) (ht : gm_tag h a = t) (t0 : 100 ≤ t) (t1 : t < 110) (hty : gm_ty t = .boolean) (h0 : 0 ≤ j) (hk : j < gm_len h a) (kk : gm_A E M (pc + 1) lv st (gm_setI h a j y) K) : gm_A E M pc lv (z_i x :: z_i j :: .ref a :: st) h K := by
  intro p l e R s m args below meth c H ls locs cells slots hc hL hA h1 h2 hl
  obtain ⟨cell, q1, q2, q3, q4, q5, q6⟩ := hA.arr hc ht t0 (by omega)
  rw [hty] at q3
  obtain ⟨r1, r2, -⟩ := q6 t1
  refine W.zast hc.1 hc.2.1 q1 q3 q2 (gm_inb h0 hk q4) rfl rfl hd (fun H' g1 g2 g3 => ?_)
  rw [(gm_idx h0 hk q4.2).1] at g1 ⊢
  have hjj : ((j.toNat : Nat) : Int) = j := by omega
  have g1' : H'[a]? = some (cell.setSlot j.toNat (z_i y)) := by rw [← hy]; exact g1
  exact gm_stA (h' := gm_setI h a j y) (k := j.toNat) hc hL hA h1 h2 hl ht t0 t1 (by omega) r1 r2 rfl rfl rfl rfl rfl (by rw [hjj, gm_valI (by rw [gm_kdA t0, hty]; rfl), gm_I_at]) (fun t b i hne => gm_val_setI h a j y t b i (fun z => hne ⟨z.1, by rw [hjj]; exact z.2⟩)) kk H' g1' g2 g3
theorem gm_bast {j x : Int} {y : Int} (hy : narrow .byte (z_i x) = z_i y) (hd : decode M.2.1 pc = .ok (.bastore, 1)) (ht : gm_tag h a = t) (t0 : 100 ≤ t) (t1 : t < 110) (hty : gm_ty t = .byte) (h0 : 0 ≤ j) (hk : j < gm_len h a) (kk : gm_A E M (pc + 1) lv st (gm_setI h a j y) K) : gm_A E M pc lv (z_i x :: z_i j :: .ref a :: st) h K := by
  intro p l e R s m args below meth c H ls locs cells slots hc hL hA h1 h2 hl
  obtain ⟨cell, q1, q2, q3, q4, q5, q6⟩ := hA.arr hc ht t0 (by omega)
  rw [hty] at q3
  obtain ⟨r1, r2, -⟩ := q6 t1
  refine W.bast hc.1 hc.2.1 q1 q3 q2 (gm_inb h0 hk q4) rfl rfl hd (fun H' g1 g2 g3 => ?_)
  rw [(gm_idx h0 hk q4.2).1] at g1 ⊢
  have hjj : ((j.toNat : Nat) : Int) = j := by omega
  have g1' : H'[a]? = some (cell.setSlot j.toNat (z_i y)) := by rw [← hy]; exact g1
  exact gm_stA (h' := gm_setI h a j y) (k := j.toNat) hc hL hA h1 h2 hl ht t0 t1 (by omega) r1 r2 rfl rfl rfl rfl rfl (by rw [hjj, gm_valI (by rw [gm_kdA t0, hty]; rfl), gm_I_at]) (fun t b i hne => gm_val_setI h a j y t b i (fun z => hne ⟨z.1, by rw [hjj]; exact z.2⟩)) kk H' g1' g2 g3
/-- a new object -/
theorem gm_newO {idx n : Nat} {C : String} {T : u_T} {N : Nat} (hd : decode M.2.1 pc = .ok (.new idx, 3)) (hcl : gm_cl[t]? = some (C, T, N)) (t0 : 0 < t) (t1 : t < 100) (hw1 : Cond.classLink M.1.cls idx C ∈ gm_tb) (hw2 : Cond.instantiable C n ∈ gm_tb) (hw3 : Cond.initialized C ∈ gm_tb)
    (hr : 1 ≤ gm_rc h) (hs : n ≤ gm_rs h) (kk : gm_A E M (pc + 3) lv (.ref (gm_sz h) :: st) (gm_new h t (N : Int) n) K) : gm_A E M pc lv st h K := by
  intro p l e R s m args below meth c H ls locs cells slots hc hL hA h1 h2 hl
  have hKn := hc.2.2.2.2.1.1 t _ hcl
  obtain ⟨hin, hty, hnm, hdf⟩ := gm_clOK hcl
  refine W.newcK hc.1 hc.2.1 hc.own (hc.word hw1) (hc.word hw2) (hc.word hw3) rfl hd (by omega) (by omega) hKn.2.1 hA.1 (fun H1 kC hkC g1 g2 g3 => ?_)
  refine kk p l e R s m args below meth c H1 ls locs (cells + 1) (slots + n) hc hL (hA.push g2 g1 g3 ?_) (by show cells + 1 + (gm_rc h - 1) ≤ _; omega) (by show slots + n + (gm_rs h - n) ≤ _; omega) hl
  have et : gm_tag (gm_new h t (N : Int) n) (gm_sz h) = t := if_pos rfl
  have el : gm_len (gm_new h t (N : Int) n) (gm_sz h) = (N : Int) := if_pos rfl
  obtain ⟨cell, b1, b2, b3, b4⟩ := u_born (fun k => gm_fty t k) hc.2.2.2.1 hin hKn hkC g1 hty
  cases g1.symm.trans b1
  unfold gm_ok
  rw [et, el]
  refine ⟨fun q => (by rw [b3] at q; cases q), (by rw [b3]; rfl), ?_, fun k hk => ?_⟩
  · unfold gm_cls
    rw [if_pos (by omega), if_pos t1]
    exact ⟨b3, b2, by rw [gm_N_of hcl]⟩
  · unfold gm_sl
    rw [if_pos t1, b4 k (by omega)]
    show some (defaultValue (gm_fty t k)) = _
    rw [hdf k (by omega)]
    congr 1
    have i1 : gm_I (gm_new h t (N : Int) n) (gm_sz h) (k : Int) = 0 := congrFun (show gm_I (gm_new h t (N : Int) n) (gm_sz h) = fun _ => 0 from if_pos rfl) (k : Int)
    have i2 : gm_L (gm_new h t (N : Int) n) (gm_sz h) (k : Int) = 0 := congrFun (show gm_L (gm_new h t (N : Int) n) (gm_sz h) = fun _ => 0 from if_pos rfl) (k : Int)
    have i3 : gm_P (gm_new h t (N : Int) n) (gm_sz h) (k : Int) = none := congrFun (show gm_P (gm_new h t (N : Int) n) (gm_sz h) = fun _ => none from if_pos rfl) (k : Int)
    unfold gm_val gm_zero
    rw [i1, i2, i3, Int.toNat_natCast]
    rfl
/-- a new array of a primitive type -/
theorem gm_newA {at_ : ArrayType} {j : Int} (hd : decode M.2.1 pc = .ok (.newarray at_, 2)) (hty : newarray.typeOf at_ = gm_ty t) (hw : Cond.arrayClass (gm_ty t) ∈ gm_tb) (hdf : defaultValue (gm_ty t) = gm_zero (gm_kdt (gm_ty t))) (t0 : 100 ≤ t) (t1 : t < 110) (h0 : 0 ≤ j) (h3 : j < 2147483648)
    (hb : j.toNat * componentBytes (gm_ty t) ≤ 536870912) (hr : 1 ≤ gm_rc h) (hs : j.toNat ≤ gm_rs h) (kk : gm_A E M (pc + 2) lv (.ref (gm_sz h) :: st) (gm_new h t j j.toNat) K) : gm_A E M pc lv (z_i j :: st) h K := by
  intro p l e R s m args below meth c H ls locs cells slots hc hL hA h1 h2 hl
  have hz : zR j := by omega
  refine va_newaK (n := Int32.ofInt j) (N := j.toNat) hc.1 hc.2.1 (by rw [hty]; exact hc.word hw) rfl hd rfl (fun q => by have := (z_lt0 hz).mp q; omega) (by show (Int32.ofInt j).toInt.toNat = _; rw [z_toInt hz]) (by rw [hty]; exact hb) (by omega) (by omega) hA.1 (fun H1 cA g1 g2 g3 g4 g5 => ?_)
  rw [hty] at g1 g4 g5
  have hcA : E.2.1.1 t = cA := Option.some.inj ((hc.2.2.2.2.1.2.1 t t0 t1).2.symm.trans g5)
  refine kk p l e R s m args below meth c H1 ls locs (cells + 1) (slots + j.toNat) hc hL (hA.push g2 g1 g3 ?_) (by show cells + 1 + (gm_rc h - 1) ≤ _; omega) (by show slots + j.toNat + (gm_rs h - j.toNat) ≤ _; omega) hl
  have et : gm_tag (gm_new h t j j.toNat) (gm_sz h) = t := if_pos rfl
  have el : gm_len (gm_new h t j j.toNat) (gm_sz h) = j := if_pos rfl
  unfold gm_ok
  rw [et, el]
  refine ⟨fun q => (by cases q), rfl, ?_, fun k hk => ?_⟩
  · unfold gm_cls
    rw [if_pos t1, if_neg (by omega)]
    exact ⟨rfl, hcA.symm, by rw [arrV_size]; omega, h3⟩
  · unfold gm_sl
    rw [if_neg (by omega), arrV_read _ _ (by omega), hdf]
    congr 1
    have i1 : gm_I (gm_new h t j j.toNat) (gm_sz h) (k : Int) = 0 := congrFun (show gm_I (gm_new h t j j.toNat) (gm_sz h) = fun _ => 0 from if_pos rfl) (k : Int)
    have i2 : gm_L (gm_new h t j j.toNat) (gm_sz h) (k : Int) = 0 := congrFun (show gm_L (gm_new h t j j.toNat) (gm_sz h) = fun _ => 0 from if_pos rfl) (k : Int)
    have i3 : gm_P (gm_new h t j j.toNat) (gm_sz h) (k : Int) = none := congrFun (show gm_P (gm_new h t j j.toNat) (gm_sz h) = fun _ => none from if_pos rfl) (k : Int)
    unfold gm_val gm_zero
    rw [i1, i2, i3, gm_kdA t0]
    rfl
/-- a static field that holds an array or object of before -/
theorem gm_gets {idx i : Nat} {C n d ref : String} (hd : decode M.2.1 pc = .ok (.getstatic idx, 3)) (hi : gm_sts[i]? = some (C, n, d)) (hw : Cond.fieldLink M.1.cls idx C n d ∈ gm_tb ∨ ∃ host : String, Cond.fieldLinkNest M.1.cls idx C n d host ∈ gm_tb)
    (kk : gm_A E M (pc + 3) lv (.ref (E.2.2 i) :: st) h K) : gm_A E M pc lv st h K := by
  intro p l e R s m args below meth c H ls locs cells slots hc hL hA h1 h2 hl
  have kk' := kk p l e R s m args below meth c H ls locs cells slots hc hL hA h1 h2 hl
  obtain ⟨cf, kf, fi, f, x, cell, z1, z2, z3, z4, z5, z6, z7, z8⟩ := hc.2.2.2.2.1.2.2.1 i _ hi
  have hx : H[x]? = some cell := by rw [hA.2.2.1 x (Array.getElem?_eq_some_iff.mp z5).1]; exact z5
  rcases hw with hw | ⟨host, hw⟩
  · exact W.gets hc.1 hc.2.1 hc.own (hc.word hw) z1 z2 z3 z4 hx (fun e => by rw [e] at z6; cases z6) z7 rfl hd kk'
  · exact va_WgetsN hc.1 hc.2.1 hc.own (hc.word hw) z1 z2 z3 z4 hx (fun e => by rw [e] at z6; cases z6) z7 rfl hd kk'
/-- a cast of an object to its own class, or to one that its class can be cast to -/
theorem gm_ccast {idx : Nat} {C nm : String} {T : u_T} {N : Nat} (hd : decode M.2.1 pc = .ok (.checkcast idx, 3)) (hcl : gm_cl[t]? = some (C, T, N)) (t0 : 0 < t) (t1 : t < 100) (hw1 : Cond.classLink M.1.cls idx nm ∈ gm_tb) (hw2 : Cond.castable C nm ∈ gm_tb) (ht : gm_tag h a = t)
    (kk : gm_A E M (pc + 3) lv (.ref a :: st) h K) : gm_A E M pc lv (.ref a :: st) h K := by
  intro p l e R s m args below meth c H ls locs cells slots hc hL hA h1 h2 hl
  obtain ⟨cell, q1, q2, q3, q4, q5, q6, q7⟩ := hA.cell ht (by omega)
  unfold gm_cls at q4
  rw [if_pos (by omega)] at q4
  have hKn := hc.2.2.2.2.1.1 t _ hcl
  exact va_castY hc.1 hc.2.1 hc.own (hc.word hw1) (va_Nw.of rfl (hc.word hw2)) ⟨cell, q1, q3, by rw [q4.2.1]; exact hKn.2.1⟩ hd (kk p l e R s m args below meth c H ls locs cells slots hc hL hA h1 h2 hl)
/-- Object.<init> -/
theorem gm_objInit {idx : Nat} (hd : decode M.2.1 pc = .ok (.invokespecial idx, 3)) (hw1 : Cond.methodLink M.1.cls idx Lib.objectInit ∈ gm_tb) (hw2 : Cond.instanceMethod Lib.objectInit ∈ gm_tb) (hw3 : Cond.code Lib.objectInit ⟨#[0xb1]⟩ 1 none ∈ gm_tb)
    (hf : 1 ≤ M.2.2.2.2.2.1) (hw : (st.map fun v => v.category).sum + 12 ≤ M.2.2.2.2.2.2) (kk : gm_A E M (pc + 3) lv st h K) : gm_A E M pc lv (.ref a :: st) h K := by
  intro p l e R s m args below meth c H ls locs cells slots hc hL hA h1 h2 hl
  obtain ⟨c7, c8, c9, c10, c11, c12⟩ := hc.2.2.2.2.2.2
  exact W.objInit hc.1 hc.2.1 hc.own (hc.word hw1) (hc.word hw2) (hc.word hw3) rfl (hl.1.trans c7.symm) rfl hd (by omega) (by show 2 * 0 + _ + 12 ≤ _; omega) (kk p l e R s m args below meth c H ls locs cells slots hc hL hA h1 h2 hl)
end GA
