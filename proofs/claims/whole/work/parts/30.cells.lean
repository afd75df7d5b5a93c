/-! Fields and arrays -/
section GC
variable {E : gm_E} {M : gm_M} {pc : Nat} {lv : gm_V} {st : List Value} {h : gm_H} {K : gm_Q} {a t f : Nat}
theorem gm_abs.cell {s : State} {H : Heap} (hA : gm_abs E s h H) (ht : gm_tag h a = t) (h0 : t ≠ 0) : ∃ cell : Cell, H[a]? = some cell ∧ cell.vm ≠ .unknown ∧ cell.vm.isStatics = false ∧ gm_cls E s t (gm_len h a) cell ∧ (∀ k : Nat, (k : Int) < gm_len h a → cell.slots[gm_sl E t k]? = some (gm_val h t a (k : Int))) ∧ (t < 110 → E.1.heap.size ≤ a) ∧ gm_ok E s h a cell := by
  subst ht
  obtain ⟨h1, cell, h2, h3, h4, h5, h6⟩ := hA.2.2.2 a h0
  exact ⟨cell, h2, h3, h4, h5, h6, h1, h3, h4, h5, h6⟩
/-- a field access: entry idx of the class own names field f of the class with tag t -/
def gm_F (own : String) (idx t f : Nat) : Prop := ∃ (C : String) (T : u_T) (N : Nat) (ref : String), 0 < t ∧ t < 100 ∧ gm_cl[t]? = some (C, T, N) ∧ f < N ∧
  (Cond.fieldLink own idx ref (T f).2.1 (T f).2.2.1 ∈ gm_tb ∨ ∃ host : String, Cond.fieldLinkNest own idx ref (T f).2.1 (T f).2.2.1 host ∈ gm_tb) ∧ (ref = (T f).1 ∨ Cond.sameField ref (T f).1 (T f).2.1 (T f).2.2.1 ∈ gm_tb)
theorem gm_getV {idx : Nat} {v : Value} (hd : decode M.2.1 pc = .ok (.getfield idx, 3)) (hF : gm_F M.1.cls idx t f) (ht : gm_tag h a = t) (hv : gm_val h t a (f : Int) = v) (k : gm_A E M (pc + 3) lv (v :: st) h K) : gm_A E M pc lv (.ref a :: st) h K := by
  intro p l e R s m args below meth c H ls locs cells slots hc hL hA h1 h2 hl
  have kk := k p l e R s m args below meth c H ls locs cells slots hc hL hA h1 h2 hl
  obtain ⟨C, T, N, ref, t0, t1, hcl, hf, hlink, href⟩ := hF
  obtain ⟨cell, q1, q2, q3, q4, q5, q6, q7⟩ := hA.cell ht (by omega)
  have hcc := q4
  unfold gm_cls at hcc
  rw [if_pos (by omega), if_pos t1] at hcc
  have hN : gm_len h a = (N : Int) := by rw [hcc.2.2, gm_N_of hcl]
  obtain ⟨hS, hfc, kC, hkC, hkind⟩ := hc.2.2.2.2.1.1 t _ hcl
  obtain ⟨cf, kf, fi, fd, hi, hsl⟩ := hS f hf
  have hin := (gm_clOK hcl).1
  have hst := (u_facts hfc hkC (u_lays hc.2.2.2.1 hin hf) hi).1
  have hi' : s.fieldFound? ref (T f).2.1 (T f).2.2.1 = some (cf, kf, fi, fd) := by
    rcases href with rfl | hw
    · exact hi
    · exact u_same (hc.word hw) _ hi
  have hslot : cell.slots[fd.slot]? = some v := by
    rw [hsl, ← hv]
    have h3 := q5 f (by omega)
    unfold gm_sl at h3
    rw [if_pos t1] at h3
    exact h3
  rcases hlink with hw | ⟨host, hw⟩
  · exact W.getf hc.1 hc.2.1 hc.own (hc.word hw) hi' hst q1 q2 hslot rfl rfl hd kk
  · exact va_Wgetf hc.1 hc.2.1 hc.own (hc.word hw) hi' hst q1 q2 hslot rfl rfl hd kk
theorem gm_getI {idx : Nat} {i : Int} (hd : decode M.2.1 pc = .ok (.getfield idx, 3)) (hF : gm_F M.1.cls idx t f) (hk : gm_kd t f = 0) (hi : (f : Int) = i) (ht : gm_tag h a = t) (k : gm_A E M (pc + 3) lv (z_i (gm_I h a i) :: st) h K) : gm_A E M pc lv (.ref a :: st) h K := by
  subst hi
  exact gm_getV hd hF ht (by unfold gm_val; rw [Int.toNat_natCast, if_pos hk]) k
theorem gm_getL {idx : Nat} {i : Int} (hd : decode M.2.1 pc = .ok (.getfield idx, 3)) (hF : gm_F M.1.cls idx t f) (hk : gm_kd t f = 1) (hi : (f : Int) = i) (ht : gm_tag h a = t) (k : gm_A E M (pc + 3) lv (z_l (gm_L h a i) :: st) h K) : gm_A E M pc lv (.ref a :: st) h K := by
  subst hi
  exact gm_getV hd hF ht (by unfold gm_val; rw [Int.toNat_natCast, if_neg (by omega), if_pos hk]) k
theorem gm_getP {idx x : Nat} {i : Int} (hd : decode M.2.1 pc = .ok (.getfield idx, 3)) (hF : gm_F M.1.cls idx t f) (hk : gm_kd t f = 2) (hi : (f : Int) = i) (ht : gm_tag h a = t) (hx : gm_P h a i = some x) (k : gm_A E M (pc + 3) lv (.ref x :: st) h K) : gm_A E M pc lv (.ref a :: st) h K := by
  subst hi
  exact gm_getV hd hF ht (by unfold gm_val; rw [Int.toNat_natCast, if_neg (by omega), if_neg (by omega), hx]; rfl) k
theorem gm_getN {idx : Nat} {i : Int} (hd : decode M.2.1 pc = .ok (.getfield idx, 3)) (hF : gm_F M.1.cls idx t f) (hk : gm_kd t f = 2) (hi : (f : Int) = i) (ht : gm_tag h a = t) (k : gm_A E M (pc + 3) lv (va_rf (gm_P h a i) :: st) h K) : gm_A E M pc lv (.ref a :: st) h K := by
  subst hi
  exact gm_getV hd hF ht (by unfold gm_val; rw [Int.toNat_natCast, if_neg (by omega), if_neg (by omega)]) k
theorem gm_apart {s : State} {args : Array Value} (hw : ∀ w ∈ gm_tb, w.before args s = true) (hE : gm_env E s) {C : String} {T : u_T} {N : Nat} (hcl : gm_cl[t]? = some (C, T, N)) : ∀ x y, x < N → y < N → x ≠ y → E.2.1.2 t x ≠ E.2.1.2 t y := by
  intro x y hx hy hne
  obtain ⟨hin, hty, hnm, -⟩ := gm_clOK hcl
  obtain ⟨hS, -⟩ := hE.1 t _ hcl
  obtain ⟨_, _, _, fa, hia, ea⟩ := hS x hx
  obtain ⟨_, _, _, fb, hib, eb⟩ := hS y hy
  rw [← ea, ← eb]
  refine u_apart (u_lays hw hin hx) (u_lays hw hin hy) hia hib ?_
  rw [(State.fieldFound?_type hia (hty x hx)).1, (State.fieldFound?_type hib (hty y hy)).1]
  exact hnm x hx y hy hne
/-- a field that may be written at entry idx by the method of that class and name -/
def gm_FW (own nm : String) (idx t f : Nat) : Prop := ∃ (C : String) (T : u_T) (N : Nat) (ref : String), 0 < t ∧ t < 100 ∧ gm_cl[t]? = some (C, T, N) ∧ f < N ∧ (ref = (T f).1 ∨ Cond.sameField ref (T f).1 (T f).2.1 (T f).2.2.1 ∈ gm_tb) ∧
  (((T f).2.2.2 = false ∧ (Cond.fieldLink own idx ref (T f).2.1 (T f).2.2.1 ∈ gm_tb ∨ ∃ host : String, Cond.fieldLinkNest own idx ref (T f).2.1 (T f).2.2.1 host ∈ gm_tb)) ∨
   ((T f).2.2.2 = true ∧ nm = "<init>" ∧ (T f).1 = own ∧ Cond.fieldLink own idx ref (T f).2.1 (T f).2.2.1 ∈ gm_tb))
theorem gm_putV {idx : Nat} {v : Value} {h' : gm_H} (hd : decode M.2.1 pc = .ok (.putfield idx, 3)) (hF : gm_FW M.1.cls M.1.name idx t f) (ht : gm_tag h a = t) (hn : narrow (gm_fty t f) v = v) (hfit : fits (gm_fty t f) v = true)
    (e1 : gm_sz h' = gm_sz h) (e2 : gm_tag h' = gm_tag h) (e3 : gm_len h' = gm_len h) (e4 : gm_rc h' = gm_rc h) (e5 : gm_rs h' = gm_rs h) (hv : gm_val h' t a (f : Int) = v) (hvo : ∀ (t b : Nat) (j : Int), ¬ (b = a ∧ j = (f : Int)) → gm_val h' t b j = gm_val h t b j)
    (k : gm_A E M (pc + 3) lv st h' K) : gm_A E M pc lv (v :: .ref a :: st) h K := by
  intro p l e R s m args below meth c H ls locs cells slots hc hL hA h1 h2 hl
  obtain ⟨C, T, N, ref, t0, t1, hcl, hf, href, hlink⟩ := hF
  obtain ⟨cell, q1, q2, q3, q4, q5, q6, q7⟩ := hA.cell ht (by omega)
  have hcc := q4
  unfold gm_cls at hcc
  rw [if_pos (by omega), if_pos t1] at hcc
  have hN : gm_len h a = (N : Int) := by rw [hcc.2.2, gm_N_of hcl]
  obtain ⟨hS, hfc, kC, hkC, hkind⟩ := hc.2.2.2.2.1.1 t _ hcl
  obtain ⟨cf, kf, fi, fd, hi, hsl⟩ := hS f hf
  obtain ⟨hin, hty, hnm, -⟩ := gm_clOK hcl
  have hst := (u_facts hfc hkC (u_lays hc.2.2.2.1 hin hf) hi).1
  have hi' : s.fieldFound? ref (T f).2.1 (T f).2.2.1 = some (cf, kf, fi, fd) := by
    rcases href with rfl | hw
    · exact hi
    · exact u_same (hc.word hw) _ hi
  have hs0 : gm_sl E t f = fd.slot := by unfold gm_sl; rw [if_pos t1]; exact hsl.symm
  have hlt : fd.slot < cell.slots.size := by rw [← hs0]; exact k2_hasslot (q5 f (by omega))
  have hbase : E.1.heap.size ≤ a := q6 (by omega)
  have fin : ∀ H' : Heap, H'[a]? = some (cell.setSlot fd.slot v) → H'.size = H.size → (∀ q, q ≠ a → H'[q]? = H[q]?) → W p l e R s m args below meth c H' (locs ++ [⟨a, fd.slot⟩]) cells slots (K p R s below) (F0 m (pc + 3) ls st) := by
    intro H' g1 g2 g3
    refine k p l e R s m args below meth c H' ls _ cells slots hc (t_lc (free := fun q => E.1.heap.size ≤ q) hL hbase) (hA.put hbase e1 e2 e3 (fun t b j hb => hvo t b j (fun z => hb z.1)) g2 g1 g3 ?_) (by rw [e4]; exact h1) (by rw [e5]; exact h2) hl
    rw [← hs0]
    subst ht
    refine q7.set (k := f) (by omega) (by omega) ?_ e2 e3 hv (fun j hj => hvo _ a j (fun z => hj z.2))
    intro i j hi2 hj2 hne
    unfold gm_sl
    rw [if_pos t1, if_pos t1]
    exact gm_apart hc.2.2.2.1 hc.2.2.2.2.1 hcl i j (by omega) (by omega) hne
  have hlay := hc.2.2.2.1 _ (hin _ (u_in_lay hf))
  unfold u_lay at hlay
  rcases hlink with ⟨hfin, hlink⟩ | ⟨hfin, hnme, hown, hw⟩
  · rw [if_neg (by rw [hfin]; decide)] at hlay
    have h6 := u_store hfc hkC hkind hlay hi (hty f hf) hn hfit
    rcases hlink with hw | ⟨host, hw⟩
    · exact W.putK hc.1 hc.2.1 (f := fd) ⟨hc.own, hc.word hw, ⟨_, _, _, hi'⟩, hst⟩ (by rw [hcc.2.1]; exact h6) q1 hcc.1 hlt rfl rfl hd fin
    · exact va_WputK hc.1 hc.2.1 (f := fd) hc.own (hc.word hw) hi' hst (by rw [hcc.2.1]; exact h6) q1 hcc.1 hlt rfl rfl hd fin
  · rw [if_pos hfin] at hlay
    intro T0 hT0 X0
    have hcf : m.cls = cf := by
      obtain ⟨_, _, c', _, _, _, -, -, hf', -, -, -, hown2, -⟩ := Cond.laysFinal_spec hlay
      have e1 : c' = cf := by have := hi.symm.trans hf'; simp at this; exact this.1.symm
      rw [hown] at hown2
      rw [← e1]; exact Option.some.inj (hc.own.symm.trans hown2)
    have h6 := u_fits hfc hkC hkind (Or.inr hlay) hi (hty f hf) hn hfit
    have hmn : meth.name = "<init>" := (name_of_methodNamed hc.2.2.2.2.2.1 X0.method).1.trans hnme
    have w : W p l e R s m args below meth c H locs cells slots (K p R s below) (F0 m pc ls (v :: .ref a :: st)) := W.putFinK hc.1 hc.2.1 hc.own (hc.word hw) hi' hst hcf hmn (by rw [hcc.2.1]; exact h6) q1 hcc.1 hlt rfl rfl hd fin
    exact w T0 hT0 X0
theorem gm_val_setI (h : gm_H) (a : Nat) (k x : Int) (t b : Nat) (j : Int) (hne : ¬ (b = a ∧ j = k)) : gm_val (gm_setI h a k x) t b j = gm_val h t b j := by
  unfold gm_val
  rw [show gm_I (gm_setI h a k x) b j = gm_I h b j from if_neg hne]
  rfl
theorem gm_val_setL (h : gm_H) (a : Nat) (k x : Int) (t b : Nat) (j : Int) (hne : ¬ (b = a ∧ j = k)) : gm_val (gm_setL h a k x) t b j = gm_val h t b j := by
  unfold gm_val
  rw [show gm_L (gm_setL h a k x) b j = gm_L h b j from if_neg hne]
  rfl
theorem gm_val_setP (h : gm_H) (a : Nat) (k : Int) (x : Option Nat) (t b : Nat) (j : Int) (hne : ¬ (b = a ∧ j = k)) : gm_val (gm_setP h a k x) t b j = gm_val h t b j := by
  unfold gm_val
  rw [show gm_P (gm_setP h a k x) b j = gm_P h b j from if_neg hne]
  rfl
theorem gm_I_at (h : gm_H) (a : Nat) (k x : Int) : gm_I (gm_setI h a k x) a k = x := if_pos ⟨rfl, rfl⟩
theorem gm_L_at (h : gm_H) (a : Nat) (k x : Int) : gm_L (gm_setL h a k x) a k = x := if_pos ⟨rfl, rfl⟩
theorem gm_P_at (h : gm_H) (a : Nat) (k : Int) (x : Option Nat) : gm_P (gm_setP h a k x) a k = x := if_pos ⟨rfl, rfl⟩
theorem gm_putI {idx : Nat} {x : Int} {i : Int} (hd : decode M.2.1 pc = .ok (.putfield idx, 3)) (hF : gm_FW M.1.cls M.1.name idx t f) (hk : gm_kd t f = 0) (hi : (f : Int) = i) (ht : gm_tag h a = t) (hn : narrow (gm_fty t f) (z_i x) = z_i x) (hfit : fits (gm_fty t f) (z_i x) = true)
    (k : gm_A E M (pc + 3) lv st (gm_setI h a i x) K) : gm_A E M pc lv (z_i x :: .ref a :: st) h K := by
  subst hi
  exact gm_putV (h' := gm_setI h a (f : Int) x) hd hF ht hn hfit rfl rfl rfl rfl rfl (by unfold gm_val; rw [Int.toNat_natCast, if_pos hk, gm_I_at]) (fun t b j hne => gm_val_setI h a (f : Int) x t b j hne) k
theorem gm_putL {idx : Nat} {x : Int} {i : Int} (hd : decode M.2.1 pc = .ok (.putfield idx, 3)) (hF : gm_FW M.1.cls M.1.name idx t f) (hk : gm_kd t f = 1) (hi : (f : Int) = i) (ht : gm_tag h a = t) (hn : narrow (gm_fty t f) (z_l x) = z_l x) (hfit : fits (gm_fty t f) (z_l x) = true)
    (k : gm_A E M (pc + 3) lv st (gm_setL h a i x) K) : gm_A E M pc lv (z_l x :: .ref a :: st) h K := by
  subst hi
  exact gm_putV (h' := gm_setL h a (f : Int) x) hd hF ht hn hfit rfl rfl rfl rfl rfl (by unfold gm_val; rw [Int.toNat_natCast, if_neg (by omega), if_pos hk, gm_L_at]) (fun t b j hne => gm_val_setL h a (f : Int) x t b j hne) k
theorem gm_putP {idx x : Nat} {i : Int} (hd : decode M.2.1 pc = .ok (.putfield idx, 3)) (hF : gm_FW M.1.cls M.1.name idx t f) (hk : gm_kd t f = 2) (hi : (f : Int) = i) (ht : gm_tag h a = t) (hn : narrow (gm_fty t f) (.ref x) = .ref x) (hfit : fits (gm_fty t f) (.ref x) = true)
    (k : gm_A E M (pc + 3) lv st (gm_setP h a i (some x)) K) : gm_A E M pc lv (.ref x :: .ref a :: st) h K := by
  subst hi
  exact gm_putV (h' := gm_setP h a (f : Int) (some x)) hd hF ht hn hfit rfl rfl rfl rfl rfl (by unfold gm_val; rw [Int.toNat_natCast, if_neg (by omega), if_neg (by omega), gm_P_at]; rfl) (fun t b j hne => gm_val_setP h a (f : Int) (some x) t b j hne) k
theorem gm_putN {idx : Nat} {i : Int} (hd : decode M.2.1 pc = .ok (.putfield idx, 3)) (hF : gm_FW M.1.cls M.1.name idx t f) (hk : gm_kd t f = 2) (hi : (f : Int) = i) (ht : gm_tag h a = t) (hn : narrow (gm_fty t f) (.null) = .null) (hfit : fits (gm_fty t f) (.null) = true)
    (k : gm_A E M (pc + 3) lv st (gm_setP h a i none) K) : gm_A E M pc lv (.null :: .ref a :: st) h K := by
  subst hi
  exact gm_putV (h' := gm_setP h a (f : Int) none) hd hF ht hn hfit rfl rfl rfl rfl rfl (by unfold gm_val; rw [Int.toNat_natCast, if_neg (by omega), if_neg (by omega), gm_P_at]; rfl) (fun t b j hne => gm_val_setP h a (f : Int) none t b j hne) k
/-! arrays -/
theorem gm_abs.arr {p : Program} {e : Env} {R : Room} {s : State} {m : MethodId} {args : Array Value} {meth : Method} {c : Code} {H : Heap} (hc : gm_ctx E M p e R s m args meth c) (hA : gm_abs E s h H) (ht : gm_tag h a = t) (t0 : 100 ≤ t) (t1 : t < 120) :
    ∃ cell : Cell, H[a]? = some cell ∧ cell.vm ≠ .unknown ∧ s.isArrayOf cell (gm_ty t) ∧ ((cell.slots.size : Int) = gm_len h a ∧ gm_len h a < 2147483648) ∧ (∀ k : Nat, (k : Int) < gm_len h a → cell.slots[k]? = some (gm_val h t a (k : Int))) ∧ (t < 110 → E.1.heap.size ≤ a ∧ gm_ok E s h a cell ∧ cell.vm = .none ∧ cell.cls = E.2.1.1 t) := by
  obtain ⟨cell, q1, q2, q3, q4, q5, q6, q7⟩ := hA.cell ht (by omega)
  have q5' : ∀ k : Nat, (k : Int) < gm_len h a → cell.slots[k]? = some (gm_val h t a (k : Int)) := by
    intro k hk
    have h3 := q5 k hk
    unfold gm_sl at h3
    rw [if_neg (by omega)] at h3
    exact h3
  unfold gm_cls at q4
  by_cases hlt : t < 110
  · rw [if_pos hlt, if_neg (by omega)] at q4
    obtain ⟨k0, hk0⟩ : ∃ k0, s.vm.classes[cell.cls]? = some k0 ∧ ∃ comp, k0.kind = .array comp (gm_ty t) := by
      rw [q4.2.1]
      exact ((hc.2.2.2.2.1.2.1 t t0 hlt).1 0 (fun _ => .null)).2
    exact ⟨cell, q1, q2, ⟨VmData.ne_statics_of q3, k0, hk0⟩, q4.2.2, q5', fun _ => ⟨q6 hlt, q7, q4.1, q4.2.1⟩⟩
  · rw [if_neg hlt, if_pos t1] at q4
    exact ⟨cell, q1, q2, q4.1, q4.2, q5', fun z => absurd z hlt⟩
theorem gm_alen {n : Int} (hd : decode M.2.1 pc = .ok (.arraylength, 1)) (ht : gm_tag h a = t) (t0 : 100 ≤ t) (t1 : t < 120) (hn : gm_len h a = n) (k : gm_A E M (pc + 1) lv (z_i n :: st) h K) : gm_A E M pc lv (.ref a :: st) h K := by
  intro p l e R s m args below meth c H ls locs cells slots hc hL hA h1 h2 hl
  obtain ⟨cell, q1, q2, q3, q4, q5, q6⟩ := hA.arr hc ht t0 t1
  exact W.alen (n := Int32.ofInt n) hc.1 hc.2.1 q1 q3 (by rw [← hn, ← q4.1]; exact Int32.ofInt_eq_ofNat.symm) rfl rfl hd (k p l e R s m args below meth c H ls locs cells slots hc hL hA h1 h2 hl)
end GC
