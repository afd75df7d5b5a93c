/-! Arrays of references -/
section GR
variable {E : gm_E} {M : gm_M} {pc : Nat} {lv : gm_V} {st : List Value} {h : gm_H} {K : gm_Q} {a t f : Nat}
theorem gm_kd105 (k : Nat) : gm_kd 105 k = 2 := by rw [gm_kdA (by omega)]; rfl
/-- a reference to an object of a class that can be cast to Object goes into an Object[] -/
theorem gm_aast {j : Int} {v tv : Nat} {C : String} {T : u_T} {N : Nat} (hd : decode M.2.1 pc = .ok (.aastore, 1)) (ht : gm_tag h a = 105) (hcl : gm_cl[tv]? = some (C, T, N)) (t0 : 0 < tv) (t1 : tv < 100) (hw : Cond.castable C "java/lang/Object" ∈ gm_tb) (hv : gm_tag h v = tv) (h0 : 0 ≤ j) (hk : j < gm_len h a)
    (kk : gm_A E M (pc + 1) lv st (gm_setP h a j (some v)) K) : gm_A E M pc lv (.ref v :: z_i j :: .ref a :: st) h K := by
  intro p l e R s m args below meth c H ls locs cells slots hc hL hA h1 h2 hl
  obtain ⟨cell, q1, q2, q3, q4, q5, q6⟩ := hA.arr hc ht (by omega) (by omega)
  obtain ⟨r1, r2, r3, r4⟩ := q6 (by omega)
  obtain ⟨cv, v1, v2, v3, v4, v5, v6, v7⟩ := hA.cell hv (by omega)
  unfold gm_cls at v4
  rw [if_pos (by omega)] at v4
  obtain ⟨hS, hfc, kC, hkC, hkind⟩ := hc.2.2.2.2.1.1 tv _ hcl
  obtain ⟨kA, comp, a1, a2, a3, a4⟩ := hc.2.2.2.2.1.2.2.2.2.2.2.2.1
  obtain ⟨kO, hkO, -⟩ := Vm.findClass_spec a3
  obtain ⟨c1, c2, f1, f2, f3⟩ := Cond.castable_spec (hc.word hw)
  cases hfc.symm.trans f1
  cases a3.symm.trans f2
  obtain ⟨i1, i2⟩ := gm_idx h0 hk q4.2
  refine W.aast hc.1 hc.2.1 q1 (by rw [r3]; exact fun q z => by cases z) q2 (by rw [r4]; exact a1) a2 rfl hkO ⟨i2, by rw [i1]; omega⟩ v1 (VmData.ne_statics_of v3) (by rw [v4.2.1]; exact hkC) (by rw [v4.2.1]; exact f3) rfl rfl hd (fun H' g1 g2 g3 => ?_)
  rw [i1] at g1 ⊢
  have hjj : ((j.toNat : Nat) : Int) = j := by omega
  exact gm_stA (h' := gm_setP h a j (some v)) (k := j.toNat) hc hL hA h1 h2 hl ht (by omega) (by omega) (by omega) r1 r2 rfl rfl rfl rfl rfl (by rw [hjj, gm_valP (gm_kd105 _), gm_P_at]; rfl) (fun t b i hne => gm_val_setP h a j (some v) t b i (fun z => hne ⟨z.1, by rw [hjj]; exact z.2⟩)) kk H' g1 g2 g3
theorem gm_aastN {j : Int} (hd : decode M.2.1 pc = .ok (.aastore, 1)) (ht : gm_tag h a = 105) (h0 : 0 ≤ j) (hk : j < gm_len h a)
    (kk : gm_A E M (pc + 1) lv st (gm_setP h a j none) K) : gm_A E M pc lv (.null :: z_i j :: .ref a :: st) h K := by
  intro p l e R s m args below meth c H ls locs cells slots hc hL hA h1 h2 hl
  obtain ⟨cell, q1, q2, q3, q4, q5, q6⟩ := hA.arr hc ht (by omega) (by omega)
  obtain ⟨r1, r2, r3, r4⟩ := q6 (by omega)
  refine va_WaastN (C := "java/lang/Object") hc.1 hc.2.1 q1 q3 q2 (gm_inb h0 hk q4) rfl rfl hd (fun H' g1 g2 g3 => ?_)
  rw [(gm_idx h0 hk q4.2).1] at g1 ⊢
  have hjj : ((j.toNat : Nat) : Int) = j := by omega
  exact gm_stA (h' := gm_setP h a j none) (k := j.toNat) hc hL hA h1 h2 hl ht (by omega) (by omega) (by omega) r1 r2 rfl rfl rfl rfl rfl (by rw [hjj, gm_valP (gm_kd105 _), gm_P_at]; rfl) (fun t b i hne => gm_val_setP h a j none t b i (fun z => hne ⟨z.1, by rw [hjj]; exact z.2⟩)) kk H' g1 g2 g3
/-- a new Object[] -/
theorem gm_newQ {idx : Nat} {j : Int} (hd : decode M.2.1 pc = .ok (.anewarray idx, 3)) (hw : Cond.classLink M.1.cls idx "java/lang/Object" ∈ gm_tb) (h0 : 0 ≤ j) (h3 : j < 134217728) (hr : 1 ≤ gm_rc h) (hs : j.toNat ≤ gm_rs h)
    (kk : gm_A E M (pc + 3) lv (.ref (gm_sz h) :: st) (gm_new h 105 j j.toNat) K) : gm_A E M pc lv (z_i j :: st) h K := by
  intro p l e R s m args below meth c H ls locs cells slots hc hL hA h1 h2 hl
  have hz : zR j := by omega
  obtain ⟨kA, comp, a1, a2, a3, a4⟩ := hc.2.2.2.2.1.2.2.2.2.2.2.2.1
  have e1 : (Int32.ofInt j).toNatClampNeg = j.toNat := by show (Int32.ofInt j).toInt.toNat = _; rw [z_toInt hz]
  refine W.anew (n := Int32.ofInt j) hc.1 hc.2.1 hc.own (hc.word hw) (va_AO.use hc.2.2.2.2.1.2.2.2.2.2.2.2.2.2.2) rfl hd rfl (fun q => by have := (z_lt0 hz).mp q; omega) (by rw [e1]; omega) (by omega) (by rw [e1]; omega) (fun cA kA' comp' g1 g2 g3 g4 => ?_)
  rw [e1]
  have hcA : E.2.1.1 105 = cA := Option.some.inj (a4.symm.trans g1)
  have hsz : H.size = gm_sz h := hA.1
  have g5 : (H.push { cls := cA, slots := Array.replicate j.toNat .null, vm := .none })[gm_sz h]? = some { cls := cA, slots := Array.replicate j.toNat .null, vm := .none } := by rw [← hsz, Array.getElem?_push_size]
  rw [show H.size = gm_sz h from hsz]
  refine kk p l e R s m args below meth c _ ls locs (cells + 1) (slots + j.toNat) hc hL (hA.push (by rw [Array.size_push, hsz]) g5 (fun q hq => by rw [Array.getElem?_push, if_neg (by omega)]) ?_) (by show cells + 1 + (gm_rc h - 1) ≤ _; omega) (by show slots + j.toNat + (gm_rs h - j.toNat) ≤ _; omega) hl
  have et : gm_tag (gm_new h 105 j j.toNat) (gm_sz h) = 105 := if_pos rfl
  have el : gm_len (gm_new h 105 j j.toNat) (gm_sz h) = j := if_pos rfl
  unfold gm_ok
  rw [et, el]
  refine ⟨fun q => (by cases q), rfl, ?_, fun k hk => ?_⟩
  · unfold gm_cls
    rw [if_pos (by omega), if_neg (by omega)]
    exact ⟨rfl, hcA.symm, by show ((Array.replicate j.toNat Value.null).size : Int) = j; rw [Array.size_replicate]; omega, by omega⟩
  · unfold gm_sl
    rw [if_neg (by omega)]
    have i3 : gm_P (gm_new h 105 j j.toNat) (gm_sz h) (k : Int) = none := congrFun (show gm_P (gm_new h 105 j j.toNat) (gm_sz h) = fun _ => none from if_pos rfl) (k : Int)
    rw [gm_valP (gm_kd105 _), i3]
    show (Array.replicate j.toNat Value.null)[k]? = some .null
    rw [Array.getElem?_replicate, if_pos (by omega)]
end GR
