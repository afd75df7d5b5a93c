/-! Every word of the tables holds at that start: the words on bytecode because the kit's witness has them and no method of theirs lies in the new record, the others by computing -/
theorem rf_split {α : Type} (p : α → Bool) (n : Nat) (l : List α) (h1 : (l.take n).all p = true) (h2 : (l.drop n).all p = true) : l.all p = true := by
  rw [← List.take_append_drop n l, List.all_append, h1, h2]; rfl
def rf_has (c : Jvm.Cond) : Bool := su_isCode c || c.before start1.args0 rf_s
def rf_same : Jvm.Cond → Bool
  | .code y _ _ _ => match rf_s.methodNamed? y, start1.about.methodNamed? y with
    | some m, some k => Nat.beq m.cls k.cls && Nat.beq m.idx k.idx && Nat.blt k.cls 47
    | _, _ => false
  | _ => true
theorem rf_method {m : MethodId} (h : m.cls < 47) : rf_s.vm.method? m = start1.about.vm.method? m := by
  have hs : start1.about.vm.classes.size = 47 := rfl
  have e : rf_s.vm.classes[m.cls]? = start1.about.vm.classes[m.cls]? := by
    show (start1.about.vm.classes.push rf_odd)[m.cls]? = _
    rw [Array.getElem?_push, hs, if_neg (Nat.ne_of_lt h)]
  unfold Vm.method?
  rw [e]
theorem rf_move {c : Jvm.Cond} (hc : su_isCode c = true) (h : c.before start1.args0 start1.about = true) (hs : rf_same c = true) : c.before start1.args0 rf_s = true := by
  cases c with
  | code y b l r =>
    have e : (rf_s.methodNamed? y).bind rf_s.vm.method? = (start1.about.methodNamed? y).bind start1.about.vm.method? := by
      simp only [rf_same] at hs
      split at hs
      · next m k h1 h2 =>
        simp only [Bool.and_eq_true] at hs
        obtain ⟨⟨e1, e2⟩, e3⟩ := hs
        have e1 := Nat.eq_of_beq_eq_true e1
        have e2 := Nat.eq_of_beq_eq_true e2
        have e3 : k.cls < 47 := Nat.le_of_ble_eq_true e3
        have em : m = k := by cases m; cases k; simp_all
        rw [h1, h2, em]
        exact rf_method e3
      · exact absurd hs (by simp)
    simp only [Cond.before, Cond.holds, Cond.value, e] at h ⊢
    exact h
  | _ => exact absurd hc (by simp [su_isCode])
set_option maxRecDepth 16384 in
theorem rf_w1_0 : (tables_1_1.take 40).all rf_has = true := by decide +kernel
set_option maxRecDepth 16384 in
theorem rf_w1_1 : ((tables_1_1.drop 40).take 40).all rf_has = true := by decide +kernel
set_option maxRecDepth 16384 in
theorem rf_w1_2 : (((tables_1_1.drop 40).drop 40).take 40).all rf_has = true := by decide +kernel
set_option maxRecDepth 16384 in
theorem rf_w1_3 : ((((tables_1_1.drop 40).drop 40).drop 40).take 40).all rf_has = true := by decide +kernel
set_option maxRecDepth 16384 in
theorem rf_w1_4 : (((((tables_1_1.drop 40).drop 40).drop 40).drop 40).take 40).all rf_has = true := by decide +kernel
set_option maxRecDepth 16384 in
theorem rf_w1_5 : (((((tables_1_1.drop 40).drop 40).drop 40).drop 40).drop 40).all rf_has = true := by decide +kernel
theorem rf_w1 : tables_1_1.all rf_has = true := (rf_split rf_has 40 (tables_1_1) rf_w1_0 (rf_split rf_has 40 (tables_1_1.drop 40) rf_w1_1 (rf_split rf_has 40 ((tables_1_1.drop 40).drop 40) rf_w1_2 (rf_split rf_has 40 (((tables_1_1.drop 40).drop 40).drop 40) rf_w1_3 (rf_split rf_has 40 ((((tables_1_1.drop 40).drop 40).drop 40).drop 40) rf_w1_4 rf_w1_5)))))
set_option maxRecDepth 16384 in
theorem rf_v1 : tables_1_1.all rf_same = true := by decide +kernel
set_option maxRecDepth 16384 in
theorem rf_w2_0 : (tables_1_2.take 40).all rf_has = true := by decide +kernel
set_option maxRecDepth 16384 in
theorem rf_w2_1 : ((tables_1_2.drop 40).take 40).all rf_has = true := by decide +kernel
set_option maxRecDepth 16384 in
theorem rf_w2_2 : (((tables_1_2.drop 40).drop 40).take 40).all rf_has = true := by decide +kernel
set_option maxRecDepth 16384 in
theorem rf_w2_3 : ((((tables_1_2.drop 40).drop 40).drop 40).take 40).all rf_has = true := by decide +kernel
set_option maxRecDepth 16384 in
theorem rf_w2_4 : (((((tables_1_2.drop 40).drop 40).drop 40).drop 40).take 40).all rf_has = true := by decide +kernel
set_option maxRecDepth 16384 in
theorem rf_w2_5 : (((((tables_1_2.drop 40).drop 40).drop 40).drop 40).drop 40).all rf_has = true := by decide +kernel
theorem rf_w2 : tables_1_2.all rf_has = true := (rf_split rf_has 40 (tables_1_2) rf_w2_0 (rf_split rf_has 40 (tables_1_2.drop 40) rf_w2_1 (rf_split rf_has 40 ((tables_1_2.drop 40).drop 40) rf_w2_2 (rf_split rf_has 40 (((tables_1_2.drop 40).drop 40).drop 40) rf_w2_3 (rf_split rf_has 40 ((((tables_1_2.drop 40).drop 40).drop 40).drop 40) rf_w2_4 rf_w2_5)))))
set_option maxRecDepth 16384 in
theorem rf_v2 : tables_1_2.all rf_same = true := by decide +kernel
set_option maxRecDepth 16384 in
theorem rf_w3_0 : (tables_1_3.take 40).all rf_has = true := by decide +kernel
set_option maxRecDepth 16384 in
theorem rf_w3_1 : ((tables_1_3.drop 40).take 40).all rf_has = true := by decide +kernel
set_option maxRecDepth 16384 in
theorem rf_w3_2 : (((tables_1_3.drop 40).drop 40).take 40).all rf_has = true := by decide +kernel
set_option maxRecDepth 16384 in
theorem rf_w3_3 : ((((tables_1_3.drop 40).drop 40).drop 40).take 40).all rf_has = true := by decide +kernel
set_option maxRecDepth 16384 in
theorem rf_w3_4 : (((((tables_1_3.drop 40).drop 40).drop 40).drop 40).take 40).all rf_has = true := by decide +kernel
set_option maxRecDepth 16384 in
theorem rf_w3_5 : (((((tables_1_3.drop 40).drop 40).drop 40).drop 40).drop 40).all rf_has = true := by decide +kernel
theorem rf_w3 : tables_1_3.all rf_has = true := (rf_split rf_has 40 (tables_1_3) rf_w3_0 (rf_split rf_has 40 (tables_1_3.drop 40) rf_w3_1 (rf_split rf_has 40 ((tables_1_3.drop 40).drop 40) rf_w3_2 (rf_split rf_has 40 (((tables_1_3.drop 40).drop 40).drop 40) rf_w3_3 (rf_split rf_has 40 ((((tables_1_3.drop 40).drop 40).drop 40).drop 40) rf_w3_4 rf_w3_5)))))
set_option maxRecDepth 16384 in
theorem rf_v3 : tables_1_3.all rf_same = true := by decide +kernel
set_option maxRecDepth 16384 in
theorem rf_w4_0 : (tables_1_4.take 40).all rf_has = true := by decide +kernel
set_option maxRecDepth 16384 in
theorem rf_w4_1 : ((tables_1_4.drop 40).take 40).all rf_has = true := by decide +kernel
set_option maxRecDepth 16384 in
theorem rf_w4_2 : (((tables_1_4.drop 40).drop 40).take 40).all rf_has = true := by decide +kernel
set_option maxRecDepth 16384 in
theorem rf_w4_3 : ((((tables_1_4.drop 40).drop 40).drop 40).take 40).all rf_has = true := by decide +kernel
set_option maxRecDepth 16384 in
theorem rf_w4_4 : (((((tables_1_4.drop 40).drop 40).drop 40).drop 40).take 40).all rf_has = true := by decide +kernel
set_option maxRecDepth 16384 in
theorem rf_w4_5 : (((((tables_1_4.drop 40).drop 40).drop 40).drop 40).drop 40).all rf_has = true := by decide +kernel
theorem rf_w4 : tables_1_4.all rf_has = true := (rf_split rf_has 40 (tables_1_4) rf_w4_0 (rf_split rf_has 40 (tables_1_4.drop 40) rf_w4_1 (rf_split rf_has 40 ((tables_1_4.drop 40).drop 40) rf_w4_2 (rf_split rf_has 40 (((tables_1_4.drop 40).drop 40).drop 40) rf_w4_3 (rf_split rf_has 40 ((((tables_1_4.drop 40).drop 40).drop 40).drop 40) rf_w4_4 rf_w4_5)))))
set_option maxRecDepth 16384 in
theorem rf_v4 : tables_1_4.all rf_same = true := by decide +kernel
set_option maxRecDepth 16384 in
theorem rf_w5_0 : (tables_1_5.take 40).all rf_has = true := by decide +kernel
set_option maxRecDepth 16384 in
theorem rf_w5_1 : ((tables_1_5.drop 40).take 40).all rf_has = true := by decide +kernel
set_option maxRecDepth 16384 in
theorem rf_w5_2 : (((tables_1_5.drop 40).drop 40).take 40).all rf_has = true := by decide +kernel
set_option maxRecDepth 16384 in
theorem rf_w5_3 : (((tables_1_5.drop 40).drop 40).drop 40).all rf_has = true := by decide +kernel
theorem rf_w5 : tables_1_5.all rf_has = true := (rf_split rf_has 40 (tables_1_5) rf_w5_0 (rf_split rf_has 40 (tables_1_5.drop 40) rf_w5_1 (rf_split rf_has 40 ((tables_1_5.drop 40).drop 40) rf_w5_2 rf_w5_3)))
set_option maxRecDepth 16384 in
theorem rf_v5 : tables_1_5.all rf_same = true := by decide +kernel
