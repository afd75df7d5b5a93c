/-! Every word of the tables holds at that start -/
theorem rf_split {α : Type} (p : α → Bool) (n : Nat) (l : List α) (h1 : (l.take n).all p = true) (h2 : (l.drop n).all p = true) : l.all p = true := by
  rw [← List.take_append_drop n l, List.all_append, h1, h2]; rfl
def rf_has (c : Jvm.Cond) : Bool := c.before start1.args0 rf_s
set_option maxRecDepth 16384 in
theorem rf_w1_0 : (tables_1_1.take 40).all rf_has = true := by decide +kernel
set_option maxRecDepth 16384 in
theorem rf_w1_1 : ((tables_1_1.drop 40).take 40).all rf_has = true := by decide +kernel
set_option maxRecDepth 16384 in
theorem rf_w1_2 : (((tables_1_1.drop 40).drop 40).take 40).all rf_has = true := by decide +kernel
set_option maxRecDepth 16384 in
theorem rf_w1_3 : ((((tables_1_1.drop 40).drop 40).drop 40).take 40).all rf_has = true := by decide +kernel
set_option maxRecDepth 16384 in
theorem rf_w1_4 : (((((tables_1_1.drop 40).drop 40).drop 40).drop 40).take 40).all rf_has = true := by decide +kernel
set_option maxRecDepth 16384 in
theorem rf_w1_5 : (((((tables_1_1.drop 40).drop 40).drop 40).drop 40).drop 40).all rf_has = true := by decide +kernel
theorem rf_w1 : tables_1_1.all rf_has = true := (rf_split rf_has 40 (tables_1_1) rf_w1_0 (rf_split rf_has 40 (tables_1_1.drop 40) rf_w1_1 (rf_split rf_has 40 ((tables_1_1.drop 40).drop 40) rf_w1_2 (rf_split rf_has 40 (((tables_1_1.drop 40).drop 40).drop 40) rf_w1_3 (rf_split rf_has 40 ((((tables_1_1.drop 40).drop 40).drop 40).drop 40) rf_w1_4 rf_w1_5)))))
set_option maxRecDepth 16384 in
theorem rf_w2_0 : (tables_1_2.take 40).all rf_has = true := by decide +kernel
set_option maxRecDepth 16384 in
theorem rf_w2_1 : ((tables_1_2.drop 40).take 40).all rf_has = true := by decide +kernel
set_option maxRecDepth 16384 in
theorem rf_w2_2 : (((tables_1_2.drop 40).drop 40).take 40).all rf_has = true := by decide +kernel
set_option maxRecDepth 16384 in
theorem rf_w2_3 : ((((tables_1_2.drop 40).drop 40).drop 40).take 40).all rf_has = true := by decide +kernel
set_option maxRecDepth 16384 in
theorem rf_w2_4 : (((((tables_1_2.drop 40).drop 40).drop 40).drop 40).take 40).all rf_has = true := by decide +kernel
set_option maxRecDepth 16384 in
theorem rf_w2_5 : (((((tables_1_2.drop 40).drop 40).drop 40).drop 40).drop 40).all rf_has = true := by decide +kernel
theorem rf_w2 : tables_1_2.all rf_has = true := (rf_split rf_has 40 (tables_1_2) rf_w2_0 (rf_split rf_has 40 (tables_1_2.drop 40) rf_w2_1 (rf_split rf_has 40 ((tables_1_2.drop 40).drop 40) rf_w2_2 (rf_split rf_has 40 (((tables_1_2.drop 40).drop 40).drop 40) rf_w2_3 (rf_split rf_has 40 ((((tables_1_2.drop 40).drop 40).drop 40).drop 40) rf_w2_4 rf_w2_5)))))
set_option maxRecDepth 16384 in
theorem rf_w3_0 : (tables_1_3.take 40).all rf_has = true := by decide +kernel
set_option maxRecDepth 16384 in
theorem rf_w3_1 : ((tables_1_3.drop 40).take 40).all rf_has = true := by decide +kernel
set_option maxRecDepth 16384 in
theorem rf_w3_2 : (((tables_1_3.drop 40).drop 40).take 40).all rf_has = true := by decide +kernel
set_option maxRecDepth 16384 in
theorem rf_w3_3 : ((((tables_1_3.drop 40).drop 40).drop 40).take 40).all rf_has = true := by decide +kernel
set_option maxRecDepth 16384 in
theorem rf_w3_4 : (((((tables_1_3.drop 40).drop 40).drop 40).drop 40).take 40).all rf_has = true := by decide +kernel
set_option maxRecDepth 16384 in
theorem rf_w3_5 : (((((tables_1_3.drop 40).drop 40).drop 40).drop 40).drop 40).all rf_has = true := by decide +kernel
theorem rf_w3 : tables_1_3.all rf_has = true := (rf_split rf_has 40 (tables_1_3) rf_w3_0 (rf_split rf_has 40 (tables_1_3.drop 40) rf_w3_1 (rf_split rf_has 40 ((tables_1_3.drop 40).drop 40) rf_w3_2 (rf_split rf_has 40 (((tables_1_3.drop 40).drop 40).drop 40) rf_w3_3 (rf_split rf_has 40 ((((tables_1_3.drop 40).drop 40).drop 40).drop 40) rf_w3_4 rf_w3_5)))))
set_option maxRecDepth 16384 in
theorem rf_w4_0 : (tables_1_4.take 40).all rf_has = true := by decide +kernel
set_option maxRecDepth 16384 in
theorem rf_w4_1 : ((tables_1_4.drop 40).take 40).all rf_has = true := by decide +kernel
set_option maxRecDepth 16384 in
theorem rf_w4_2 : (((tables_1_4.drop 40).drop 40).take 40).all rf_has = true := by decide +kernel
set_option maxRecDepth 16384 in
theorem rf_w4_3 : ((((tables_1_4.drop 40).drop 40).drop 40).take 40).all rf_has = true := by decide +kernel
set_option maxRecDepth 16384 in
theorem rf_w4_4 : (((((tables_1_4.drop 40).drop 40).drop 40).drop 40).take 40).all rf_has = true := by decide +kernel
set_option maxRecDepth 16384 in
theorem rf_w4_5 : (((((tables_1_4.drop 40).drop 40).drop 40).drop 40).drop 40).all rf_has = true := by decide +kernel
theorem rf_w4 : tables_1_4.all rf_has = true := (rf_split rf_has 40 (tables_1_4) rf_w4_0 (rf_split rf_has 40 (tables_1_4.drop 40) rf_w4_1 (rf_split rf_has 40 ((tables_1_4.drop 40).drop 40) rf_w4_2 (rf_split rf_has 40 (((tables_1_4.drop 40).drop 40).drop 40) rf_w4_3 (rf_split rf_has 40 ((((tables_1_4.drop 40).drop 40).drop 40).drop 40) rf_w4_4 rf_w4_5)))))
set_option maxRecDepth 16384 in
theorem rf_w5_0 : (tables_1_5.take 40).all rf_has = true := by decide +kernel
set_option maxRecDepth 16384 in
theorem rf_w5_1 : ((tables_1_5.drop 40).take 40).all rf_has = true := by decide +kernel
set_option maxRecDepth 16384 in
theorem rf_w5_2 : (((tables_1_5.drop 40).drop 40).take 40).all rf_has = true := by decide +kernel
set_option maxRecDepth 16384 in
theorem rf_w5_3 : (((tables_1_5.drop 40).drop 40).drop 40).all rf_has = true := by decide +kernel
theorem rf_w5 : tables_1_5.all rf_has = true := (rf_split rf_has 40 (tables_1_5) rf_w5_0 (rf_split rf_has 40 (tables_1_5.drop 40) rf_w5_1 (rf_split rf_has 40 ((tables_1_5.drop 40).drop 40) rf_w5_2 rf_w5_3)))
