/-! A start of the claim in which AT_FIRST lies in a class record of the kind 'array of int' that no name finds: the kit's own witness of the claim (start1), an empty script, one more class record, and AT_FIRST's cell in it. That record has a clone of its own, which throws its receiver. -/
def rf_throw : Method := Lib.HandJ.method "clone" "()Ljava/lang/Object;" [] (some (.object "java/lang/Object")) 1 1 ⟨#[0x2a, 0xbf]⟩
def rf_odd : Class := { Lib.HandJ.cls "odd" #[] #[] 0x411 #[] #[rf_throw] #[] with kind := .array 36 .int, super := some 1, interfaces := #[18], cf := none }
def rf_b : State := start1.aboutOf #[]
def rf_s : State := { rf_b with vm := { rf_b.vm with classes := rf_b.vm.classes.push rf_odd }, heap := rf_b.heap.setIfInBounds 5 { cls := 47, slots := #[.int 120, .int 6, .int 3, .int 2, .int 50, .int 3000, .int 3000, .int 200, .int 10], vm := .none } }
theorem rf_at : (Term.static "GalleySetter" "AT_FIRST" "[I").eval start1.args0 rf_s none [] rf_s = some (.ref 5) := by decide +kernel
theorem rf_pre : (Cond.and given_1 narrow_1).before start1.args0 rf_s = true := by decide +kernel
theorem rf_rest : rest_1_c.before start1.args0 rf_s = true := by decide +kernel
theorem rf_args : argsFit rf_s.vm ⟨0, 0⟩ start1.args0 = true := by decide +kernel
theorem rf_fits : heapFits rf_s = true := by decide +kernel
def rf_tb : Tables := start1.p0.tables
def rf_step (s : State) : State := (stepThread rf_tb start1.e0 s).1
theorem rf_1 : (rf_step rf_s).frames.length = 2 := by decide +kernel
