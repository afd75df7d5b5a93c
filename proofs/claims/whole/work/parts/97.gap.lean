/-! What the premises leave open at AT_FIRST.clone() in GalleySetter$Style.<init>: they say of AT_FIRST's array that it is an array of int (arrayOf), and of the class that is FOUND under the name "[I" that clone is selected in it and that it can be cast to Cloneable. They do not say that the array is OF that class. In this small table both hold, and clone is not selected in the array's own class. -/
def gp_clone : Method := { name := "clone", desc := "()Ljava/lang/Object;", sig := ⟨[], some (.object "java/lang/Object")⟩, accessFlags := 260, code := none }
def gp_obj : Class := { name := "java/lang/Object", kind := .ordinary, loader := none, accessFlags := 1, super := none, interfaces := #[], cf := none, fields := #[], methods := #[gp_clone], instanceTypes := #[], staticTypes := #[], resolved := #[], callSites := [], init := .initialized, statics := none, mirror := none }
def gp_int : Class := { name := "int", kind := .primitive 'I', loader := none, accessFlags := 1, super := none, interfaces := #[], cf := none, fields := #[], methods := #[], instanceTypes := #[], staticTypes := #[], resolved := #[], callSites := [], init := .initialized, statics := none, mirror := none }
def gp_face : Class := { name := "java/lang/Cloneable", kind := .ordinary, loader := none, accessFlags := 1537, super := some 0, interfaces := #[], cf := none, fields := #[], methods := #[], instanceTypes := #[], staticTypes := #[], resolved := #[], callSites := [], init := .initialized, statics := none, mirror := none }
def gp_arr : Class := { name := "[I", kind := .array 1 .int, loader := none, accessFlags := 1, super := some 0, interfaces := #[2], cf := none, fields := #[], methods := #[], instanceTypes := #[], staticTypes := #[], resolved := #[], callSites := [], init := .initialized, statics := none, mirror := none }
def gp_odd : Class := { gp_arr with super := none, interfaces := #[] }
def gp_vm : Vm := { classes := #[gp_obj, gp_int, gp_face, gp_arr, gp_odd] }
def gp_sel : Selection → Option MethodId
  | .method m => some m
  | _ => none
theorem gp_gap : gp_vm.findClass "[I" = some 3 ∧ gp_sel (selectMethod ({} : Platform) gp_vm 3 ⟨0, 0⟩) = some ⟨0, 0⟩ ∧ gp_vm.assignable 3 2 = true ∧ (∃ comp, (gp_vm.classes[4]?).map (fun k => k.kind) = some (.array comp .int)) ∧ gp_sel (selectMethod ({} : Platform) gp_vm 4 ⟨0, 0⟩) = none ∧ gp_vm.assignable 4 2 = false :=
  ⟨by decide +kernel, by decide +kernel, by decide +kernel, ⟨1, rfl⟩, by decide +kernel, by decide +kernel⟩
/-! The same as a state: every premise that speaks of AT_FIRST or of the class "[I" (but the pool entries of GalleySetter$Style, which speak of names alone) holds in gp_s, they are premises of this claim (gp_ours), and clone is not selected in the class of AT_FIRST's array -/
def gp_gs : Class := { name := "GalleySetter", kind := .ordinary, loader := none, accessFlags := 49, super := some 0, interfaces := #[], cf := none, fields := #[{ name := "AT_FIRST", type := .array .int, accessFlags := 26, slot := 0, constantValue := 0 }], methods := #[], instanceTypes := #[], staticTypes := #[.array .int], resolved := #[], callSites := [], init := .initialized, statics := some 0, mirror := none }
def gp_s : State := { vm := { classes := #[gp_obj, gp_int, gp_face, gp_arr, gp_odd, gp_gs] }, heap := #[{ cls := 5, slots := #[.ref 1], vm := .statics 5 }, { cls := 4, slots := #[.int 120, .int 6, .int 3, .int 2, .int 50, .int 3000, .int 3000, .int 200, .int 10], vm := .none }] }
def gp_t : Term := .static "GalleySetter" "AT_FIRST" "[I"
def gp_oc : MethodName := ⟨"java/lang/Object", "clone", "()Ljava/lang/Object;"⟩
def gp_ws : List Cond := [.initialized "GalleySetter", .laysStatic "GalleySetter" "AT_FIRST" "[I", .isRef gp_t, .arrayOf gp_t .int, .eq (.length gp_t) (.int 9), .eq (.elem gp_t (.int 0)) (.int 120), .eq (.elem gp_t (.int 1)) (.int 6), .eq (.elem gp_t (.int 2)) (.int 3), .eq (.elem gp_t (.int 3)) (.int 2), .eq (.elem gp_t (.int 4)) (.int 50), .eq (.elem gp_t (.int 5)) (.int 3000), .eq (.elem gp_t (.int 6)) (.int 3000), .eq (.elem gp_t (.int 7)) (.int 200), .eq (.elem gp_t (.int 8)) (.int 10),
  .arrayClass .int, .sameMethod "[I" "java/lang/Object" "clone" "()Ljava/lang/Object;", .selects "[I" ⟨"[I", "clone", "()Ljava/lang/Object;"⟩ gp_oc, .castable "[I" "java/lang/Cloneable", .native gp_oc, .instanceMethod gp_oc]
theorem gp_hold : (gp_ws.all fun w => w.before #[] gp_s) = true := by decide +kernel
theorem gp_fits : heapFits gp_s = true := by decide +kernel
theorem gp_ours : (gp_ws.all fun w => decide (w ∈ tables_1) || decide (w ∈ flatC narrow_1)) = true := by decide +kernel
theorem gp_not : gp_t.eval #[] gp_s none [] gp_s = some (.ref 1) ∧ (gp_s.heap[1]?).map (fun c => c.cls) = some 4 ∧ gp_s.methodNamed? gp_oc = some ⟨0, 0⟩ ∧ gp_sel (selectMethod ({} : Platform) gp_s.vm 4 ⟨0, 0⟩) = none ∧ gp_s.vm.assignable 4 2 = false :=
  ⟨by decide +kernel, by decide +kernel, by decide +kernel, by decide +kernel, by decide +kernel⟩
