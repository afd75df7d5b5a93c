/-! What the premises leave open at AT_FIRST.clone() in GalleySetter$Style.<init>: they say of AT_FIRST's array that it is an array of int (arrayOf), and of the class that is FOUND under the name "[I" that clone is selected in it and that it can be cast to Cloneable. They do not say that the array is OF that class. In this small table both hold, and clone is not selected in the array's own class. -/
def gp_clone : Method := { name := "clone", desc := "()Ljava/lang/Object;", sig := ⟨[], some (.object "java/lang/Object")⟩, accessFlags := 260, code := none }
def gp_obj : Class := { name := "java/lang/Object", kind := .ordinary, loader := none, accessFlags := 1, super := none, interfaces := #[], cf := none, fields := #[], methods := #[gp_clone], instanceTypes := #[], staticTypes := #[], resolved := #[], callSites := [], init := .initialized, statics := none, mirror := none }
def gp_int : Class := { name := "int", kind := .primitive 'I', loader := none, accessFlags := 1, super := none, interfaces := #[], cf := none, fields := #[], methods := #[], instanceTypes := #[], staticTypes := #[], resolved := #[], callSites := [], init := .initialized, statics := none, mirror := none }
def gp_face : Class := { name := "java/lang/Cloneable", kind := .ordinary, loader := none, accessFlags := 1537, super := some 0, interfaces := #[], cf := none, fields := #[], methods := #[], instanceTypes := #[], staticTypes := #[], resolved := #[], callSites := [], init := .initialized, statics := none, mirror := none }
def gp_arr : Class := { name := "[I", kind := .array 1 .int, loader := none, accessFlags := 1, super := some 0, interfaces := #[2], cf := none, fields := #[], methods := #[], instanceTypes := #[], staticTypes := #[], resolved := #[], callSites := [], init := .initialized, statics := none, mirror := none }
def gp_odd : Class := { gp_arr with super := none, interfaces := #[] }
def gp_vm : Vm := { classes := #[gp_obj, gp_int, gp_face, gp_arr, gp_odd] }
def gp_sel : Selection → Option MethodId
  | .method m => some m
  | _ => none
theorem gp_gap : gp_vm.findClass "[I" = some 3 ∧ gp_sel (selectMethod ({} : Platform) gp_vm 3 ⟨0, 0⟩) = some ⟨0, 0⟩ ∧ gp_vm.assignable 3 2 = true ∧ (∃ comp, (gp_vm.classes[4]?).map (fun k => k.kind) = some (.array comp .int)) ∧ gp_sel (selectMethod ({} : Platform) gp_vm 4 ⟨0, 0⟩) = none ∧ gp_vm.assignable 4 2 = false :=
  ⟨by decide +kernel, by decide +kernel, by decide +kernel, ⟨1, rfl⟩, by decide +kernel, by decide +kernel⟩
