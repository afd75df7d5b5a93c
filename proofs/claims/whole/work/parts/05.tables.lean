/-! Classes by their tags; fields by number; what stands before the law begins -/
def gm_f1 : List (String × String × String × Bool) := [("GalleySetter", "typed", "[C", true), ("GalleySetter", "typedCount", "I", false), ("GalleySetter", "divider", "LGalleySetter$Divider;", true), ("GalleySetter", "style", "LGalleySetter$Style;", true), ("GalleySetter", "text", "LGalleySetter$Text;", true), ("GalleySetter", "ways", "LGalleySetter$Ways;", true), ("GalleySetter", "galley", "LGalleySetter$Galley;", true), ("GalleySetter", "latestDemerits", "J", false)]
def gm_c1 : vw_C := ("GalleySetter", fun k => gm_f1.getD k ("", "", "", false), 8)
def gm_f2 : List (String × String × String × Bool) := [("GalleySetter$Pattern", "letters", "[C", true), ("GalleySetter$Pattern", "digits", "[I", true), ("GalleySetter$Pattern", "length", "I", false)]
def gm_c2 : vw_C := ("GalleySetter$Pattern", fun k => gm_f2.getD k ("", "", "", false), 3)
def gm_f3 : List (String × String × String × Bool) := [("GalleySetter$Divider", "patterns", "Ljava/util/ArrayList;", true), ("GalleySetter$Divider", "dotted", "[C", true), ("GalleySetter$Divider", "greatest", "[I", true)]
def gm_c3 : vw_C := ("GalleySetter$Divider", fun k => gm_f3.getD k ("", "", "", false), 3)
def gm_f4 : List (String × String × String × Bool) := [("GalleySetter$Style", "values", "[I", true), ("GalleySetter$Style", "widths", "[I", true)]
def gm_c4 : vw_C := ("GalleySetter$Style", fun k => gm_f4.getD k ("", "", "", false), 2)
def gm_f5 : List (String × String × String × Bool) := [("GalleySetter$Text", "characters", "[C", true), ("GalleySetter$Text", "length", "I", false), ("GalleySetter$Text", "widthBefore", "[I", true), ("GalleySetter$Text", "gapsBefore", "[I", true), ("GalleySetter$Text", "breakCount", "I", false), ("GalleySetter$Text", "lineEnd", "[I", true), ("GalleySetter$Text", "lineStart", "[I", true), ("GalleySetter$Text", "isPoint", "[Z", true)]
def gm_c5 : vw_C := ("GalleySetter$Text", fun k => gm_f5.getD k ("", "", "", false), 8)
def gm_f6 : List (String × String × String × Bool) := [("GalleySetter$Fit", "gaps", "I", false), ("GalleySetter$Fit", "excess", "I", false), ("GalleySetter$Fit", "badness", "J", false), ("GalleySetter$Fit", "kind", "I", false), ("GalleySetter$Fit", "mayBe", "Z", false), ("GalleySetter$Fit", "spread", "I", false)]
def gm_c6 : vw_C := ("GalleySetter$Fit", fun k => gm_f6.getD k ("", "", "", false), 6)
def gm_f7 : List (String × String × String × Bool) := [("GalleySetter$Ways", "fit", "LGalleySetter$Fit;", true), ("GalleySetter$Ways", "sums", "[J", true), ("GalleySetter$Ways", "stateBefore", "[I", true), ("GalleySetter$Ways", "backwards", "[I", true), ("GalleySetter$Ways", "lineCount", "I", false), ("GalleySetter$Ways", "least", "J", false)]
def gm_c7 : vw_C := ("GalleySetter$Ways", fun k => gm_f7.getD k ("", "", "", false), 6)
def gm_f8 : List (String × String × String × Bool) := [("GalleySetter$Line", "characters", "[C", true), ("GalleySetter$Line", "places", "[I", true), ("GalleySetter$Line", "mark", "I", true), ("GalleySetter$Line", "opens", "Z", true), ("GalleySetter$Line", "closes", "Z", true)]
def gm_c8 : vw_C := ("GalleySetter$Line", fun k => gm_f8.getD k ("", "", "", false), 5)
def gm_f9 : List (String × String × String × Bool) := [("GalleySetter$Galley", "kept", "Ljava/util/ArrayList;", true)]
def gm_c9 : vw_C := ("GalleySetter$Galley", fun k => gm_f9.getD k ("", "", "", false), 1)
def gm_f10 : List (String × String × String × Bool) := [("GalleySetterModel", "thrown", "I", false), ("GalleySetterModel", "typed", "I", false), ("GalleySetterModel", "text", "[I", false), ("GalleySetterModel", "patterns", "I", false), ("GalleySetterModel", "sizes", "[I", false), ("GalleySetterModel", "letters", "[I", false), ("GalleySetterModel", "digits", "[I", false), ("GalleySetterModel", "parameters", "[I", false), ("GalleySetterModel", "widths", "[I", false), ("GalleySetterModel", "length", "I", false), ("GalleySetterModel", "set", "[I", false), ("GalleySetterModel", "breaks", "I", false), ("GalleySetterModel", "ends", "[I", false), ("GalleySetterModel", "begins", "[I", false), ("GalleySetterModel", "points", "[Z", false), ("GalleySetterModel", "places", "[I", false), ("GalleySetterModel", "info", "[I", false), ("GalleySetterModel", "least", "[J", false), ("GalleySetterModel", "sum", "J", false), ("GalleySetterModel", "lines", "I", false), ("GalleySetterModel", "lineSize", "[I", false), ("GalleySetterModel", "lineBad", "[I", false), ("GalleySetterModel", "lineOf", "[I", false), ("GalleySetterModel", "linesOf", "[I", false), ("GalleySetterModel", "marks", "[I", false), ("GalleySetterModel", "path", "[I", false)]
def gm_c10 : vw_C := ("GalleySetterModel", fun k => gm_f10.getD k ("", "", "", false), 26)
def gm_f11 : List (String × String × String × Bool) := [("java/util/ArrayList", "elementData", "[Ljava/lang/Object;", false), ("java/util/ArrayList", "size", "I", false), ("java/util/AbstractList", "modCount", "I", false)]
def gm_c11 : vw_C := ("java/util/ArrayList", fun k => gm_f11.getD k ("", "", "", false), 3)
def gm_cl : List vw_C := [gm_c1, gm_c1, gm_c2, gm_c3, gm_c4, gm_c5, gm_c6, gm_c7, gm_c8, gm_c9, gm_c10, gm_c11]
def gm_N (t : Nat) : Nat := match gm_cl[t]? with
  | some q => q.2.2
  | none => 0
theorem gm_N_of {t N : Nat} {C : String} {T : u_T} (h : gm_cl[t]? = some (C, T, N)) : gm_N t = N := by unfold gm_N; rw [h]
def gm_fty (t k : Nat) : FieldType := match gm_cl[t]? with
  | some q => (parseFieldDescriptor (q.2.1 k).2.2.1).getD .int
  | none => .int
def gm_ty (t : Nat) : FieldType := match t with
  | 101 => .long
  | 102 => .char
  | 103 => .boolean
  | 104 => .byte
  | 105 => .object "java/lang/Object"
  | 111 => .object "java/lang/Object"
  | _ => .int
def gm_kdt (ty : FieldType) : Nat := match ty with
  | .long => 1
  | .object _ => 2
  | .array _ => 2
  | _ => 0
def gm_kd (t k : Nat) : Nat := if t < 100 then gm_kdt (gm_fty t k) else gm_kdt (gm_ty t)
def gm_zero (kd : Nat) : Value := if kd = 0 then .int (Int32.ofInt 0) else if kd = 1 then .long (Int64.ofInt 0) else va_rf none
def gm_ex (t : Nat) : String := match t with
  | 120 => "java/lang/IllegalArgumentException"
  | 121 => "java/lang/IllegalStateException"
  | 122 => "java/lang/UnsupportedOperationException"
  | 123 => "java/lang/IndexOutOfBoundsException"
  | _ => "java/lang/String"
def gm_sts : List (String × String × String) := [("GalleySetter", "LEAST", "[I"), ("GalleySetter", "MOST", "[I"), ("GalleySetter", "AT_FIRST", "[I"), ("java/util/ArrayList", "DEFAULTCAPACITY_EMPTY_ELEMENTDATA", "[Ljava/lang/Object;")]
def gm_strs : List (String × Nat × String) := [("GalleySetter", 65, "no letter, digit, dot or space"), ("GalleySetter", 72, "no room for one more character"), ("GalleySetter", 81, "what is typed is no pattern"), ("GalleySetter", 87, "no room for one more pattern"), ("GalleySetter", 97, "what is typed is no word"), ("GalleySetter", 107, "no such parameter, or out of its range"), ("GalleySetter", 113, "no letter or hyphen, or no width"), ("GalleySetter", 117, "what is typed is no text with a word"), ("GalleySetter", 127, "there is no way to set the text"), ("GalleySetter", 135, "the galley has no room for the paragraph"), ("GalleySetter", 151, "there is no such line"), ("GalleySetter", 165, "there is no such character")]
def gm_noc : List (String × String) := [("java/lang/IllegalStateException", "java/lang/IllegalArgumentException"), ("java/lang/UnsupportedOperationException", "java/lang/IllegalArgumentException"), ("java/lang/IndexOutOfBoundsException", "java/lang/IllegalArgumentException"), ("java/lang/IllegalArgumentException", "java/lang/IllegalStateException"), ("java/lang/UnsupportedOperationException", "java/lang/IllegalStateException"), ("java/lang/IndexOutOfBoundsException", "java/lang/IllegalStateException"), ("java/lang/IllegalArgumentException", "java/lang/UnsupportedOperationException"), ("java/lang/IllegalStateException", "java/lang/UnsupportedOperationException"), ("java/lang/IndexOutOfBoundsException", "java/lang/UnsupportedOperationException"), ("java/lang/IllegalArgumentException", "java/lang/IndexOutOfBoundsException"), ("java/lang/IllegalStateException", "java/lang/IndexOutOfBoundsException"), ("java/lang/UnsupportedOperationException", "java/lang/IndexOutOfBoundsException")]
def gm_hw : List Cond := [.laysStatic "java/lang/Throwable" "UNASSIGNED_STACK" "[Ljava/lang/StackTraceElement;", .laysStatic "java/lang/Throwable" "SUPPRESSED_SENTINEL" "Ljava/util/List;", .isRef (.static "java/lang/Throwable" "UNASSIGNED_STACK" "[Ljava/lang/StackTraceElement;"), .isRef (.static "java/lang/Throwable" "SUPPRESSED_SENTINEL" "Ljava/util/List;")]
