theorem gm_t1 (i : Nat) {w : Cond} (h : tables_1[i]? = some w) : w ∈ lw_tbl := List.mem_append_right _ (List.mem_of_getElem? h)
def M_gs_isLetter : gm_M := (⟨"GalleySetter", "isLetter", "(C)Z"⟩, prog_1_method_17_code, 1, (Option.some Jvm.ClassFile.FieldType.boolean), [], 0, 0)
theorem wM_gs_isLetter : gm_cw M_gs_isLetter := Or.inl ⟨gm_in (gm_t1 286 (by decide +kernel)), rfl⟩
theorem dM_gs_isLetter_0 : decode M_gs_isLetter.2.1 0 = .ok (.iload_n 0, 1) := by decide +kernel
theorem dM_gs_isLetter_1 : decode M_gs_isLetter.2.1 1 = .ok (.bipush 97, 2) := by decide +kernel
theorem dM_gs_isLetter_3 : decode M_gs_isLetter.2.1 3 = .ok (.if_icmp .lt 13, 3) := by decide +kernel
theorem dM_gs_isLetter_6 : decode M_gs_isLetter.2.1 6 = .ok (.iload_n 0, 1) := by decide +kernel
theorem dM_gs_isLetter_7 : decode M_gs_isLetter.2.1 7 = .ok (.bipush 122, 2) := by decide +kernel
theorem dM_gs_isLetter_9 : decode M_gs_isLetter.2.1 9 = .ok (.if_icmp .gt 7, 3) := by decide +kernel
theorem dM_gs_isLetter_12 : decode M_gs_isLetter.2.1 12 = .ok (.iconst 1, 1) := by decide +kernel
theorem dM_gs_isLetter_13 : decode M_gs_isLetter.2.1 13 = .ok (.goto 4, 3) := by decide +kernel
theorem dM_gs_isLetter_16 : decode M_gs_isLetter.2.1 16 = .ok (.iconst 0, 1) := by decide +kernel
theorem dM_gs_isLetter_17 : decode M_gs_isLetter.2.1 17 = .ok (.ireturn, 1) := by decide +kernel
def M_gs_isDigit : gm_M := (⟨"GalleySetter", "isDigit", "(C)Z"⟩, prog_1_method_18_code, 1, (Option.some Jvm.ClassFile.FieldType.boolean), [], 0, 0)
theorem wM_gs_isDigit : gm_cw M_gs_isDigit := Or.inl ⟨gm_in (gm_t1 289 (by decide +kernel)), rfl⟩
theorem dM_gs_isDigit_0 : decode M_gs_isDigit.2.1 0 = .ok (.iload_n 0, 1) := by decide +kernel
theorem dM_gs_isDigit_1 : decode M_gs_isDigit.2.1 1 = .ok (.bipush 48, 2) := by decide +kernel
theorem dM_gs_isDigit_3 : decode M_gs_isDigit.2.1 3 = .ok (.if_icmp .lt 13, 3) := by decide +kernel
theorem dM_gs_isDigit_6 : decode M_gs_isDigit.2.1 6 = .ok (.iload_n 0, 1) := by decide +kernel
theorem dM_gs_isDigit_7 : decode M_gs_isDigit.2.1 7 = .ok (.bipush 57, 2) := by decide +kernel
theorem dM_gs_isDigit_9 : decode M_gs_isDigit.2.1 9 = .ok (.if_icmp .gt 7, 3) := by decide +kernel
theorem dM_gs_isDigit_12 : decode M_gs_isDigit.2.1 12 = .ok (.iconst 1, 1) := by decide +kernel
theorem dM_gs_isDigit_13 : decode M_gs_isDigit.2.1 13 = .ok (.goto 4, 3) := by decide +kernel
theorem dM_gs_isDigit_16 : decode M_gs_isDigit.2.1 16 = .ok (.iconst 0, 1) := by decide +kernel
theorem dM_gs_isDigit_17 : decode M_gs_isDigit.2.1 17 = .ok (.ireturn, 1) := by decide +kernel
def M_gs_type : gm_M := (⟨"GalleySetter", "type", "(C)I"⟩, prog_1_method_2_code, 2, (Option.some Jvm.ClassFile.FieldType.int), [], 6, 90)
theorem wM_gs_type : gm_cw M_gs_type := Or.inl ⟨gm_in (gm_t1 283 (by decide +kernel)), rfl⟩
theorem dM_gs_type_0 : decode M_gs_type.2.1 0 = .ok (.iload_n 1, 1) := by decide +kernel
theorem dM_gs_type_1 : decode M_gs_type.2.1 1 = .ok (.invokestatic 56, 3) := by decide +kernel
theorem dM_gs_type_4 : decode M_gs_type.2.1 4 = .ok (.ifCond .ne 32, 3) := by decide +kernel
theorem dM_gs_type_7 : decode M_gs_type.2.1 7 = .ok (.iload_n 1, 1) := by decide +kernel
theorem dM_gs_type_8 : decode M_gs_type.2.1 8 = .ok (.invokestatic 60, 3) := by decide +kernel
theorem dM_gs_type_11 : decode M_gs_type.2.1 11 = .ok (.ifCond .ne 25, 3) := by decide +kernel
theorem dM_gs_type_14 : decode M_gs_type.2.1 14 = .ok (.iload_n 1, 1) := by decide +kernel
theorem dM_gs_type_15 : decode M_gs_type.2.1 15 = .ok (.bipush 46, 2) := by decide +kernel
theorem dM_gs_type_17 : decode M_gs_type.2.1 17 = .ok (.if_icmp .eq 19, 3) := by decide +kernel
theorem dM_gs_type_20 : decode M_gs_type.2.1 20 = .ok (.iload_n 1, 1) := by decide +kernel
theorem dM_gs_type_21 : decode M_gs_type.2.1 21 = .ok (.bipush 32, 2) := by decide +kernel
theorem dM_gs_type_23 : decode M_gs_type.2.1 23 = .ok (.if_icmp .eq 13, 3) := by decide +kernel
theorem dM_gs_type_26 : decode M_gs_type.2.1 26 = .ok (.new 63, 3) := by decide +kernel
theorem dM_gs_type_29 : decode M_gs_type.2.1 29 = .ok (.dup, 1) := by decide +kernel
theorem dM_gs_type_30 : decode M_gs_type.2.1 30 = .ok (.ldc 65, 2) := by decide +kernel
theorem dM_gs_type_32 : decode M_gs_type.2.1 32 = .ok (.invokespecial 67, 3) := by decide +kernel
theorem dM_gs_type_35 : decode M_gs_type.2.1 35 = .ok (.athrow, 1) := by decide +kernel
theorem dM_gs_type_36 : decode M_gs_type.2.1 36 = .ok (.aload_n 0, 1) := by decide +kernel
theorem dM_gs_type_37 : decode M_gs_type.2.1 37 = .ok (.getfield 48, 3) := by decide +kernel
theorem dM_gs_type_40 : decode M_gs_type.2.1 40 = .ok (.bipush 80, 2) := by decide +kernel
theorem dM_gs_type_42 : decode M_gs_type.2.1 42 = .ok (.if_icmp .lt 13, 3) := by decide +kernel
theorem dM_gs_type_45 : decode M_gs_type.2.1 45 = .ok (.new 70, 3) := by decide +kernel
theorem dM_gs_type_48 : decode M_gs_type.2.1 48 = .ok (.dup, 1) := by decide +kernel
theorem dM_gs_type_49 : decode M_gs_type.2.1 49 = .ok (.ldc 72, 2) := by decide +kernel
theorem dM_gs_type_51 : decode M_gs_type.2.1 51 = .ok (.invokespecial 74, 3) := by decide +kernel
theorem dM_gs_type_54 : decode M_gs_type.2.1 54 = .ok (.athrow, 1) := by decide +kernel
theorem dM_gs_type_55 : decode M_gs_type.2.1 55 = .ok (.aload_n 0, 1) := by decide +kernel
theorem dM_gs_type_56 : decode M_gs_type.2.1 56 = .ok (.getfield 9, 3) := by decide +kernel
theorem dM_gs_type_59 : decode M_gs_type.2.1 59 = .ok (.aload_n 0, 1) := by decide +kernel
theorem dM_gs_type_60 : decode M_gs_type.2.1 60 = .ok (.getfield 48, 3) := by decide +kernel
theorem dM_gs_type_63 : decode M_gs_type.2.1 63 = .ok (.iload_n 1, 1) := by decide +kernel
theorem dM_gs_type_64 : decode M_gs_type.2.1 64 = .ok (.castore, 1) := by decide +kernel
theorem dM_gs_type_65 : decode M_gs_type.2.1 65 = .ok (.aload_n 0, 1) := by decide +kernel
theorem dM_gs_type_66 : decode M_gs_type.2.1 66 = .ok (.dup, 1) := by decide +kernel
theorem dM_gs_type_67 : decode M_gs_type.2.1 67 = .ok (.getfield 48, 3) := by decide +kernel
theorem dM_gs_type_70 : decode M_gs_type.2.1 70 = .ok (.iconst 1, 1) := by decide +kernel
theorem dM_gs_type_71 : decode M_gs_type.2.1 71 = .ok (.iadd, 1) := by decide +kernel
theorem dM_gs_type_72 : decode M_gs_type.2.1 72 = .ok (.putfield 48, 3) := by decide +kernel
theorem dM_gs_type_75 : decode M_gs_type.2.1 75 = .ok (.aload_n 0, 1) := by decide +kernel
theorem dM_gs_type_76 : decode M_gs_type.2.1 76 = .ok (.getfield 48, 3) := by decide +kernel
theorem dM_gs_type_79 : decode M_gs_type.2.1 79 = .ok (.ireturn, 1) := by decide +kernel
theorem F_gs_48 : gm_F "GalleySetter" 48 1 1 := ⟨_, _, _, "GalleySetter", by decide, by decide, rfl, by decide, Or.inl (gm_in (by decide +kernel)), Or.inl rfl⟩
theorem F_gs_9 : gm_F "GalleySetter" 9 1 0 := ⟨_, _, _, "GalleySetter", by decide, by decide, rfl, by decide, Or.inl (gm_in (by decide +kernel)), Or.inl rfl⟩
theorem G_gs_type_48 : gm_FW "GalleySetter" "type" 48 1 1 := ⟨_, _, _, "GalleySetter", by decide, by decide, rfl, by decide, Or.inl rfl, Or.inl ⟨rfl, Or.inl (gm_in (by decide +kernel))⟩⟩
def M_law_type : gm_M := (⟨"GalleySetterLaw", "type", "(LGalleySetter;C[J)I"⟩, method_3_code, 4, (Option.some Jvm.ClassFile.FieldType.int), [(0, 9, 12, 13), (0, 9, 15, 15)], 7, 111)
theorem wM_law_type : gm_cw M_law_type := Or.inr (gm_in (gm_t1 277 (by decide +kernel)))
theorem dM_law_type_0 : decode M_law_type.2.1 0 = .ok (.aload_n 2, 1) := by decide +kernel
theorem dM_law_type_1 : decode M_law_type.2.1 1 = .ok (.iconst 0, 1) := by decide +kernel
theorem dM_law_type_2 : decode M_law_type.2.1 2 = .ok (.aload_n 0, 1) := by decide +kernel
theorem dM_law_type_3 : decode M_law_type.2.1 3 = .ok (.iload_n 1, 1) := by decide +kernel
theorem dM_law_type_4 : decode M_law_type.2.1 4 = .ok (.invokevirtual 7, 3) := by decide +kernel
theorem dM_law_type_7 : decode M_law_type.2.1 7 = .ok (.i2l, 1) := by decide +kernel
theorem dM_law_type_8 : decode M_law_type.2.1 8 = .ok (.lastore, 1) := by decide +kernel
theorem dM_law_type_9 : decode M_law_type.2.1 9 = .ok (.goto 9, 3) := by decide +kernel
theorem dM_law_type_12 : decode M_law_type.2.1 12 = .ok (.astore_n 3, 1) := by decide +kernel
theorem dM_law_type_13 : decode M_law_type.2.1 13 = .ok (.iconst 1, 1) := by decide +kernel
theorem dM_law_type_14 : decode M_law_type.2.1 14 = .ok (.ireturn, 1) := by decide +kernel
theorem dM_law_type_15 : decode M_law_type.2.1 15 = .ok (.astore_n 3, 1) := by decide +kernel
theorem dM_law_type_16 : decode M_law_type.2.1 16 = .ok (.iconst 2, 1) := by decide +kernel
theorem dM_law_type_17 : decode M_law_type.2.1 17 = .ok (.ireturn, 1) := by decide +kernel
theorem dM_law_type_18 : decode M_law_type.2.1 18 = .ok (.iconst 0, 1) := by decide +kernel
theorem dM_law_type_19 : decode M_law_type.2.1 19 = .ok (.ireturn, 1) := by decide +kernel
