/-! First contracts: letters, digits, type -/
section C1
variable {E : gm_E} {h : gm_H} {K : Outcome → gm_H → Prop}
theorem c_gs_isLetter {x : Int} (hx : zR x) (k : K (.returned (some (z_i (if 97 ≤ x ∧ x ≤ 122 then 1 else 0)))) h) : gm_A E M_gs_isLetter 0 [(0, z_i x)] [] h (gm_k E K) := by
  refine gm_iload_n dM_gs_isLetter_0 rfl ?_
  refine gm_bipush dM_gs_isLetter_1 (by decide +kernel) ?_
  refine gm_icmp_lt (tgt := 16) dM_gs_isLetter_3 (by decide) (by omega) (by omega) (fun q => ?_) (fun q => ?_)
  · rw [if_neg (by omega)] at k
    refine gm_iconst dM_gs_isLetter_16 ?_
    exact gm_iret dM_gs_isLetter_17 rfl (by decide +kernel) k
  · refine gm_iload_n dM_gs_isLetter_6 rfl ?_
    refine gm_bipush dM_gs_isLetter_7 (by decide +kernel) ?_
    refine gm_icmp_gt (tgt := 16) dM_gs_isLetter_9 (by decide) (by omega) (by omega) (fun q2 => ?_) (fun q2 => ?_)
    · rw [if_neg (by omega)] at k
      refine gm_iconst dM_gs_isLetter_16 ?_
      exact gm_iret dM_gs_isLetter_17 rfl (by decide +kernel) k
    · rw [if_pos (by omega)] at k
      refine gm_iconst dM_gs_isLetter_12 ?_
      refine gm_goto (tgt := 17) dM_gs_isLetter_13 (by decide) ?_
      exact gm_iret dM_gs_isLetter_17 rfl (by decide +kernel) k
theorem c_gs_isDigit {x : Int} (hx : zR x) (k : K (.returned (some (z_i (if 48 ≤ x ∧ x ≤ 57 then 1 else 0)))) h) : gm_A E M_gs_isDigit 0 [(0, z_i x)] [] h (gm_k E K) := by
  refine gm_iload_n dM_gs_isDigit_0 rfl ?_
  refine gm_bipush dM_gs_isDigit_1 (by decide +kernel) ?_
  refine gm_icmp_lt (tgt := 16) dM_gs_isDigit_3 (by decide) (by omega) (by omega) (fun q => ?_) (fun q => ?_)
  · rw [if_neg (by omega)] at k
    refine gm_iconst dM_gs_isDigit_16 ?_
    exact gm_iret dM_gs_isDigit_17 rfl (by decide +kernel) k
  · refine gm_iload_n dM_gs_isDigit_6 rfl ?_
    refine gm_bipush dM_gs_isDigit_7 (by decide +kernel) ?_
    refine gm_icmp_gt (tgt := 16) dM_gs_isDigit_9 (by decide) (by omega) (by omega) (fun q2 => ?_) (fun q2 => ?_)
    · rw [if_neg (by omega)] at k
      refine gm_iconst dM_gs_isDigit_16 ?_
      exact gm_iret dM_gs_isDigit_17 rfl (by decide +kernel) k
    · rw [if_pos (by omega)] at k
      refine gm_iconst dM_gs_isDigit_12 ?_
      refine gm_goto (tgt := 17) dM_gs_isDigit_13 (by decide) ?_
      exact gm_iret dM_gs_isDigit_17 rfl (by decide +kernel) k
def ok_char (x : Int) : Prop := (97 ≤ x ∧ x ≤ 122) ∨ (48 ≤ x ∧ x ≤ 57) ∨ x = 46 ∨ x = 32
theorem c_gs_type36 {o a : Nat} {x n : Int} (ho : gm_tag h o = 1) (hp : gm_P h o 0 = some a) (ha : gm_tag h a = 102) (hl : gm_len h a = 80) (hn : gm_I h o 1 = n) (h0 : 0 ≤ n) (h1 : n ≤ 80) (hx : 0 ≤ x ∧ x < 65536) (hao : a ≠ o) (hrc : 1 ≤ gm_rc h) (hrs : 6 ≤ gm_rs h)
    (k2 : n = 80 → K (.threw (gm_sz h)) (gm_new h 121 0 6)) (k3 : n < 80 → K (.returned (some (z_i (n + 1)))) (gm_setI (gm_setI h a n x) o 1 (n + 1))) : gm_A E M_gs_type 36 [(0, .ref o), (1, z_i x)] [] h (gm_k E K) := by
  refine gm_aload_n dM_gs_type_36 rfl ?_
  refine gm_getI (f := 1) (i := 1) dM_gs_type_37 F_gs_48 rfl rfl ho ?_
  rw [hn]
  refine gm_bipush dM_gs_type_40 (by decide +kernel) ?_
  refine gm_icmp_lt (tgt := 55) dM_gs_type_42 (by decide) (by omega) (by omega) (fun q => ?_) (fun q => ?_)
  · refine gm_aload_n dM_gs_type_55 rfl ?_
    refine gm_getP (f := 0) (i := 0) dM_gs_type_56 F_gs_9 rfl rfl ho hp ?_
    refine gm_aload_n dM_gs_type_59 rfl ?_
    refine gm_getI (f := 1) (i := 1) dM_gs_type_60 F_gs_48 rfl rfl ho ?_
    rw [hn]
    refine gm_iload_n dM_gs_type_63 rfl ?_
    refine gm_cast (y := x) (gm_charN hx) dM_gs_type_64 ha (by decide) (by decide) rfl h0 (by omega) ?_
    refine gm_aload_n dM_gs_type_65 rfl ?_
    refine gm_dup dM_gs_type_66 rfl ?_
    refine gm_getI (f := 1) (i := 1) dM_gs_type_67 F_gs_48 rfl rfl ho ?_
    rw [gm_I_ne h a n x o 1 (fun z => hao z.1.symm), hn]
    refine gm_iconst dM_gs_type_70 ?_
    refine gm_iadd dM_gs_type_71 ?_
    refine gm_putI (f := 1) (i := 1) dM_gs_type_72 G_gs_type_48 rfl rfl ho rfl rfl ?_
    refine gm_aload_n dM_gs_type_75 rfl ?_
    refine gm_getI (f := 1) (i := 1) dM_gs_type_76 F_gs_48 rfl rfl ho ?_
    rw [gm_I_at]
    exact gm_iret dM_gs_type_79 rfl rfl (k3 q)
  · exact gm_throw (x := 121) (tx := "no room for one more character") (names := ["java/lang/RuntimeException", "java/lang/Exception"]) dM_gs_type_45 dM_gs_type_48 dM_gs_type_49 dM_gs_type_51 dM_gs_type_54 (by decide) (gm_in (by decide +kernel)) (gm_in (by decide +kernel)) (gm_in (by decide +kernel)) (by decide +kernel) (by decide +kernel) (by decide +kernel) (gm_own _ (by decide +kernel)) rfl (by decide) (by decide) hrc hrs (k2 (by omega))
end C1
