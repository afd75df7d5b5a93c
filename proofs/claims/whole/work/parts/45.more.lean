/-! Small helps for contracts -/
theorem gm_charN {x : Int} (hx : 0 ≤ x ∧ x < 65536) : narrow .char (z_i x) = z_i x := by
  have h1 := pk_charN (q := x.toNat) (by omega)
  have h2 : z_i x = .int (nI x.toNat) := by
    unfold z_i nI
    rw [← Int32.ofInt_eq_ofNat]
    congr 2
    omega
  rw [h2]
  exact h1.1
theorem gm_I_ne (h : gm_H) (a : Nat) (k x : Int) (b : Nat) (j : Int) (hne : ¬ (b = a ∧ j = k)) : gm_I (gm_setI h a k x) b j = gm_I h b j := if_neg hne
theorem gm_L_ne (h : gm_H) (a : Nat) (k x : Int) (b : Nat) (j : Int) (hne : ¬ (b = a ∧ j = k)) : gm_L (gm_setL h a k x) b j = gm_L h b j := if_neg hne
theorem gm_P_ne (h : gm_H) (a : Nat) (k : Int) (x : Option Nat) (b : Nat) (j : Int) (hne : ¬ (b = a ∧ j = k)) : gm_P (gm_setP h a k x) b j = gm_P h b j := if_neg hne
/-- the words of a throw, by a look through the tables -/
theorem gm_own (l : List Cond) (h : (l.all fun w => (decide (w ∈ lw_tbl) && gm_keep w) || decide (w ∈ gm_hw)) = true) : ∀ w ∈ l, w ∈ gm_tb ∨ w ∈ gm_hw := by
  intro w hw
  have h1 := List.all_eq_true.mp h w hw
  simp only [Bool.or_eq_true, Bool.and_eq_true, decide_eq_true_eq] at h1
  exact h1.imp (fun q => gm_in q.1 q.2) id
