/-! The abstract heap: sizes, tags, lengths, ints, longs, references, what is left of cells and slots -/
abbrev gm_H : Type := Nat × (Nat → Nat) × (Nat → Int) × (Nat → Int → Int) × (Nat → Int → Int) × (Nat → Int → Option Nat) × Nat × Nat
def gm_sz (h : gm_H) : Nat := h.1
def gm_tag (h : gm_H) : Nat → Nat := h.2.1
def gm_len (h : gm_H) : Nat → Int := h.2.2.1
def gm_I (h : gm_H) : Nat → Int → Int := h.2.2.2.1
def gm_L (h : gm_H) : Nat → Int → Int := h.2.2.2.2.1
def gm_P (h : gm_H) : Nat → Int → Option Nat := h.2.2.2.2.2.1
def gm_rc (h : gm_H) : Nat := h.2.2.2.2.2.2.1
def gm_rs (h : gm_H) : Nat := h.2.2.2.2.2.2.2
def gm_up {α : Type} (f : Nat → Int → α) (a : Nat) (k : Int) (x : α) : Nat → Int → α := fun b j => if b = a ∧ j = k then x else f b j
def gm_at {α : Type} (f : Nat → α) (a : Nat) (x : α) : Nat → α := fun b => if b = a then x else f b
def gm_setI (h : gm_H) (a : Nat) (k x : Int) : gm_H := (gm_sz h, gm_tag h, gm_len h, gm_up (gm_I h) a k x, gm_L h, gm_P h, gm_rc h, gm_rs h)
def gm_setL (h : gm_H) (a : Nat) (k x : Int) : gm_H := (gm_sz h, gm_tag h, gm_len h, gm_I h, gm_up (gm_L h) a k x, gm_P h, gm_rc h, gm_rs h)
def gm_setP (h : gm_H) (a : Nat) (k : Int) (x : Option Nat) : gm_H := (gm_sz h, gm_tag h, gm_len h, gm_I h, gm_L h, gm_up (gm_P h) a k x, gm_rc h, gm_rs h)
/-- a new cell of tag t with n values, which takes w slots -/
def gm_new (h : gm_H) (t : Nat) (n : Int) (w : Nat) : gm_H := (gm_sz h + 1, gm_at (gm_tag h) (gm_sz h) t, gm_at (gm_len h) (gm_sz h) n, gm_at (gm_I h) (gm_sz h) (fun _ => 0), gm_at (gm_L h) (gm_sz h) (fun _ => 0), gm_at (gm_P h) (gm_sz h) (fun _ => none), gm_rc h - 1, gm_rs h - w)
/-- a value by its kind: 0 an int, 1 a long, else a reference -/
def gm_val (h : gm_H) (t a : Nat) (k : Int) : Value := if gm_kd t k.toNat = 0 then z_i (gm_I h a k) else if gm_kd t k.toNat = 1 then z_l (gm_L h a k) else va_rf (gm_P h a k)
/-- the surroundings: the state at the law's start; classes and slots by tag; addresses of what stands before -/
abbrev gm_E : Type := State × va_G × (Nat → Nat)
def gm_sl (E : gm_E) (t k : Nat) : Nat := if t < 100 then E.2.1.2 t k else k
def gm_cls (E : gm_E) (s : State) (t : Nat) (n : Int) (cell : Cell) : Prop :=
  if t < 110 then cell.vm = .none ∧ cell.cls = E.2.1.1 t ∧ (if t < 100 then n = (gm_N t : Int) else ((cell.slots.size : Int) = n ∧ n < 2147483648))
  else if t < 120 then s.isArrayOf cell (gm_ty t) ∧ (cell.slots.size : Int) = n ∧ n < 2147483648
  else s.vm.findClass (gm_ex t) = some cell.cls
def gm_ok (E : gm_E) (s : State) (h : gm_H) (a : Nat) (cell : Cell) : Prop :=
  cell.vm ≠ .unknown ∧ cell.vm.isStatics = false ∧ gm_cls E s (gm_tag h a) (gm_len h a) cell ∧ ∀ k : Nat, (k : Int) < gm_len h a → cell.slots[gm_sl E (gm_tag h a) k]? = some (gm_val h (gm_tag h a) a (k : Int))
def gm_abs (E : gm_E) (s : State) (h : gm_H) (H : Heap) : Prop :=
  H.size = gm_sz h ∧ E.1.heap.size ≤ H.size ∧ (∀ q : Nat, q < E.1.heap.size → H[q]? = E.1.heap[q]?) ∧ ∀ a : Nat, gm_tag h a ≠ 0 → (gm_tag h a < 110 → E.1.heap.size ≤ a) ∧ ∃ cell : Cell, H[a]? = some cell ∧ gm_ok E s h a cell
theorem gm_cls.moved {E : gm_E} {s s' : State} {t : Nat} {n : Int} {cell : Cell} (hvm : s.vm.Alike s'.vm) (h : gm_cls E s t n cell) : gm_cls E s' t n cell := by
  unfold gm_cls at h ⊢
  split
  · next h1 => rw [if_pos h1] at h; exact h
  · next h1 =>
    rw [if_neg h1] at h
    split
    · next h2 => rw [if_pos h2] at h; exact ⟨State.isArrayOf_alike hvm h.1, h.2⟩
    · next h2 => rw [if_neg h2] at h; rw [hvm.findClass]; exact h
theorem gm_abs.moved {E : gm_E} {s s' : State} {h : gm_H} {H : Heap} (hvm : s.vm.Alike s'.vm) (hA : gm_abs E s h H) : gm_abs E s' h H := by
  obtain ⟨h1, h2, h3, h4⟩ := hA
  refine ⟨h1, h2, h3, fun a ha => ?_⟩
  obtain ⟨h5, cell, h6, h7, h8, h9, h10⟩ := h4 a ha
  exact ⟨h5, cell, h6, h7, h8, h9.moved hvm, h10⟩
theorem gm_abs.lt {E : gm_E} {s : State} {h : gm_H} {H : Heap} (hA : gm_abs E s h H) {a : Nat} (ha : gm_tag h a ≠ 0) : a < gm_sz h := by
  obtain ⟨h1, h2, h3, h4⟩ := hA
  obtain ⟨h5, cell, h6, -⟩ := h4 a ha
  rw [← h1]
  exact (Array.getElem?_eq_some_iff.mp h6).1
/-- one cell is written -/
theorem gm_abs.put {E : gm_E} {s : State} {h h' : gm_H} {H H' : Heap} {a : Nat} {cell' : Cell} (hA : gm_abs E s h H) (hE : E.1.heap.size ≤ a) (e1 : gm_sz h' = gm_sz h) (e2 : gm_tag h' = gm_tag h) (e3 : gm_len h' = gm_len h)
    (hv : ∀ (t b : Nat) (k : Int), b ≠ a → gm_val h' t b k = gm_val h t b k) (hs : H'.size = H.size) (hat : H'[a]? = some cell') (ho : ∀ q : Nat, q ≠ a → H'[q]? = H[q]?) (hok : gm_ok E s h' a cell') : gm_abs E s h' H' := by
  obtain ⟨h1, h2, h3, h4⟩ := hA
  refine ⟨by rw [hs, h1, e1], by rw [hs]; exact h2, fun q hq => ?_, fun b hb => ?_⟩
  · rw [ho q (by omega)]; exact h3 q hq
  · rw [e2] at hb ⊢
    obtain ⟨h5, cell, h6, h7, h8, h9, h10⟩ := h4 b hb
    refine ⟨h5, ?_⟩
    by_cases hba : b = a
    · subst hba
      exact ⟨cell', hat, hok⟩
    · refine ⟨cell, by rw [ho b hba]; exact h6, h7, h8, ?_, ?_⟩
      · rw [e2, e3]; exact h9
      · rw [e2, e3]
        intro k hk
        rw [hv _ b k hba]
        exact h10 k hk
theorem gm_ok.set {E : gm_E} {s : State} {h h' : gm_H} {a k : Nat} {cell : Cell} {v : Value} (hok : gm_ok E s h a cell) (ht : gm_tag h a < 110) (hk : (k : Int) < gm_len h a)
    (hap : ∀ i j : Nat, (i : Int) < gm_len h a → (j : Int) < gm_len h a → i ≠ j → gm_sl E (gm_tag h a) i ≠ gm_sl E (gm_tag h a) j) (e2 : gm_tag h' = gm_tag h) (e3 : gm_len h' = gm_len h)
    (hv : gm_val h' (gm_tag h a) a (k : Int) = v) (hvo : ∀ j : Int, j ≠ (k : Int) → gm_val h' (gm_tag h a) a j = gm_val h (gm_tag h a) a j) : gm_ok E s h' a (cell.setSlot (gm_sl E (gm_tag h a) k) v) := by
  obtain ⟨h1, h2, h3, h4⟩ := hok
  unfold gm_ok
  rw [e2, e3]
  refine ⟨h1, h2, ?_, fun j hj => ?_⟩
  · unfold gm_cls at h3 ⊢
    rw [if_pos ht] at h3 ⊢
    refine ⟨h3.1, h3.2.1, ?_⟩
    split
    · next h5 => have h6 := h3.2.2; rw [if_pos h5] at h6; exact h6
    · next h5 => have h6 := h3.2.2; rw [if_neg h5] at h6; rw [k2_slotsz]; exact h6
  · by_cases hjk : j = k
    · subst hjk
      rw [Cell.slots_setSlot_self _ (k2_hasslot (h4 j hj)), hv]
    · rw [slot_ne _ _ (hap k j hk hj (Ne.symm hjk)), h4 j hj, hvo (j : Int) (fun z => hjk (by omega))]
/-- a cell is made -/
theorem gm_abs.pushG {E : gm_E} {s : State} {h h' : gm_H} {H H' : Heap} {cell : Cell} (hA : gm_abs E s h H) (e1 : gm_sz h' = gm_sz h + 1) (et : ∀ b, b ≠ gm_sz h → gm_tag h' b = gm_tag h b) (el : ∀ b, b ≠ gm_sz h → gm_len h' b = gm_len h b)
    (ev : ∀ (t b : Nat) (k : Int), b ≠ gm_sz h → gm_val h' t b k = gm_val h t b k) (hs : H'.size = gm_sz h + 1) (hat : H'[gm_sz h]? = some cell) (ho : ∀ q : Nat, q < gm_sz h → H'[q]? = H[q]?) (hok : gm_ok E s h' (gm_sz h) cell) : gm_abs E s h' H' := by
  obtain ⟨h1, h2, h3, h4⟩ := hA
  have hE : E.1.heap.size ≤ gm_sz h := by omega
  refine ⟨by rw [hs, e1], by omega, fun q hq => ?_, fun b hb => ?_⟩
  · rw [ho q (by omega)]; exact h3 q hq
  · by_cases hba : b = gm_sz h
    · subst hba
      exact ⟨fun _ => hE, cell, hat, hok⟩
    · rw [et b hba] at hb ⊢
      obtain ⟨h5, cell0, h6, h7, h8, h9, h10⟩ := h4 b hb
      have hlt : b < gm_sz h := by rw [← h1]; exact (Array.getElem?_eq_some_iff.mp h6).1
      refine ⟨h5, cell0, by rw [ho b hlt]; exact h6, h7, h8, ?_, ?_⟩
      · rw [et b hba, el b hba]; exact h9
      · rw [et b hba, el b hba]
        intro k hk
        rw [ev _ b _ hba]
        exact h10 k hk
theorem gm_abs.push {E : gm_E} {s : State} {h : gm_H} {H H' : Heap} {t : Nat} {n : Int} {w : Nat} {cell : Cell} (hA : gm_abs E s h H) (hs : H'.size = gm_sz h + 1) (hat : H'[gm_sz h]? = some cell) (ho : ∀ q : Nat, q < gm_sz h → H'[q]? = H[q]?)
    (hok : gm_ok E s (gm_new h t n w) (gm_sz h) cell) : gm_abs E s (gm_new h t n w) H' := by
  refine hA.pushG (h' := gm_new h t n w) rfl (fun b hb => if_neg hb) (fun b hb => if_neg hb) (fun t' b k hb => ?_) hs hat ho hok
  have i1 : gm_I (gm_new h t n w) b k = gm_I h b k := congrFun (show gm_I (gm_new h t n w) b = gm_I h b from if_neg hb) k
  have i2 : gm_L (gm_new h t n w) b k = gm_L h b k := congrFun (show gm_L (gm_new h t n w) b = gm_L h b from if_neg hb) k
  have i3 : gm_P (gm_new h t n w) b k = gm_P h b k := congrFun (show gm_P (gm_new h t n w) b = gm_P h b from if_neg hb) k
  unfold gm_val
  rw [i1, i2, i3]
