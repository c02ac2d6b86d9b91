/-! ROWS -/
def RW (h : AH) (r : Nat) (lim wid n : Int) (g : Int → Int) : Prop := OB h r 5 [.ref (r + 1), .int (I wid), .int (I lim), .int (I n)] ∧ AI h (r + 1) 0 (lim * wid) g ∧ (0 ≤ n ∧ n ≤ lim ∧ lim ≤ 200 ∧ 1 ≤ wid ∧ wid ≤ 10)
theorem RW.o {h : AH} {r : Nat} {lim wid n : Int} {g : Int → Int} (R : RW h r lim wid n g) : hObj 5 h r = some [.ref (r + 1), .int (I wid), .int (I lim), .int (I n)] := R.1.o
theorem RW.c {h : AH} {r : Nat} {lim wid n : Int} {g : Int → Int} (R : RW h r lim wid n g) : fR 5 0 h r = some (r + 1) := R.1.r 0 rfl
theorem RW.w {h : AH} {r : Nat} {lim wid n : Int} {g : Int → Int} (R : RW h r lim wid n g) : fI 5 1 h r = some (I wid) := R.1.i 1 rfl
theorem RW.l {h : AH} {r : Nat} {lim wid n : Int} {g : Int → Int} (R : RW h r lim wid n g) : fI 5 2 h r = some (I lim) := R.1.i 2 rfl
theorem RW.s {h : AH} {r : Nat} {lim wid n : Int} {g : Int → Int} (R : RW h r lim wid n g) : fI 5 3 h r = some (I n) := R.1.i 3 rfl
theorem RW.has {h : AH} {r : Nat} {lim wid n : Int} {g : Int → Int} (R : RW h r lim wid n g) {p : Int} (h0 : -2147483648 ≤ p) (h1 : p < 2147483648) : f5_has h r (I p) = some (decide (0 ≤ p ∧ p < n)) := by
  have b := R.2.2
  simp (disch := omega) only [f5_has, R.o, R.s, Option.bind_some, I_lit, I_lt, I_le]
  grind
theorem RW.full {h : AH} {r : Nat} {lim wid n : Int} {g : Int → Int} (R : RW h r lim wid n g) : f5_isFull h r = some (decide (lim ≤ n)) := by
  have b := R.2.2
  simp (disch := omega) only [f5_isFull, R.o, R.s, R.l, Option.bind_some, I_lit, I_lt, I_le]
  grind
theorem RW.size {h : AH} {r : Nat} {lim wid n : Int} {g : Int → Int} (R : RW h r lim wid n g) : f5_size h r = some (I n) := by
  simp (disch := omega) only [f5_size, R.o, R.s, Option.bind_some]
theorem cell_in {p c n wid lim : Int} (h0 : 0 ≤ p) (h1 : p < n) (h2 : n ≤ lim) (h3 : 0 ≤ c) (h4 : c < wid) : 0 ≤ p * wid + c ∧ p * wid + c < lim * wid := by
  have h5 : 0 ≤ p * wid := Int.mul_nonneg h0 (by omega)
  have h6 : (p + 1) * wid ≤ lim * wid := Int.mul_le_mul_of_nonneg_right (by omega) (by omega)
  rw [Int.add_mul, Int.one_mul] at h6
  omega
theorem RW.cell {h : AH} {r : Nat} {lim wid n : Int} {g : Int → Int} (R : RW h r lim wid n g) {p c : Int} (h0 : 0 ≤ p) (h1 : p < n) (h2 : 0 ≤ c) (h3 : c < wid) : f5_cellOf h r (I p) (I c) = some (I (p * wid + c)) := by
  have b := R.2.2
  simp (disch := omega) only [f5_cellOf, R.o, R.has, R.w, Option.bind_some, I_lit, I_lt, I_le, decide_eq_true_eq, if_pos, if_neg, I_mul, I_add]
theorem RW.at {h : AH} {r : Nat} {lim wid n : Int} {g : Int → Int} (R : RW h r lim wid n g) {p c : Int} (h0 : 0 ≤ p) (h1 : p < n) (h2 : 0 ≤ c) (h3 : c < wid) : f5_at h r (I p) (I c) = some (I (g (p * wid + c))) := by
  have b := R.2.2
  obtain ⟨b1, b2⟩ := cell_in h0 h1 b.2.1 h2 h3
  have b3 := R.2.1.2
  simp (disch := omega) only [f5_at, R.o, R.cell, R.c, R.2.1.n, R.2.1.g, Option.bind_some, I_lit, I_lt, I_le, if_pos, if_neg]
theorem RW.fr {h h' : AH} {r : Nat} {lim wid n : Int} {g : Int → Int} (R : RW h r lim wid n g) {lo hi : Nat} (f : Fr lo hi h h') (d : r + 2 ≤ lo ∨ hi ≤ r) : RW h' r lim wid n g := ⟨R.1.at (f.2 _ (by omega)), R.2.1.at (f.2 _ (by omega)), R.2.2⟩
theorem RW.put {h : AH} {r : Nat} {lim wid n : Int} {g : Int → Int} (R : RW h r lim wid n g) {p c v : Int} (h0 : 0 ≤ p) (h1 : p < n) (h2 : 0 ≤ c) (h3 : c < wid) : ∃ h', f5_put h r (I p) (I c) (I v) = some h' ∧ RW h' r lim wid n (up g (p * wid + c) v) ∧ Fr r (r + 2) h h' := by
  have b := R.2.2
  obtain ⟨b1, b2⟩ := cell_in h0 h1 b.2.1 h2 h3
  have b3 := R.2.1.2
  refine ⟨_, by simp (disch := omega) only [f5_put, R.o, R.cell, R.c, R.2.1.n, R.2.1.s, Option.bind_some, I_lit, I_lt, I_le, if_neg], ⟨R.1.at (hU_ne (by omega)), AI.u b3.1 b3.2, b⟩, Fr.u _ _ (by omega) (by omega)⟩
def zr (g : Int → Int) (a b : Int) : Int → Int := fun k => if a ≤ k ∧ k < b then 0 else g k
theorem zr_up (g : Int → Int) (a i : Int) (h : 0 ≤ i) : up (zr g a (a + i)) (a + i) 0 = zr g a (a + (i + 1)) := by
  funext k
  simp only [up, zr]
  grind
theorem RW.addL {r : Nat} {lim wid n : Int} {g : Int → Int} (hn : 0 < n) : ∀ (f : Nat) (h : AH) (i : Int), 0 ≤ i → i ≤ wid → wid - i < f → RW h r lim wid n (zr g ((n - 1) * wid) ((n - 1) * wid + i)) → ∃ h', f5_addRow_21 r f h (I i) = some (I (n - 1), h') ∧ RW h' r lim wid n (zr g ((n - 1) * wid) ((n - 1) * wid + wid)) ∧ Fr r (r + 2) h h' := by
  intro f
  induction f with
  | zero => intros; omega
  | succ f ih =>
    intro h i h0 h1 hf R
    have b := R.2.2
    by_cases hi : i < wid
    · obtain ⟨h', e, R', F⟩ := R.put (p := n - 1) (c := i) (v := 0) (by omega) (by omega) h0 hi
      rw [zr_up _ _ _ h0] at R'
      obtain ⟨h2, e2, R2, F2⟩ := ih h' (i + 1) (by omega) (by omega) (by omega) R'
      refine ⟨h2, ?_, R2, F.trans F2⟩
      rw [← e2]
      simp (disch := omega) only [f5_addRow_21, R.w, R.s, Option.bind_some, I_lit, I_le, I_sub, I_add, if_neg, e]
    · have : i = wid := by omega
      subst this
      refine ⟨h, ?_, R, Fr.refl _ _ _⟩
      simp (disch := omega) only [f5_addRow_21, R.w, R.s, Option.bind_some, I_lit, I_le, I_sub, if_pos]
theorem zr_none (g : Int → Int) (a : Int) : zr g a (a + 0) = g := by
  funext k
  simp only [zr]
  grind
theorem RW.add {h : AH} {r : Nat} {lim wid n : Int} {g : Int → Int} (R : RW h r lim wid n g) (hn : n < lim) : ∃ h', f5_addRow h r = some (I n, h') ∧ RW h' r lim wid (n + 1) (zr g (n * wid) (n * wid + wid)) ∧ Fr r (r + 2) h h' := by
  have b := R.2.2
  have R1 : RW (hU h r (.inr (5, [.ref (r + 1), .int (I wid), .int (I lim), .int (I (n + 1))]))) r lim wid (n + 1) g := ⟨OB.u, R.2.1.at (hU_ne (by omega)), by omega⟩
  have z : zr g ((n + 1 - 1) * wid) ((n + 1 - 1) * wid + 0) = g := zr_none _ _
  obtain ⟨h', e, R', F⟩ := RW.addL (g := g) (by omega) FU _ 0 (by omega) (by omega) (by show _ < ((100000 : Nat) : Int); omega) (z.symm ▸ R1)
  have n1 : n + 1 - 1 = n := by omega
  rw [n1] at e R'
  refine ⟨h', ?_, R', (Fr.u _ _ (by omega) (by omega)).trans F⟩
  rw [← e]
  simp (disch := omega) only [f5_addRow, R.o, R.full, R.s, Option.bind_some, I_lit, I_add, if_neg, decide_eq_true_eq]
  rw [R.1.s 3 _ (by simp)]
  rfl
theorem RW.addF {h : AH} {r : Nat} {lim wid n : Int} {g : Int → Int} (R : RW h r lim wid n g) (hn : lim ≤ n) : f5_addRow h r = some (I (-1), h) := by
  simp (disch := omega) only [f5_addRow, R.o, R.full, Option.bind_some, I_lit, I_neg, if_pos, decide_eq_true_eq]
