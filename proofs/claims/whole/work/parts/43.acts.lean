/-! THE CLASS'S OBJECT, and its calls that write (gen43.py) -/
def XO (h : AH) (x : Nat) (nr nm : Int) : Prop := OB h x 8 [.ref (x + 1), .ref (x + 21), .ref (x + 22), .ref (x + 24), .ref (x + 26), .int (I nr), .ref (x + 27), .int (I nm), .ref (x + 28), .ref (x + 29)]
theorem pow10 {r : Int → Int} (R : RI r) : 1 ≤ (2 : Int) ^ (r 1).toNat ∧ (2 : Int) ^ (r 1).toNat ≤ 1024 := by
  have b := R.1
  have e : (2 : Nat) ^ (r 1).toNat ≤ 2 ^ 10 := Nat.pow_le_pow_right (by omega) (by omega)
  have e1 : 0 < (2 : Nat) ^ (r 1).toNat := Nat.pow_pos (by omega)
  have e2 : ((2 ^ (r 1).toNat : Nat) : Int) = 2 ^ (r 1).toNat := by rw [Int.natCast_pow]; rfl
  omega
theorem RW.putN {h : AH} {r : Nat} {lim wid n : Int} {g : Int → Int} (R : RW h r lim wid n g) (c v : Int32) : f5_put h r (I (-1)) c v = some h := by
  have b := R.2.2
  simp (disch := omega) only [f5_put, f5_cellOf, R.o, R.has, decide_false, Bool.false_eq_true, Option.bind_some, I_lit, I_neg, I_add, I_sub, I_mul, I_lt, I_le, I_eq, if_pos, if_neg, if_true, if_false, decide_eq_true_eq, show ¬ (0 ≤ (-1 : Int) ∧ (-1 : Int) < n) from by omega]
section
variable {h h' : AH} {x : Nat} {r : Int → Int} {c : Nat → Int → Int} {nr nm : Int}
theorem XO.o (O : XO h x nr nm) : hObj 8 h x = some [.ref (x + 1), .ref (x + 21), .ref (x + 22), .ref (x + 24), .ref (x + 26), .int (I nr), .ref (x + 27), .int (I nm), .ref (x + 28), .ref (x + 29)] := OB.o O
theorem XO.f0 (O : XO h x nr nm) : fR 8 0 h x = some (x + 1) := OB.r O 0 rfl
theorem XO.f1 (O : XO h x nr nm) : fR 8 1 h x = some (x + 21) := OB.r O 1 rfl
theorem XO.f2 (O : XO h x nr nm) : fR 8 2 h x = some (x + 22) := OB.r O 2 rfl
theorem XO.f3 (O : XO h x nr nm) : fR 8 3 h x = some (x + 24) := OB.r O 3 rfl
theorem XO.f4 (O : XO h x nr nm) : fR 8 4 h x = some (x + 26) := OB.r O 4 rfl
theorem XO.f5 (O : XO h x nr nm) : fI 8 5 h x = some (I nr) := OB.i O 5 rfl
theorem XO.f6 (O : XO h x nr nm) : fR 8 6 h x = some (x + 27) := OB.r O 6 rfl
theorem XO.f7 (O : XO h x nr nm) : fI 8 7 h x = some (I nm) := OB.i O 7 rfl
theorem XO.f8 (O : XO h x nr nm) : fR 8 8 h x = some (x + 28) := OB.r O 8 rfl
theorem XO.f9 (O : XO h x nr nm) : fR 8 9 h x = some (x + 29) := OB.r O 9 rfl
theorem XO.fr (O : XO h x nr nm) {lo hi : Nat} (f : Fr lo hi h h') (d : x + 1 ≤ lo ∨ hi ≤ x) : XO h' x nr nm := OB.at O (f.2 _ (by omega))
set_option maxHeartbeats 4000000 in
theorem XO.stuff (O : XO h x nr nm) (W : WD h (x + 1) r c) {y co : Int} (n : r 1 < 10) (y0 : 1800 ≤ y) (y1 : y ≤ 1999) (q0 : 1 ≤ co) (q1 : co ≤ 99) : ∃ h' c', f8_stuff h x (I y) (I co) = some (I (r 1), h') ∧ WD h' (x + 1) (rStuff r y co) c' ∧ Fr (x + 1) (x + 21) h h' := by
  have b := W.ri.1
  have pw := pow10 W.ri
  obtain ⟨h1, e1, R1, F1⟩ := W.st.add n
  have G1 := F1
  obtain ⟨h2, e2, R2, F2⟩ := R1.put (p := r 1) (c := 0) (v := y) (by omega) (by omega) (by omega) (by omega)
  have G2 := G1.trans F2
  obtain ⟨h3, e3, R3, F3⟩ := R2.put (p := r 1) (c := 1) (v := co) (by omega) (by omega) (by omega) (by omega)
  have G3 := G2.trans F3
  have O1 := O.fr G1 (by omega)
  have B1 := W.1.at (G1.2 (x + 1) (by omega))
  have O2 := O.fr G2 (by omega)
  have B2 := W.1.at (G2.2 (x + 1) (by omega))
  have O3 := O.fr G3 (by omega)
  have B3 := W.1.at (G3.2 (x + 1) (by omega))
  have z0 : (rStuff r y co) 0 = r 0 := by simp (disch := omega) only [rStuff, up_ne]
  have z1 : (rStuff r y co) 1 = r 1 + 1 := up_eq
  have z2 : (rStuff r y co) 2 = r 2 := by simp (disch := omega) only [rStuff, up_ne]
  have z3 : (rStuff r y co) 3 = r 3 := by simp (disch := omega) only [rStuff, up_ne]
  have z4 : (rStuff r y co) 4 = r 4 := by simp (disch := omega) only [rStuff, up_ne]
  have z5 : (rStuff r y co) 5 = r 5 := by simp (disch := omega) only [rStuff, up_ne]
  have z6 : (rStuff r y co) 6 = r 6 := by simp (disch := omega) only [rStuff, up_ne]
  have z7 : (rStuff r y co) 7 = r 7 := by simp (disch := omega) only [rStuff, up_ne]
  have z8 : (rStuff r y co) 8 = r 8 := by simp (disch := omega) only [rStuff, up_ne]
  refine ⟨h3, uf c 0 (up (up (zr (c 0) (r 1 * 2) (r 1 * 2 + 2)) (r 1 * 2 + 0) y) (r 1 * 2 + 1) co), ?_, ⟨by rw [z0]; exact W.1.at (G3.2 _ (by omega)), by rw [z1]; exact R3, by rw [z2]; exact W.tr.fr G3 (by omega), by rw [z3]; exact W.fa.fr G3 (by omega), by rw [z4]; exact W.pi.fr G3 (by omega), by rw [z5]; exact W.pg.fr G3 (by omega), by rw [z6]; exact W.lo.fr G3 (by omega), by rw [z7]; exact W.te.fr G3 (by omega), by rw [z8]; exact W.pe.fr G3 (by omega), CW_stuff W.cr n y0 y1 q0 q1 (X := (up (up (zr (c 0) (r 1 * 2) (r 1 * 2 + 2)) (r 1 * 2 + 0) y) (r 1 * 2 + 1) co)) (fun k k0 k1 => by simp (disch := omega) only [up_ne, zr_out]) (by simp (disch := omega) only [up, zr, if_pos, if_neg]) (by simp (disch := omega) only [up, zr, if_pos, if_neg])⟩, G3.mono (by omega) (by omega)⟩
  simp (disch := omega) only [f8_stuff, O.o, O.f0, W.f1, W.f0, isFrom_of, Option.bind_some, I_lit, I_neg, I_add, I_sub, I_mul, I_lt, I_le, I_eq, if_pos, if_neg, if_true, if_false, decide_eq_true_eq, e1, e2, e3, O1.f0, B1.r 1 rfl, B1.i 0 rfl, O2.f0, B2.r 1 rfl, B2.i 0 rfl, O3.f0, B3.r 1 rfl, B3.i 0 rfl, and_self, true_and, and_true]
set_option maxHeartbeats 4000000 in
theorem XO.piece (O : XO h x nr nm) (W : WD h (x + 1) r c) {so a_ b_ d_ e_ f_ st pr : Int} (n : r 4 < 90) (o0 : 0 ≤ so) (o1 : so ≤ 2) (a0 : 0 ≤ a_) (a1 : a_ ≤ 99) (b0 : 0 ≤ b_) (b1 : b_ ≤ 99) (d0 : 0 ≤ d_) (d1 : d_ ≤ 99) (e0 : 0 ≤ e_) (e1_ : e_ ≤ 99) (f0 : 0 ≤ f_) (f1 : f_ ≤ 99) (t0 : 0 ≤ st) (t1 : st < 2 ^ (r 1).toNat) (p0 : 0 ≤ pr) (p1 : pr ≤ 9999) : ∃ h' c', f8_piece h x (I so) (I a_) (I b_) (I d_) (I e_) (I f_) (I st) (I pr) = some (I (r 4), h') ∧ WD h' (x + 1) (rPiece r so a_ b_ d_ e_ f_ st pr) c' ∧ Fr (x + 1) (x + 21) h h' := by
  have b := W.ri.1
  have pw := pow10 W.ri
  obtain ⟨h1, e1, R1, F1⟩ := W.pi.add n
  have G1 := F1
  obtain ⟨h2, e2, R2, F2⟩ := R1.put (p := r 4) (c := 0) (v := so) (by omega) (by omega) (by omega) (by omega)
  have G2 := G1.trans F2
  obtain ⟨h3, e3, R3, F3⟩ := R2.put (p := r 4) (c := 1) (v := a_) (by omega) (by omega) (by omega) (by omega)
  have G3 := G2.trans F3
  obtain ⟨h4, e4, R4, F4⟩ := R3.put (p := r 4) (c := 2) (v := b_) (by omega) (by omega) (by omega) (by omega)
  have G4 := G3.trans F4
  obtain ⟨h5, e5, R5, F5⟩ := R4.put (p := r 4) (c := 3) (v := d_) (by omega) (by omega) (by omega) (by omega)
  have G5 := G4.trans F5
  obtain ⟨h6, e6, R6, F6⟩ := R5.put (p := r 4) (c := 4) (v := e_) (by omega) (by omega) (by omega) (by omega)
  have G6 := G5.trans F6
  obtain ⟨h7, e7, R7, F7⟩ := R6.put (p := r 4) (c := 5) (v := f_) (by omega) (by omega) (by omega) (by omega)
  have G7 := G6.trans F7
  obtain ⟨h8, e8, R8, F8⟩ := R7.put (p := r 4) (c := 6) (v := st) (by omega) (by omega) (by omega) (by omega)
  have G8 := G7.trans F8
  obtain ⟨h9, e9, R9, F9⟩ := R8.put (p := r 4) (c := 7) (v := pr) (by omega) (by omega) (by omega) (by omega)
  have G9 := G8.trans F9
  obtain ⟨h10, e10, R10, F10⟩ := R9.put (p := r 4) (c := 8) (v := r 0) (by omega) (by omega) (by omega) (by omega)
  have G10 := G9.trans F10
  have O1 := O.fr G1 (by omega)
  have B1 := W.1.at (G1.2 (x + 1) (by omega))
  have O2 := O.fr G2 (by omega)
  have B2 := W.1.at (G2.2 (x + 1) (by omega))
  have O3 := O.fr G3 (by omega)
  have B3 := W.1.at (G3.2 (x + 1) (by omega))
  have O4 := O.fr G4 (by omega)
  have B4 := W.1.at (G4.2 (x + 1) (by omega))
  have O5 := O.fr G5 (by omega)
  have B5 := W.1.at (G5.2 (x + 1) (by omega))
  have O6 := O.fr G6 (by omega)
  have B6 := W.1.at (G6.2 (x + 1) (by omega))
  have O7 := O.fr G7 (by omega)
  have B7 := W.1.at (G7.2 (x + 1) (by omega))
  have O8 := O.fr G8 (by omega)
  have B8 := W.1.at (G8.2 (x + 1) (by omega))
  have O9 := O.fr G9 (by omega)
  have B9 := W.1.at (G9.2 (x + 1) (by omega))
  have O10 := O.fr G10 (by omega)
  have B10 := W.1.at (G10.2 (x + 1) (by omega))
  have z0 : (rPiece r so a_ b_ d_ e_ f_ st pr) 0 = r 0 := by simp (disch := omega) only [rPiece, up_ne]
  have z1 : (rPiece r so a_ b_ d_ e_ f_ st pr) 1 = r 1 := by simp (disch := omega) only [rPiece, up_ne]
  have z2 : (rPiece r so a_ b_ d_ e_ f_ st pr) 2 = r 2 := by simp (disch := omega) only [rPiece, up_ne]
  have z3 : (rPiece r so a_ b_ d_ e_ f_ st pr) 3 = r 3 := by simp (disch := omega) only [rPiece, up_ne]
  have z4 : (rPiece r so a_ b_ d_ e_ f_ st pr) 4 = r 4 + 1 := up_eq
  have z5 : (rPiece r so a_ b_ d_ e_ f_ st pr) 5 = r 5 := by simp (disch := omega) only [rPiece, up_ne]
  have z6 : (rPiece r so a_ b_ d_ e_ f_ st pr) 6 = r 6 := by simp (disch := omega) only [rPiece, up_ne]
  have z7 : (rPiece r so a_ b_ d_ e_ f_ st pr) 7 = r 7 := by simp (disch := omega) only [rPiece, up_ne]
  have z8 : (rPiece r so a_ b_ d_ e_ f_ st pr) 8 = r 8 := by simp (disch := omega) only [rPiece, up_ne]
  refine ⟨h10, uf c 5 (up (up (up (up (up (up (up (up (up (zr (c 5) (r 4 * 10) (r 4 * 10 + 10)) (r 4 * 10 + 0) so) (r 4 * 10 + 1) a_) (r 4 * 10 + 2) b_) (r 4 * 10 + 3) d_) (r 4 * 10 + 4) e_) (r 4 * 10 + 5) f_) (r 4 * 10 + 6) st) (r 4 * 10 + 7) pr) (r 4 * 10 + 8) (r 0)), ?_, ⟨by rw [z0]; exact W.1.at (G10.2 _ (by omega)), by rw [z1]; exact W.st.fr G10 (by omega), by rw [z2]; exact W.tr.fr G10 (by omega), by rw [z3]; exact W.fa.fr G10 (by omega), by rw [z4]; exact R10, by rw [z5]; exact W.pg.fr G10 (by omega), by rw [z6]; exact W.lo.fr G10 (by omega), by rw [z7]; exact W.te.fr G10 (by omega), by rw [z8]; exact W.pe.fr G10 (by omega), CW_piece W.cr n o0 o1 a0 a1 b0 b1 d0 d1 e0 e1_ f0 f1 t0 t1 p0 p1 (X := (up (up (up (up (up (up (up (up (up (zr (c 5) (r 4 * 10) (r 4 * 10 + 10)) (r 4 * 10 + 0) so) (r 4 * 10 + 1) a_) (r 4 * 10 + 2) b_) (r 4 * 10 + 3) d_) (r 4 * 10 + 4) e_) (r 4 * 10 + 5) f_) (r 4 * 10 + 6) st) (r 4 * 10 + 7) pr) (r 4 * 10 + 8) (r 0))) (fun k k0 k1 => by simp (disch := omega) only [up_ne, zr_out]) (by rw [show 10 * r 4 = r 4 * 10 + 0 by omega]; simp (disch := omega) only [up_ne, up_eq, zr_in]) (by rw [show 10 * r 4 + 1 = r 4 * 10 + 1 by omega]; simp (disch := omega) only [up_ne, up_eq, zr_in]) (by rw [show 10 * r 4 + 2 = r 4 * 10 + 2 by omega]; simp (disch := omega) only [up_ne, up_eq, zr_in]) (by rw [show 10 * r 4 + 3 = r 4 * 10 + 3 by omega]; simp (disch := omega) only [up_ne, up_eq, zr_in]) (by rw [show 10 * r 4 + 4 = r 4 * 10 + 4 by omega]; simp (disch := omega) only [up_ne, up_eq, zr_in]) (by rw [show 10 * r 4 + 5 = r 4 * 10 + 5 by omega]; simp (disch := omega) only [up_ne, up_eq, zr_in]) (by rw [show 10 * r 4 + 6 = r 4 * 10 + 6 by omega]; simp (disch := omega) only [up_ne, up_eq, zr_in]) (by rw [show 10 * r 4 + 7 = r 4 * 10 + 7 by omega]; simp (disch := omega) only [up_ne, up_eq, zr_in]) (by rw [show 10 * r 4 + 8 = r 4 * 10 + 8 by omega]; simp (disch := omega) only [up_ne, up_eq, zr_in]) (by rw [show 10 * r 4 + 9 = r 4 * 10 + 9 by omega]; simp (disch := omega) only [up_ne, up_eq, zr_in])⟩, G10.mono (by omega) (by omega)⟩
  simp (disch := omega) only [f8_piece, O.o, O.f0, W.f4, W.f0, isFrom_of, f8_isHand, W.f1, W.st.size, I_shl1, Option.bind_some, I_lit, I_neg, I_add, I_sub, I_mul, I_lt, I_le, I_eq, if_pos, if_neg, if_true, if_false, decide_eq_true_eq, e1, e2, e3, e4, e5, e6, e7, e8, e9, e10, O1.f0, B1.r 4 rfl, B1.i 0 rfl, O2.f0, B2.r 4 rfl, B2.i 0 rfl, O3.f0, B3.r 4 rfl, B3.i 0 rfl, O4.f0, B4.r 4 rfl, B4.i 0 rfl, O5.f0, B5.r 4 rfl, B5.i 0 rfl, O6.f0, B6.r 4 rfl, B6.i 0 rfl, O7.f0, B7.r 4 rfl, B7.i 0 rfl, O8.f0, B8.r 4 rfl, B8.i 0 rfl, O9.f0, B9.r 4 rfl, B9.i 0 rfl, O10.f0, B10.r 4 rfl, B10.i 0 rfl, and_self, true_and, and_true]
set_option maxHeartbeats 4000000 in
theorem XO.person (O : XO h x nr nm) (W : WD h (x + 1) r c) {f t q w : Int} (n : r 8 < 8) (s0 : 0 ≤ f) (s1 : f ≤ t) (y1 : t ≤ 9999) (q0 : 0 ≤ q) (q1 : q ≤ 999) (w0 : 0 ≤ w) (w1 : w ≤ 519) : ∃ h' c', f8_person h x (I f) (I t) (I q) (I w) = some (I (r 8), h') ∧ WD h' (x + 1) (rPerson r f t q w) c' ∧ Fr (x + 1) (x + 21) h h' := by
  have b := W.ri.1
  have pw := pow10 W.ri
  obtain ⟨h1, e1, R1, F1⟩ := W.pe.add n
  have G1 := F1
  obtain ⟨h2, e2, R2, F2⟩ := R1.put (p := r 8) (c := 0) (v := f) (by omega) (by omega) (by omega) (by omega)
  have G2 := G1.trans F2
  obtain ⟨h3, e3, R3, F3⟩ := R2.put (p := r 8) (c := 1) (v := t) (by omega) (by omega) (by omega) (by omega)
  have G3 := G2.trans F3
  obtain ⟨h4, e4, R4, F4⟩ := R3.put (p := r 8) (c := 2) (v := q) (by omega) (by omega) (by omega) (by omega)
  have G4 := G3.trans F4
  obtain ⟨h5, e5, R5, F5⟩ := R4.put (p := r 8) (c := 3) (v := w) (by omega) (by omega) (by omega) (by omega)
  have G5 := G4.trans F5
  obtain ⟨h6, e6, R6, F6⟩ := R5.put (p := r 8) (c := 4) (v := (-1)) (by omega) (by omega) (by omega) (by omega)
  have G6 := G5.trans F6
  have O1 := O.fr G1 (by omega)
  have B1 := W.1.at (G1.2 (x + 1) (by omega))
  have O2 := O.fr G2 (by omega)
  have B2 := W.1.at (G2.2 (x + 1) (by omega))
  have O3 := O.fr G3 (by omega)
  have B3 := W.1.at (G3.2 (x + 1) (by omega))
  have O4 := O.fr G4 (by omega)
  have B4 := W.1.at (G4.2 (x + 1) (by omega))
  have O5 := O.fr G5 (by omega)
  have B5 := W.1.at (G5.2 (x + 1) (by omega))
  have O6 := O.fr G6 (by omega)
  have B6 := W.1.at (G6.2 (x + 1) (by omega))
  have z0 : (rPerson r f t q w) 0 = r 0 := by simp (disch := omega) only [rPerson, up_ne]
  have z1 : (rPerson r f t q w) 1 = r 1 := by simp (disch := omega) only [rPerson, up_ne]
  have z2 : (rPerson r f t q w) 2 = r 2 := by simp (disch := omega) only [rPerson, up_ne]
  have z3 : (rPerson r f t q w) 3 = r 3 := by simp (disch := omega) only [rPerson, up_ne]
  have z4 : (rPerson r f t q w) 4 = r 4 := by simp (disch := omega) only [rPerson, up_ne]
  have z5 : (rPerson r f t q w) 5 = r 5 := by simp (disch := omega) only [rPerson, up_ne]
  have z6 : (rPerson r f t q w) 6 = r 6 := by simp (disch := omega) only [rPerson, up_ne]
  have z7 : (rPerson r f t q w) 7 = r 7 := by simp (disch := omega) only [rPerson, up_ne]
  have z8 : (rPerson r f t q w) 8 = r 8 + 1 := up_eq
  refine ⟨h6, uf c 10 (up (up (up (up (up (zr (c 10) (r 8 * 5) (r 8 * 5 + 5)) (r 8 * 5 + 0) f) (r 8 * 5 + 1) t) (r 8 * 5 + 2) q) (r 8 * 5 + 3) w) (r 8 * 5 + 4) (-1)), ?_, ⟨by rw [z0]; exact W.1.at (G6.2 _ (by omega)), by rw [z1]; exact W.st.fr G6 (by omega), by rw [z2]; exact W.tr.fr G6 (by omega), by rw [z3]; exact W.fa.fr G6 (by omega), by rw [z4]; exact W.pi.fr G6 (by omega), by rw [z5]; exact W.pg.fr G6 (by omega), by rw [z6]; exact W.lo.fr G6 (by omega), by rw [z7]; exact W.te.fr G6 (by omega), by rw [z8]; exact R6, CW_person W.cr n s0 s1 y1 q0 q1 w0 w1 (X := (up (up (up (up (up (zr (c 10) (r 8 * 5) (r 8 * 5 + 5)) (r 8 * 5 + 0) f) (r 8 * 5 + 1) t) (r 8 * 5 + 2) q) (r 8 * 5 + 3) w) (r 8 * 5 + 4) (-1))) (fun k k0 k1 => by simp (disch := omega) only [up_ne, zr_out]) (by simp (disch := omega) only [up, zr, if_pos, if_neg]) (by simp (disch := omega) only [up, zr, if_pos, if_neg]) (by simp (disch := omega) only [up, zr, if_pos, if_neg]) (by simp (disch := omega) only [up, zr, if_pos, if_neg]) (by simp (disch := omega) only [up, zr, if_pos, if_neg])⟩, G6.mono (by omega) (by omega)⟩
  simp (disch := omega) only [f8_person, O.o, O.f0, W.f8, W.f0, isFrom_of, Option.bind_some, I_lit, I_neg, I_add, I_sub, I_mul, I_lt, I_le, I_eq, if_pos, if_neg, if_true, if_false, decide_eq_true_eq, e1, e2, e3, e4, e5, e6, O1.f0, B1.r 8 rfl, B1.i 0 rfl, O2.f0, B2.r 8 rfl, B2.i 0 rfl, O3.f0, B3.r 8 rfl, B3.i 0 rfl, O4.f0, B4.r 8 rfl, B4.i 0 rfl, O5.f0, B5.r 8 rfl, B5.i 0 rfl, O6.f0, B6.r 8 rfl, B6.i 0 rfl, and_self, true_and, and_true]
theorem XO.truth (O : XO h x nr nm) (W : WD h (x + 1) r c) {d l : Int} (n : r 2 < 200) (y0 : 0 ≤ d) (y1 : d ≤ 9999) (q0 : 0 ≤ l) (q1 : l ≤ 99) (hno : Tl r d = -1) : ∃ h' c', f8_truth h x (I d) (I l) = some (I (r 2 + 1), h') ∧ WD h' (x + 1) (rTruth r d l) c' ∧ Fr (x + 1) (x + 21) h h' := by
  have b := W.ri.1
  have hk : kh (c 1) (r 2) d = false := by rw [W.tr.khp d, W.cr.2.2.1 d, hno]; rfl
  obtain ⟨h1, e1, P1, F1⟩ := W.tr.ins (key := d) (v := l) (by omega) (by omega) (by omega) (by omega) n hk
  have z0 : (rTruth r d l) 0 = r 0 := by simp (disch := omega) only [rTruth, up_ne]
  have z1 : (rTruth r d l) 1 = r 1 := by simp (disch := omega) only [rTruth, up_ne]
  have z2 : (rTruth r d l) 2 = r 2 + 1 := up_eq
  have z3 : (rTruth r d l) 3 = r 3 := by simp (disch := omega) only [rTruth, up_ne]
  have z4 : (rTruth r d l) 4 = r 4 := by simp (disch := omega) only [rTruth, up_ne]
  have z5 : (rTruth r d l) 5 = r 5 := by simp (disch := omega) only [rTruth, up_ne]
  have z6 : (rTruth r d l) 6 = r 6 := by simp (disch := omega) only [rTruth, up_ne]
  have z7 : (rTruth r d l) 7 = r 7 := by simp (disch := omega) only [rTruth, up_ne]
  have z8 : (rTruth r d l) 8 = r 8 := by simp (disch := omega) only [rTruth, up_ne]
  refine ⟨h1, uf (uf c 1 (inK (c 1) (ff (c 1) (r 2) (d)) (r 2) (d))) 2 (inK (c 2) (ff (c 1) (r 2) (d)) (r 2) l), ?_, ⟨by rw [z0]; exact W.1.at (F1.2 _ (by omega)), by rw [z1]; exact W.st.fr F1 (by omega), by rw [z2]; exact P1, by rw [z3]; exact W.fa.fr F1 (by omega), by rw [z4]; exact W.pi.fr F1 (by omega), by rw [z5]; exact W.pg.fr F1 (by omega), by rw [z6]; exact W.lo.fr F1 (by omega), by rw [z7]; exact W.te.fr F1 (by omega), by rw [z8]; exact W.pe.fr F1 (by omega), CW_truth W.cr n y0 y1 q0 q1 hno (inK_pof (Q := c 2) (v := l) (by omega) W.tr.2.2.2.1 hk)⟩, F1.mono (by omega) (by omega)⟩
  simp (disch := omega) only [f8_truth, O.o, O.f0, W.f2, isFrom_of, Option.bind_some, I_lit, I_neg, I_add, I_sub, I_mul, I_lt, I_le, I_eq, if_pos, if_neg, if_true, if_false, decide_eq_true_eq, e1, and_self]
theorem XO.fact (O : XO h x nr nm) (W : WD h (x + 1) r c) {s d l : Int} (n : r 3 < 300) (s0 : 0 ≤ s) (s1 : s ≤ 5) (y0 : 0 ≤ d) (y1 : d ≤ 9999) (q0 : 0 ≤ l) (q1 : l ≤ 99) (hno : Fl r s d = -1) : ∃ h' c', f8_fact h x (I s) (I d) (I l) = some (I (r 3 + 1), h') ∧ WD h' (x + 1) (rFact r s d l) c' ∧ Fr (x + 1) (x + 21) h h' := by
  have b := W.ri.1
  have hk : kh (c 3) (r 3) (s * 10000 + d) = false := by rw [W.fa.khp, W.cr.2.2.2.1 s d s0 s1 y0 y1, hno]; rfl
  obtain ⟨h1, e1, P1, F1⟩ := W.fa.ins (key := s * 10000 + d) (v := l) (by omega) (by omega) (by omega) (by omega) n hk
  have z0 : (rFact r s d l) 0 = r 0 := by simp (disch := omega) only [rFact, up_ne]
  have z1 : (rFact r s d l) 1 = r 1 := by simp (disch := omega) only [rFact, up_ne]
  have z2 : (rFact r s d l) 2 = r 2 := by simp (disch := omega) only [rFact, up_ne]
  have z3 : (rFact r s d l) 3 = r 3 + 1 := up_eq
  have z4 : (rFact r s d l) 4 = r 4 := by simp (disch := omega) only [rFact, up_ne]
  have z5 : (rFact r s d l) 5 = r 5 := by simp (disch := omega) only [rFact, up_ne]
  have z6 : (rFact r s d l) 6 = r 6 := by simp (disch := omega) only [rFact, up_ne]
  have z7 : (rFact r s d l) 7 = r 7 := by simp (disch := omega) only [rFact, up_ne]
  have z8 : (rFact r s d l) 8 = r 8 := by simp (disch := omega) only [rFact, up_ne]
  refine ⟨h1, uf (uf c 3 (inK (c 3) (ff (c 3) (r 3) (s * 10000 + d)) (r 3) (s * 10000 + d))) 4 (inK (c 4) (ff (c 3) (r 3) (s * 10000 + d)) (r 3) l), ?_, ⟨by rw [z0]; exact W.1.at (F1.2 _ (by omega)), by rw [z1]; exact W.st.fr F1 (by omega), by rw [z2]; exact W.tr.fr F1 (by omega), by rw [z3]; exact P1, by rw [z4]; exact W.pi.fr F1 (by omega), by rw [z5]; exact W.pg.fr F1 (by omega), by rw [z6]; exact W.lo.fr F1 (by omega), by rw [z7]; exact W.te.fr F1 (by omega), by rw [z8]; exact W.pe.fr F1 (by omega), CW_fact W.cr n s0 s1 y0 y1 q0 q1 hno (inK_pof (Q := c 4) (v := l) (by omega) W.fa.2.2.2.1 hk)⟩, F1.mono (by omega) (by omega)⟩
  simp (disch := omega) only [f8_fact, O.o, O.f0, W.f3, isFrom_of, Option.bind_some, I_lit, I_neg, I_add, I_sub, I_mul, I_lt, I_le, I_eq, if_pos, if_neg, if_true, if_false, decide_eq_true_eq, e1, and_self]
theorem WD.hasD (W : WD h (x + 1) r c) {p d : Int} (p0 : 0 ≤ p) (d0 : 0 ≤ d) (d1 : d ≤ 9999) : kh (c 6) (r 5) (p * 10000 + d) = hd r p d := by
  have b := W.ri.1
  have e : (kh (c 6) (r 5) (p * 10000 + d) = true) ↔ (hd r p d = true) := by
    rw [kh_iff (by omega) W.pg.2.2.2.1]
    unfold hd pq
    rw [decide_eq_true_eq, ← W.cr.2.2.2.2.2.1 fun a y _ => decide (a = p) && decide (y = d), cn_pos]
    constructor
    · rintro ⟨i, i0, i1, i2⟩
      refine ⟨i, i0, by omega, ?_⟩
      simp only [Bool.and_eq_true, decide_eq_true_eq]
      omega
    · rintro ⟨i, i0, i1, i2⟩
      simp only [Bool.and_eq_true, decide_eq_true_eq] at i2
      exact ⟨i, i0, by omega, by omega⟩
  cases h1 : kh (c 6) (r 5) (p * 10000 + d) <;> cases h2 : hd r p d <;> simp_all
theorem XO.page (O : XO h x nr nm) (W : WD h (x + 1) r c) {p d l : Int} (n : r 5 < 400) (s0 : 0 ≤ p) (s1 : p < r 4) (y0 : 0 ≤ d) (y1 : d ≤ 9999) (q0 : 0 ≤ l) (q1 : l ≤ 99) (hno : hd r p d = false) : ∃ h' c', f8_page h x (I p) (I d) (I l) = some (I (r 5 + 1), h') ∧ WD h' (x + 1) (rPage r p d l) c' ∧ Fr (x + 1) (x + 21) h h' := by
  have b := W.ri.1
  have hk : kh (c 6) (r 5) (p * 10000 + d) = false := by rw [W.hasD s0 y0 y1, hno]
  obtain ⟨h1, e1, P1, F1⟩ := W.pg.ins (key := p * 10000 + d) (v := l) (by omega) (by omega) (by omega) (by omega) n hk
  have z0 : (rPage r p d l) 0 = r 0 := by simp (disch := omega) only [rPage, up_ne]
  have z1 : (rPage r p d l) 1 = r 1 := by simp (disch := omega) only [rPage, up_ne]
  have z2 : (rPage r p d l) 2 = r 2 := by simp (disch := omega) only [rPage, up_ne]
  have z3 : (rPage r p d l) 3 = r 3 := by simp (disch := omega) only [rPage, up_ne]
  have z4 : (rPage r p d l) 4 = r 4 := by simp (disch := omega) only [rPage, up_ne]
  have z5 : (rPage r p d l) 5 = r 5 + 1 := up_eq
  have z6 : (rPage r p d l) 6 = r 6 := by simp (disch := omega) only [rPage, up_ne]
  have z7 : (rPage r p d l) 7 = r 7 := by simp (disch := omega) only [rPage, up_ne]
  have z8 : (rPage r p d l) 8 = r 8 := by simp (disch := omega) only [rPage, up_ne]
  refine ⟨h1, uf (uf c 6 (inK (c 6) (ff (c 6) (r 5) (p * 10000 + d)) (r 5) (p * 10000 + d))) 7 (inK (c 7) (ff (c 6) (r 5) (p * 10000 + d)) (r 5) l), ?_, ⟨by rw [z0]; exact W.1.at (F1.2 _ (by omega)), by rw [z1]; exact W.st.fr F1 (by omega), by rw [z2]; exact W.tr.fr F1 (by omega), by rw [z3]; exact W.fa.fr F1 (by omega), by rw [z4]; exact W.pi.fr F1 (by omega), by rw [z5]; exact P1, by rw [z6]; exact W.lo.fr F1 (by omega), by rw [z7]; exact W.te.fr F1 (by omega), by rw [z8]; exact W.pe.fr F1 (by omega), CW_page W.cr n s0 s1 y0 y1 q0 q1 (fun q => by
    have := inK_cn (K := c 6) (Q := c 7) (b := ff (c 6) (r 5) (p * 10000 + d)) (n := r 5) (key := p * 10000 + d) (v := l) (W.pg.ffs _).1 (W.pg.ffs _).2.1 (fun a y => q (a / 10000) (a % 10000) y)
    rw [show (p * 10000 + d) / 10000 = p by omega, show (p * 10000 + d) % 10000 = d by omega] at this
    exact this)⟩, F1.mono (by omega) (by omega)⟩
  simp (disch := omega) only [f8_page, O.o, O.f0, W.f5, isFrom_of, W.f4, W.pi.has, Option.bind_some, I_lit, I_neg, I_add, I_sub, I_mul, I_lt, I_le, I_eq, if_pos, if_neg, if_true, if_false, decide_eq_true_eq, e1, and_self]
end
