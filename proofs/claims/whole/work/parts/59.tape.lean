/-! the TAPE -/
theorem I_sar {x s : Int} (h0 : -2147483648 ≤ x) (h1 : x < 2147483648) (g : 0 ≤ s) (g' : s < 32) : (I x >>> (I s &&& I 31) = I (x / 2 ^ s.toNat)) ∧ -2147483648 ≤ x / 2 ^ s.toNat ∧ x / 2 ^ s.toNat < 2147483648 := by
  have p : (0 : Int) < 2 ^ s.toNat := Int.pow_pos (by omega)
  have m : (2147483648 : Int) * 1 ≤ 2147483648 * 2 ^ s.toNat := Int.mul_le_mul_of_nonneg_left (by omega) (by omega)
  have a : -2147483648 ≤ x / 2 ^ s.toNat := Int.le_ediv_of_mul_le p (by omega)
  have b : x / 2 ^ s.toNat < 2147483648 := Int.ediv_lt_of_lt_mul p (by omega)
  refine ⟨?_, a, b⟩
  have e2 : ((2 ^ s.toNat : Nat) : Int) = 2 ^ s.toNat := by rw [Int.natCast_pow]; rfl
  rw [← Int32.toInt_inj, pk_shr _ _ s.toNat (sh_amt' g g'), I_toInt h0 h1, Int.shiftRight_eq_div_pow, e2, I_toInt a b]
theorem I_and255 (y : Int) : I y &&& I 255 = I (y % 256) := by
  rw [pk_and (I y) 8 (by decide)]
  have e : ((I y).toBitVec.toNat : Int) = y % 4294967296 := by
    show (((BitVec.ofInt 32 y).toNat : Nat) : Int) = _
    rw [BitVec.toNat_ofInt]
    have e : ((2 ^ 32 : Nat) : Int) = 4294967296 := rfl
    rw [e]
    omega
  show I (((I y).toBitVec.toNat % 2 ^ 8 : Nat) : Int) = _
  congr 1
  omega
def sbt (b : Int) : Int := if b < 128 then b else b - 256
theorem I_byte {y : Int} (h0 : -2147483648 ≤ y) (h1 : y < 2147483648) : (I y).toInt8.toInt32 = I (sbt (y % 256)) := by
  have r : -128 ≤ sbt (y % 256) ∧ sbt (y % 256) ≤ 127 := by unfold sbt; split <;> omega
  rw [← Int32.toInt_inj, Int8.toInt_toInt32, Int32.toInt_toInt8, I_toInt h0 h1, I_toInt (by omega) (by omega)]
  unfold sbt
  rw [Int.bmod_def]
  have e : ((2 ^ 8 : Nat) : Int) = 256 := rfl
  rw [e]
  rfl
def TP (h : AH) (a : Nat) (t : Nat → Int) (T : Int → Int) : Prop := OB h a 6 [.ref (a + 1), .int (I (t 1)), .int (I (t 2)), .int (I (t 3)), .int (I (t 4)), .int (I (t 5)), .int (I (t 6))] ∧ AI h (a + 1) 0 400 T
def fdB (x s : Int) : Int := x / 2 ^ s.toNat % 256
def fd (T : Int → Int) (n x : Int) : Int → Int := up (up (up (up T n (fdB x 24)) (n + 1) (fdB x 16)) (n + 2) (fdB x 8)) (n + 3) (fdB x 0)
def fdm (T : Int → Int) (n x : Int) : Int → Int := up (up (up (up T n (sbt (fdB x 24))) (n + 1) (sbt (fdB x 16))) (n + 2) (sbt (fdB x 8))) (n + 3) (sbt (fdB x 0))
/-- the reference's bytes are the class's, with a sign; all of them bytes -/
def TS (T G : Int → Int) (n : Int) : Prop := ∀ i, 0 ≤ i → i < n → G i = sbt (T i) ∧ 0 ≤ T i ∧ T i ≤ 255
theorem TS.feed {T G : Int → Int} {n : Int} (s : TS T G n) (n0 : 0 ≤ n) (x : Int) : TS (fd T n x) (fdm G n x) (n + 4) := by
  intro i i0 i1
  unfold fd fdm
  have b : ∀ s, 0 ≤ fdB x s ∧ fdB x s ≤ 255 := fun s => by unfold fdB; omega
  by_cases a : i < n
  · simp (disch := omega) only [up_ne]; exact s i i0 a
  · have : i = n ∨ i = n + 1 ∨ i = n + 2 ∨ i = n + 3 := by omega
    rcases this with e | e | e | e <;> subst e <;> simp (disch := omega) only [up_ne, up_eq] <;> exact ⟨trivial, b _⟩
section
variable {h h' : AH} {a : Nat} {t : Nat → Int} {T : Int → Int}
theorem TP.o (P : TP h a t T) : hObj 6 h a = some [.ref (a + 1), .int (I (t 1)), .int (I (t 2)), .int (I (t 3)), .int (I (t 4)), .int (I (t 5)), .int (I (t 6))] := P.1.o
theorem TP.f0 (P : TP h a t T) : fR 6 0 h a = some (a + 1) := P.1.r 0 rfl
theorem TP.f1 (P : TP h a t T) : fI 6 1 h a = some (I (t 1)) := P.1.i 1 rfl
theorem TP.f2 (P : TP h a t T) : fI 6 2 h a = some (I (t 2)) := P.1.i 2 rfl
theorem TP.f3 (P : TP h a t T) : fI 6 3 h a = some (I (t 3)) := P.1.i 3 rfl
theorem TP.f4 (P : TP h a t T) : fI 6 4 h a = some (I (t 4)) := P.1.i 4 rfl
theorem TP.f5 (P : TP h a t T) : fI 6 5 h a = some (I (t 5)) := P.1.i 5 rfl
theorem TP.f6 (P : TP h a t T) : fI 6 6 h a = some (I (t 6)) := P.1.i 6 rfl
theorem TP.fr (P : TP h a t T) {lo hi : Nat} (f : Fr lo hi h h') (d : a + 2 ≤ lo ∨ hi ≤ a) : TP h' a t T := ⟨P.1.at (f.2 _ (by omega)), P.2.at (f.2 _ (by omega))⟩
theorem TP.setF (P : TP h a t T) {k : Nat} {x : Value} {t' : Nat → Int} (e : [.ref (a + 1), .int (I (t 1)), .int (I (t 2)), .int (I (t 3)), .int (I (t 4)), .int (I (t 5)), .int (I (t 6))].set k x = [.ref (a + 1), .int (I (t' 1)), .int (I (t' 2)), .int (I (t' 3)), .int (I (t' 4)), .int (I (t' 5)), .int (I (t' 6))]) (hk : k < 7) : ∃ h', fS 6 k h a x = some h' ∧ TP h' a t' T ∧ Fr a (a + 2) h h' := by
  obtain ⟨h', e1, O1, F1⟩ := P.1.set k x hk
  rw [e] at O1
  exact ⟨h', e1, ⟨O1, P.2.at (F1.2 _ (by omega))⟩, F1.mono (by omega) (by omega)⟩
theorem TP.s1 (P : TP h a t T) (x : Int) : ∃ h', fS 6 1 h a (.int (I x)) = some h' ∧ TP h' a (us t 1 x) T ∧ Fr a (a + 2) h h' := P.setF rfl (by omega)
theorem TP.s2 (P : TP h a t T) (x : Int) : ∃ h', fS 6 2 h a (.int (I x)) = some h' ∧ TP h' a (us t 2 x) T ∧ Fr a (a + 2) h h' := P.setF rfl (by omega)
theorem TP.s3 (P : TP h a t T) (x : Int) : ∃ h', fS 6 3 h a (.int (I x)) = some h' ∧ TP h' a (us t 3 x) T ∧ Fr a (a + 2) h h' := P.setF rfl (by omega)
theorem TP.s4 (P : TP h a t T) (x : Int) : ∃ h', fS 6 4 h a (.int (I x)) = some h' ∧ TP h' a (us t 4 x) T ∧ Fr a (a + 2) h h' := P.setF rfl (by omega)
theorem TP.s5 (P : TP h a t T) (x : Int) : ∃ h', fS 6 5 h a (.int (I x)) = some h' ∧ TP h' a (us t 5 x) T ∧ Fr a (a + 2) h h' := P.setF rfl (by omega)
theorem TP.s6 (P : TP h a t T) (x : Int) : ∃ h', fS 6 6 h a (.int (I x)) = some h' ∧ TP h' a (us t 6 x) T ∧ Fr a (a + 2) h h' := P.setF rfl (by omega)
theorem TP.add1 (P : TP h a t T) {n x s : Int} (e : t 1 = n) (n0 : 0 ≤ n) (n1 : n < 400) (h0 : -2147483648 ≤ x) (h1 : x < 2147483648) (s0 : 0 ≤ s) (s1 : s < 32) (f : Nat) : ∃ h', f6_addFour_3 a (I x) (f + 1) h (I s) = f6_addFour_3 a (I x) f h' (I (s - 8)) ∧ TP h' a (us t 1 (n + 1)) (up T n (fdB x s)) ∧ Fr a (a + 2) h h' := by
  have sar := (I_sar h0 h1 s0 s1).1
  obtain ⟨h1', e1, A1, F1⟩ := P.2.set (i := n) (v := fdB x s) n0 n1
  have P1 : TP h1' a t (up T n (fdB x s)) := ⟨P.1.at (F1.2 _ (by omega)), A1⟩
  obtain ⟨h2, e2, P2, F2⟩ := P1.s1 (n + 1)
  refine ⟨h2, ?_, P2, (F1.mono (by omega) (by omega)).trans F2⟩
  have e1' : sI 0 h (a + 1) (I n) (I (x / 2 ^ s.toNat % 256)) = some h1' := e1
  simp (disch := omega) only [f6_addFour_3, P.f1, P.f0, P.2.n, e, sar, Option.bind_some, I_lit, I_neg, I_add, I_sub, I_mul, I_lt, I_le, I_eq, if_pos, if_neg, if_true, if_false, decide_eq_true_eq, I_and255, e1', P1.f1, e2]
  rfl
theorem TP.add4 (P : TP h a t T) {n x : Int} (e : t 1 = n) (n0 : 0 ≤ n) (n1 : n + 4 ≤ 400) (h0 : -2147483648 ≤ x) (h1 : x < 2147483648) : ∃ h', f6_addFour h a (I x) = some h' ∧ TP h' a (us t 1 (n + 4)) (fd T n x) ∧ Fr a (a + 2) h h' := by
  have fu := FU_big
  obtain ⟨f, hf⟩ : ∃ f, FU = f + 5 := ⟨FU - 5, by omega⟩
  obtain ⟨h1', e1, P1, F1⟩ := P.add1 (x := x) (s := 24) e n0 (by omega) h0 h1 (by omega) (by omega) (f + 4)
  obtain ⟨h2, e2, P2, F2⟩ := P1.add1 (n := n + 1) (x := x) (s := 16) us_eq (by omega) (by omega) h0 h1 (by omega) (by omega) (f + 3)
  obtain ⟨h3, e3, P3, F3⟩ := P2.add1 (n := n + 2) (x := x) (s := 8) (by rw [us_eq]; omega) (by omega) (by omega) h0 h1 (by omega) (by omega) (f + 2)
  obtain ⟨h4, e4, P4, F4⟩ := P3.add1 (n := n + 3) (x := x) (s := 0) (by rw [us_eq]; omega) (by omega) (by omega) h0 h1 (by omega) (by omega) (f + 1)
  rw [us_us, us_us, us_us, show n + 3 + 1 = n + 4 by omega] at P4
  refine ⟨h4, ?_, P4, ((F1.trans F2).trans F3).trans F4⟩
  have l : f6_addFour_3 a (I x) (f + 1) h4 (I (0 - 8)) = some h4 := by
    simp (disch := omega) only [f6_addFour_3, Option.bind_some, I_lit, I_neg, I_add, I_sub, I_mul, I_lt, I_le, I_eq, if_pos, if_neg, if_true, if_false, decide_eq_true_eq]
  rw [f6_addFour, P.o, Option.bind_some, hf, I_lit 24]
  exact e1.trans (e2.trans (e3.trans (e4.trans l)))
theorem TP.size (P : TP h a t T) : f6_size h a = some (I (t 1)) := by
  rw [f6_size, P.o, Option.bind_some, P.f1, Option.bind_some]
theorem TP.cut (P : TP h a t T) {n : Int} (n0 : 0 ≤ n) (n1 : n ≤ t 1) (n2 : t 1 ≤ 400) : ∃ h', f6_cut h a (I n) = some h' ∧ TP h' a (us t 1 n) T ∧ Fr a (a + 2) h h' := by
  obtain ⟨h1, e1, P1, F1⟩ := P.s1 n
  refine ⟨h1, ?_, P1, F1⟩
  simp (disch := omega) only [f6_cut, P.o, P.f1, e1, Option.bind_some, I_lit, I_neg, I_add, I_sub, I_mul, I_lt, I_le, I_eq, if_pos, if_neg, if_true, if_false, decide_eq_true_eq]
theorem TP.byteAt (P : TP h a t T) {i : Int} (i0 : 0 ≤ i) (i1 : i < t 1) (n2 : t 1 ≤ 400) : f6_byteAt h a (I i) = some (I (T i)) := by
  simp (disch := omega) only [f6_byteAt, P.o, P.f1, P.f0, P.2.n, P.2.g, Option.bind_some, I_lit, I_neg, I_add, I_sub, I_mul, I_lt, I_le, I_eq, if_pos, if_neg, if_true, if_false, decide_eq_true_eq]
theorem TP.byteOut (P : TP h a t T) {i : Int} (i0 : 0 ≤ t 1) (i1 : t 1 ≤ i) (n2 : t 1 ≤ 400) (i2 : i < 2147483648) : f6_byteAt h a (I i) = some (I (-1)) := by
  simp (disch := omega) only [f6_byteAt, P.o, P.f1, Option.bind_some, I_lit, I_neg, I_add, I_sub, I_mul, I_lt, I_le, I_eq, if_pos, if_neg, if_true, if_false, decide_eq_true_eq]
end
section
variable {h h' : AH} {m : Nat} {v : Nat → Int} {se : Int64} {g : Nat → Int → Int} {gl : Nat → Int → Int64}
theorem MO.add1 (M : MO h m v se g gl) {n x s : Int} (e : v 2 = n) (n0 : 0 ≤ n) (n1 : n < 400) (h0 : -2147483648 ≤ x) (h1 : x < 2147483648) (s0 : 0 ≤ s) (s1 : s < 32) (f : Nat) : ∃ h', f9_four_3 m (I x) (f + 1) h (I s) = f9_four_3 m (I x) f h' (I (s - 8)) ∧ MO h' m (us v 2 (n + 1)) se (uf g 2 (up (g 2) n (sbt (fdB x s)))) gl ∧ Fr m (m + 24) h h' := by
  have sar := I_sar h0 h1 s0 s1
  have by_ := I_byte sar.2.1 sar.2.2
  have vb := pk_vb (I (x / 2 ^ s.toNat))
  rw [by_] at vb
  obtain ⟨h1', e1, M1, F1⟩ := M.w2 (i := n) (sbt (fdB x s)) n0 n1
  obtain ⟨h2, e2, M2, F2⟩ := M1.s2 (n + 1)
  refine ⟨h2, ?_, M2, F1.trans F2⟩
  have e1' : sI 2 h (m + 2) (I n) (I (sbt (x / 2 ^ s.toNat % 256))) = some h1' := e1
  simp (disch := omega) only [f9_four_3, M.f1, M.f2, e, sar.1, Option.bind_some, I_lit, I_neg, I_add, I_sub, I_mul, I_lt, I_le, I_eq, if_pos, if_neg, if_true, if_false, decide_eq_true_eq, vb, by_, e1', M1.f2, e2]
  rfl
theorem MO.add4 (M : MO h m v se g gl) {n x : Int} (e : v 2 = n) (n0 : 0 ≤ n) (n1 : n + 4 ≤ 400) (h0 : -2147483648 ≤ x) (h1 : x < 2147483648) : ∃ h', f9_four h m (I x) = some h' ∧ MO h' m (us v 2 (n + 4)) se (uf g 2 (fdm (g 2) n x)) gl ∧ Fr m (m + 24) h h' := by
  have fu := FU_big
  obtain ⟨f, hf⟩ : ∃ f, FU = f + 5 := ⟨FU - 5, by omega⟩
  obtain ⟨h1', e1, M1, F1⟩ := M.add1 (x := x) (s := 24) e n0 (by omega) h0 h1 (by omega) (by omega) (f + 4)
  obtain ⟨h2, e2, M2, F2⟩ := M1.add1 (n := n + 1) (x := x) (s := 16) us_eq (by omega) (by omega) h0 h1 (by omega) (by omega) (f + 3)
  obtain ⟨h3, e3, M3, F3⟩ := M2.add1 (n := n + 2) (x := x) (s := 8) (by rw [us_eq]; omega) (by omega) (by omega) h0 h1 (by omega) (by omega) (f + 2)
  obtain ⟨h4, e4, M4, F4⟩ := M3.add1 (n := n + 3) (x := x) (s := 0) (by rw [us_eq]; omega) (by omega) (by omega) h0 h1 (by omega) (by omega) (f + 1)
  simp only [uf_eq, uf_uf, us_us] at M4
  rw [show n + 3 + 1 = n + 4 by omega] at M4
  refine ⟨h4, ?_, M4, ((F1.trans F2).trans F3).trans F4⟩
  have l : f9_four_3 m (I x) (f + 1) h4 (I (0 - 8)) = some h4 := by
    simp (disch := omega) only [f9_four_3, Option.bind_some, I_lit, I_neg, I_add, I_sub, I_mul, I_lt, I_le, I_eq, if_pos, if_neg, if_true, if_false, decide_eq_true_eq]
  rw [f9_four, M.o, Option.bind_some, hf, I_lit 24]
  exact e1.trans (e2.trans (e3.trans (e4.trans l)))
end
