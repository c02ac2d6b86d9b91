/-! count and outrun of both -/
def cnt (r : Int → Int) (nr nm n w : Int) : Int := if w = 0 then r 0 else if w = 1 then r 1 else if w = 2 then r 2 else if w = 3 then r 3 else if w = 4 then r 4 else if w = 5 then r 5 else if w = 6 then nr else if w = 7 then nm else if w = 8 then r 6 else if w = 9 then r 7 else if w = 10 then r 8 else if w = 11 then n else -1
theorem cnt_st {w k a d : Int} {b : Option Int32} (w0 : -2147483648 ≤ w) (w1 : w < 2147483648) (k0 : 0 ≤ k) (k1 : k < 2147483648) (e : b = some (I d)) : (if I w = I k then some (I a) else b) = some (I (if w = k then a else d)) := by
  have l : (I w = I k) = (w = k) := I_eq w0 w1 (by omega) k1
  by_cases z : w = k
  · rw [if_pos (l ▸ z), if_pos z]
  · rw [if_neg (fun y => z (l ▸ y)), if_neg z, e]
section
variable {h h' : AH} {x : Nat} {r : Int → Int} {c : Nat → Int → Int} {nr nm : Int} {t : Nat → Int} {T : Int → Int}
theorem XO.count (O : XO h x nr nm) (W : WD h (x + 1) r c) (P : TP h (x + 22) t T) {w : Int} (w0 : -2147483648 ≤ w) (w1 : w < 2147483648) : f8_count h x (I w) = some (I (cnt r nr nm (t 1) w)) := by
  rw [f8_count]
  simp only [I_lit, I_neg, O.o, O.f0, O.f2, O.f5, O.f7, W.f0, W.f1, W.f2, W.f3, W.f4, W.f5, W.f6, W.f7, W.f8, W.st.size, W.tr.size, W.fa.size, W.pi.size, W.pg.size, W.lo.size, W.te.size, W.pe.size, P.size, Option.bind_some]
  unfold cnt
  iterate 12 refine cnt_st w0 w1 (by omega) (by omega) ?_
  rfl
theorem XO.outrun (O : XO h x nr nm) (W : WD h (x + 1) r c) (A : AQ h (x + 27) 6 6 (fun k => some (x + 59 + 2 * k.toNat))) (n0 : 0 ≤ nm) (n1 : nm ≤ 6) {mk fr : Int} {u : Nat → Int} {sr : Int → Int} (K : 0 ≤ mk → mk < nm → MK h (x + 59 + 2 * mk.toNat) u sr) (X : 1 ≤ u 0 ∧ u 0 ≤ 99) (m0 : -2147483648 ≤ mk) (m1 : mk < 2147483648) (f0 : -2147483648 ≤ fr) (f1 : fr < 2147483648) : f8_outrun h x (I mk) (I fr) = some (I (if (0 ≤ mk ∧ mk < nm) ∧ 0 ≤ fr ∧ fr ≤ r 0 then wt r (u 0) fr (r 0 + 1 - fr).toNat fr else -1)) := by
  have b := W.ri.1
  rw [f8_outrun]
  simp only [I_lit, I_neg]
  rw [O.o, Option.bind_some, O.makerAt A n0 n1 m0 m1, Option.bind_some]
  by_cases a : 0 ≤ mk ∧ mk < nm
  · rw [if_pos a]
    simp only [oM]
    rw [O.f0, Option.bind_some, W.f0, Option.bind_some, isFrom_of (x := fr) (a := 0) (b := r 0) f0 f1 (by omega) (by omega) (by omega) (by omega), Option.bind_some]
    by_cases d : 0 ≤ fr ∧ fr ≤ r 0
    · rw [if_pos (decide_eq_true d), if_pos (show (0 ≤ mk ∧ mk < nm) ∧ 0 ≤ fr ∧ fr ≤ r 0 from ⟨a, d⟩), Option.bind_some, (K a.1 a.2).f0, Option.bind_some, W.tooFast X.1 X.2 d.1 d.2, Option.bind_some]
    · rw [decide_eq_false d, if_neg Bool.false_ne_true, if_neg (show ¬ ((0 ≤ mk ∧ mk < nm) ∧ 0 ≤ fr ∧ fr ≤ r 0) from fun z => d z.2)]
  · rw [if_neg a, if_neg (show ¬ ((0 ≤ mk ∧ mk < nm) ∧ 0 ≤ fr ∧ fr ≤ r 0) from fun z => a z.1)]
    rfl
end
section
variable {h h' : AH} {m : Nat} {v : Nat → Int} {se : Int64} {g : Nat → Int → Int} {gl : Nat → Int → Int64}
theorem MO.count (M : MO h m v se g gl) {w : Int} (w0 : -2147483648 ≤ w) (w1 : w < 2147483648) : f9_count h m (I w) = some (I (cnt (g 1) (v 14) (v 15) (v 2) w)) := by
  rw [f9_count]
  simp only [I_lit, I_neg]
  have q0 := M.r1 (i := 0) (by omega) (by omega)
  have q1 := M.r1 (i := 1) (by omega) (by omega)
  have q2 := M.r1 (i := 2) (by omega) (by omega)
  have q3 := M.r1 (i := 3) (by omega) (by omega)
  have q4 := M.r1 (i := 4) (by omega) (by omega)
  have q5 := M.r1 (i := 5) (by omega) (by omega)
  have q6 := M.r1 (i := 6) (by omega) (by omega)
  have q7 := M.r1 (i := 7) (by omega) (by omega)
  have q8 := M.r1 (i := 8) (by omega) (by omega)
  simp only [M.o, M.f0, M.f2, M.f14, M.f15, q0, q1, q2, q3, q4, q5, q6, q7, q8, Option.bind_some]
  unfold cnt
  iterate 12 refine cnt_st w0 w1 (by omega) (by omega) ?_
  rfl
end
