/-! feed, end: both sides -/
def fdd5 (T : Int → Int) (n a b c d e : Int) : Int → Int := fd (fd (fd (fd (fd T n a) (n + 4) b) (n + 8) c) (n + 12) d) (n + 16) e
def fmm5 (T : Int → Int) (n a b c d e : Int) : Int → Int := fdm (fdm (fdm (fdm (fdm T n a) (n + 4) b) (n + 8) c) (n + 12) d) (n + 16) e
theorem TS.feed5 {T G : Int → Int} {n : Int} (s : TS T G n) (n0 : 0 ≤ n) (a b c d e : Int) : TS (fdd5 T n a b c d e) (fmm5 G n a b c d e) (n + 20) := by
  have s1 := s.feed n0 a
  have s2 := s1.feed (by omega) b
  have s3 := s2.feed (by omega) c
  have s4 := s3.feed (by omega) d
  have s5 := s4.feed (by omega) e
  unfold fdd5 fmm5
  rw [show n + 4 + 4 = n + 8 by omega, show n + 8 + 4 = n + 12 by omega, show n + 12 + 4 = n + 16 by omega, show n + 16 + 4 = n + 20 by omega] at s5
  exact s5
section
variable {h h' : AH} {x : Nat} {nr nm : Int} {t : Nat → Int} {T : Int → Int}
theorem XO.feed (O : XO h x nr nm) (P : TP h (x + 22) t T) {n a b c d e : Int} (hn : t 1 = n) (n0 : 0 ≤ n) (n1 : n + 20 ≤ 400) (a0 : -2147483648 ≤ a) (a1 : a < 2147483648) (b0 : -2147483648 ≤ b) (b1 : b < 2147483648) (c0 : -2147483648 ≤ c) (c1 : c < 2147483648) (d0 : -2147483648 ≤ d) (d1 : d < 2147483648) (e0 : -2147483648 ≤ e) (e1 : e < 2147483648) : ∃ h', f8_feed h x (I a) (I b) (I c) (I d) (I e) = some (I (n + 20), h') ∧ TP h' (x + 22) (us t 1 (n + 20)) (fdd5 T n a b c d e) ∧ Fr (x + 22) (x + 24) h h' := by
  obtain ⟨h1, q1, P1, F1⟩ := P.add4 hn n0 (by omega) a0 a1
  obtain ⟨h2, q2, P2, F2⟩ := P1.add4 (n := n + 4) us_eq (by omega) (by omega) b0 b1
  obtain ⟨h3, q3, P3, F3⟩ := P2.add4 (n := n + 8) (by rw [us_eq]; omega) (by omega) (by omega) c0 c1
  obtain ⟨h4, q4, P4, F4⟩ := P3.add4 (n := n + 12) (by rw [us_eq]; omega) (by omega) (by omega) d0 d1
  obtain ⟨h5, q5, P5, F5⟩ := P4.add4 (n := n + 16) (by rw [us_eq]; omega) (by omega) (by omega) e0 e1
  rw [us_us, us_us, us_us, us_us, show n + 16 + 4 = n + 20 by omega] at P5
  have O1 := O.fr F1 (by omega)
  have O2 := O1.fr F2 (by omega)
  have O3 := O2.fr F3 (by omega)
  have O4 := O3.fr F4 (by omega)
  have O5 := O4.fr F5 (by omega)
  refine ⟨h5, ?_, P5, (((F1.trans F2).trans F3).trans F4).trans F5⟩
  have sz := P5.size
  rw [us_eq] at sz
  have l1 : (I (n + 20) ≤ I 400) = (n + 20 ≤ 400) := I_le (by omega) (by omega) (by omega) (by omega)
  have z : I (n + 20) ≤ I 400 := by rw [l1]; exact n1
  rw [f8_feed]
  simp only [I_lit]
  rw [O.o, Option.bind_some, O.f2, Option.bind_some, P.size, hn, Option.bind_some, I_add, if_pos z, Option.bind_some, q1, Option.bind_some, O1.f2, Option.bind_some, q2, Option.bind_some, O2.f2, Option.bind_some, q3, Option.bind_some, O3.f2, Option.bind_some, q4, Option.bind_some, O4.f2, Option.bind_some, q5, Option.bind_some, O5.f2, Option.bind_some, sz, Option.bind_some]
theorem XO.feedN (O : XO h x nr nm) (P : TP h (x + 22) t T) {n : Int} (a b c d e : Int32) (hn : t 1 = n) (n0 : 0 ≤ n) (n1 : n ≤ 400) (n2 : ¬ n + 20 ≤ 400) : f8_feed h x a b c d e = some (I (-1), h) := by
  have l1 : (I (n + 20) ≤ I 400) = (n + 20 ≤ 400) := I_le (by omega) (by omega) (by omega) (by omega)
  have z : ¬ I (n + 20) ≤ I 400 := by rw [l1]; exact n2
  rw [f8_feed]
  simp only [I_lit, I_neg]
  rw [O.o, Option.bind_some, O.f2, Option.bind_some, P.size, hn, Option.bind_some, I_add, if_neg z]
theorem XO.end_ (O : XO h x nr nm) (P : TP h (x + 22) t T) {n k : Int} (hn : t 1 = n) (n1 : n ≤ 400) (k0 : 0 ≤ k) (k1 : k ≤ n) : ∃ h', f8_end h x (I k) = some (I k, h') ∧ TP h' (x + 22) (us t 1 k) T ∧ Fr (x + 22) (x + 24) h h' := by
  obtain ⟨h1, q1, P1, F1⟩ := P.cut k0 (by omega) (by omega)
  refine ⟨h1, ?_, P1, F1⟩
  rw [f8_end]
  simp only [I_lit, I_neg]
  rw [O.o, Option.bind_some, O.f2, Option.bind_some, P.size, hn, Option.bind_some, isFrom_of (x := k) (a := 0) (b := n) (by omega) (by omega) (by omega) (by omega) (by omega) (by omega), Option.bind_some, if_pos (decide_eq_true ⟨k0, k1⟩), Option.bind_some, q1, Option.bind_some]
theorem XO.endN (O : XO h x nr nm) (P : TP h (x + 22) t T) {n k : Int} (hn : t 1 = n) (n0 : 0 ≤ n) (n1 : n ≤ 400) (k0 : -2147483648 ≤ k) (k1 : k < 2147483648) (no : ¬ (0 ≤ k ∧ k ≤ n)) : f8_end h x (I k) = some (I (-1), h) := by
  rw [f8_end]
  simp only [I_lit, I_neg]
  rw [O.o, Option.bind_some, O.f2, Option.bind_some, P.size, hn, Option.bind_some, isFrom_of (x := k) (a := 0) (b := n) (by omega) (by omega) (by omega) (by omega) (by omega) (by omega), Option.bind_some, decide_eq_false no, if_neg Bool.false_ne_true]
end
section
variable {h h' : AH} {m : Nat} {v : Nat → Int} {se : Int64} {g : Nat → Int → Int} {gl : Nat → Int → Int64}
theorem MO.feed (M : MO h m v se g gl) {n a b c d e : Int} (hn : v 2 = n) (n0 : 0 ≤ n) (n1 : n + 20 ≤ 400) (a0 : -2147483648 ≤ a) (a1 : a < 2147483648) (b0 : -2147483648 ≤ b) (b1 : b < 2147483648) (c0 : -2147483648 ≤ c) (c1 : c < 2147483648) (d0 : -2147483648 ≤ d) (d1 : d < 2147483648) (e0 : -2147483648 ≤ e) (e1 : e < 2147483648) : ∃ h', f9_feed h m (I a) (I b) (I c) (I d) (I e) = some (I (n + 20), h') ∧ MO h' m (us v 2 (n + 20)) se (uf g 2 (fmm5 (g 2) n a b c d e)) gl ∧ Fr m (m + 24) h h' := by
  obtain ⟨h1, q1, M1, F1⟩ := M.add4 hn n0 (by omega) a0 a1
  obtain ⟨h2, q2, M2, F2⟩ := M1.add4 (n := n + 4) us_eq (by omega) (by omega) b0 b1
  obtain ⟨h3, q3, M3, F3⟩ := M2.add4 (n := n + 8) (by rw [us_eq]; omega) (by omega) (by omega) c0 c1
  obtain ⟨h4, q4, M4, F4⟩ := M3.add4 (n := n + 12) (by rw [us_eq]; omega) (by omega) (by omega) d0 d1
  obtain ⟨h5, q5, M5, F5⟩ := M4.add4 (n := n + 16) (by rw [us_eq]; omega) (by omega) (by omega) e0 e1
  simp only [uf_eq, uf_uf, us_us] at M5
  rw [show n + 16 + 4 = n + 20 by omega] at M5
  refine ⟨h5, ?_, M5, (((F1.trans F2).trans F3).trans F4).trans F5⟩
  have l1 : (I (n + 20) ≤ I 400) = (n + 20 ≤ 400) := I_le (by omega) (by omega) (by omega) (by omega)
  have z : I (n + 20) ≤ I 400 := by rw [l1]; exact n1
  have f2 := M5.f2
  rw [us_eq] at f2
  rw [f9_feed]
  simp only [I_lit]
  rw [M.o, Option.bind_some, M.f2, hn, Option.bind_some, I_add, if_pos z, q1, Option.bind_some, q2, Option.bind_some, q3, Option.bind_some, q4, Option.bind_some, q5, Option.bind_some, f2, Option.bind_some]
theorem MO.feedN (M : MO h m v se g gl) {n : Int} (a b c d e : Int32) (hn : v 2 = n) (n0 : 0 ≤ n) (n1 : n ≤ 400) (n2 : ¬ n + 20 ≤ 400) : f9_feed h m a b c d e = some (I (-1), h) := by
  have l1 : (I (n + 20) ≤ I 400) = (n + 20 ≤ 400) := I_le (by omega) (by omega) (by omega) (by omega)
  have z : ¬ I (n + 20) ≤ I 400 := by rw [l1]; exact n2
  rw [f9_feed]
  simp only [I_lit, I_neg]
  rw [M.o, Option.bind_some, M.f2, hn, Option.bind_some, I_add, if_neg z]
theorem MO.end_ (M : MO h m v se g gl) {n k : Int} (hn : v 2 = n) (n1 : n ≤ 400) (k0 : 0 ≤ k) (k1 : k ≤ n) : ∃ h', f9_end h m (I k) = some (I k, h') ∧ MO h' m (us v 2 k) se g gl ∧ Fr m (m + 24) h h' := by
  obtain ⟨h1, q1, M1, F1⟩ := M.s2 k
  refine ⟨h1, ?_, M1, F1⟩
  have l1 : (I k < I 0) = (k < 0) := I_lt (by omega) (by omega) (by omega) (by omega)
  have z1 : ¬ I k < I 0 := by rw [l1]; omega
  have l2 : (I k ≤ I n) = (k ≤ n) := I_le (by omega) (by omega) (by omega) (by omega)
  have z2 : I k ≤ I n := by rw [l2]; exact k1
  rw [f9_end]
  simp only [I_lit, I_neg]
  rw [M.o, Option.bind_some, if_neg z1, M.f2, hn, Option.bind_some, if_pos z2, q1, Option.bind_some]
theorem MO.endN (M : MO h m v se g gl) {n k : Int} (hn : v 2 = n) (n0 : 0 ≤ n) (n1 : n ≤ 400) (k0 : -2147483648 ≤ k) (k1 : k < 2147483648) (no : ¬ (0 ≤ k ∧ k ≤ n)) : f9_end h m (I k) = some (I (-1), h) := by
  have l1 : (I k < I 0) = (k < 0) := I_lt (by omega) (by omega) (by omega) (by omega)
  have l2 : (I k ≤ I n) = (k ≤ n) := I_le (by omega) (by omega) (by omega) (by omega)
  rw [f9_end]
  simp only [I_lit, I_neg]
  rw [M.o, Option.bind_some]
  by_cases z : k < 0
  · have z1 : I k < I 0 := by rw [l1]; exact z
    rw [if_pos z1]
  · have z1 : ¬ I k < I 0 := by rw [l1]; exact z
    have z2 : ¬ I k ≤ I n := by rw [l2]; omega
    rw [if_neg z1, M.f2, hn, Option.bind_some, if_neg z2]
end
