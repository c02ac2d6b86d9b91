/-! the reference's calls that write (gen45.py) -/
section
variable {h h' : AH} {m : Nat} {v : Nat → Int} {se : Int64} {g : Nat → Int → Int} {gl : Nat → Int → Int64}
theorem in_I {h : AH} {x a b : Int} (h0 : -2147483648 ≤ x) (h1 : x < 2147483648) (a0 : -9223372036854775808 ≤ a) (a1 : a < 9223372036854775808) (b0 : -9223372036854775808 ≤ b) (b1 : b < 9223372036854775808) : f9_in h (I x).toInt64 (J a) (J b) = some (decide (a ≤ x ∧ x ≤ b)) := by
  rw [I_toJ h0 h1]
  exact in_of (by omega) (by omega) a0 a1 b0 b1
theorem MO.clock (M : MO h m v se g gl) (R : RI (g 1)) {w : Int} (w0 : g 1 0 ≤ w) (w1 : w ≤ 519) : ∃ h', f9_clock h m (I w) = some (true, h') ∧ MO h' m v se (uf g 1 (up (g 1) 0 w)) gl ∧ Fr m (m + 24) h h' := by
  have b := R.1
  have pw := pow10 R
  obtain ⟨h1, e1, M1, F1⟩ := M.w1 (i := 0) (w) (by omega) (by omega)
  refine ⟨h1, ?_, M1, F1⟩
  simp (disch := omega) only [f9_clock, M.o, M.f0, M.r1, Option.bind_some, I_lit, I_neg, I_add, I_sub, I_mul, I_lt, I_le, I_eq, if_pos, if_neg, if_true, if_false, decide_eq_true_eq, J_lit, J_neg, J_add, J_sub, J_mul, J_lt, J_le, J_eq, I_toJ, in_of, e1, M1.f0, M1.r1, uf_eq, up_ne, up_eq, Int.add_sub_cancel, and_self]
theorem MO.stuff (M : MO h m v se g gl) (R : RI (g 1)) {y co : Int} (n : g 1 1 < 10) (y0 : 1800 ≤ y) (y1 : y ≤ 1999) (q0 : 1 ≤ co) (q1 : co ≤ 99) : ∃ h', f9_stuff h m (I y) (I co) = some (I (g 1 1), h') ∧ MO h' m v se (uf g 1 (rStuff (g 1) y co)) gl ∧ Fr m (m + 24) h h' := by
  have b := R.1
  have pw := pow10 R
  obtain ⟨h1, e1, M1, F1⟩ := M.w1 (i := 10 + 2 * g 1 1) (y) (by omega) (by omega)
  obtain ⟨h2, e2, M2, F2⟩ := M1.w1 (i := 10 + 2 * g 1 1 + 1) (co) (by omega) (by omega)
  rw [uf_eq, uf_uf] at M2
  obtain ⟨h3, e3, M3, F3⟩ := M2.w1 (i := 1) (g 1 1 + 1) (by omega) (by omega)
  rw [uf_eq, uf_uf] at M3
  refine ⟨h3, ?_, M3, ((F1.trans F2).trans F3)⟩
  simp (disch := omega) only [f9_stuff, M.o, M.f0, M.r1, Option.bind_some, I_lit, I_neg, I_add, I_sub, I_mul, I_lt, I_le, I_eq, if_pos, if_neg, if_true, if_false, decide_eq_true_eq, J_lit, J_neg, J_add, J_sub, J_mul, J_lt, J_le, J_eq, I_toJ, in_of, e1, M1.f0, M1.r1, e2, M2.f0, M2.r1, e3, M3.f0, M3.r1, uf_eq, up_ne, up_eq, Int.add_sub_cancel, and_self]
theorem MO.truth (M : MO h m v se g gl) (R : RI (g 1)) {d l : Int} (n : g 1 2 < 200) (y0 : 0 ≤ d) (y1 : d ≤ 9999) (q0 : 0 ≤ l) (q1 : l ≤ 99) (hno : Tl (g 1) d = -1) : ∃ h', f9_truth h m (I d) (I l) = some (I (g 1 2 + 1), h') ∧ MO h' m v se (uf g 1 (rTruth (g 1) d l)) gl ∧ Fr m (m + 24) h h' := by
  have b := R.1
  have pw := pow10 R
  obtain ⟨h1, e1, M1, F1⟩ := M.w1 (i := 30 + 2 * g 1 2) (d) (by omega) (by omega)
  obtain ⟨h2, e2, M2, F2⟩ := M1.w1 (i := 30 + 2 * g 1 2 + 1) (l) (by omega) (by omega)
  rw [uf_eq, uf_uf] at M2
  obtain ⟨h3, e3, M3, F3⟩ := M2.w1 (i := 2) (g 1 2 + 1) (by omega) (by omega)
  rw [uf_eq, uf_uf] at M3
  refine ⟨h3, ?_, M3, ((F1.trans F2).trans F3)⟩
  simp (disch := omega) only [f9_truth, M.o, M.f0, M.r1, isDay_of, M.truthOf R, hno, Option.bind_some, I_lit, I_neg, I_add, I_sub, I_mul, I_lt, I_le, I_eq, if_pos, if_neg, if_true, if_false, decide_eq_true_eq, J_lit, J_neg, J_add, J_sub, J_mul, J_lt, J_le, J_eq, I_toJ, in_of, e1, M1.f0, M1.r1, e2, M2.f0, M2.r1, e3, M3.f0, M3.r1, uf_eq, up_ne, up_eq, Int.add_sub_cancel, and_self]
theorem MO.fact (M : MO h m v se g gl) (R : RI (g 1)) {s d l : Int} (n : g 1 3 < 300) (s0 : 0 ≤ s) (s1 : s ≤ 5) (y0 : 0 ≤ d) (y1 : d ≤ 9999) (q0 : 0 ≤ l) (q1 : l ≤ 99) (hno : Fl (g 1) s d = -1) : ∃ h', f9_fact h m (I s) (I d) (I l) = some (I (g 1 3 + 1), h') ∧ MO h' m v se (uf g 1 (rFact (g 1) s d l)) gl ∧ Fr m (m + 24) h h' := by
  have b := R.1
  have pw := pow10 R
  obtain ⟨h1, e1, M1, F1⟩ := M.w1 (i := 430 + 3 * g 1 3) (s) (by omega) (by omega)
  obtain ⟨h2, e2, M2, F2⟩ := M1.w1 (i := 430 + 3 * g 1 3 + 1) (d) (by omega) (by omega)
  rw [uf_eq, uf_uf] at M2
  obtain ⟨h3, e3, M3, F3⟩ := M2.w1 (i := 430 + 3 * g 1 3 + 2) (l) (by omega) (by omega)
  rw [uf_eq, uf_uf] at M3
  obtain ⟨h4, e4, M4, F4⟩ := M3.w1 (i := 3) (g 1 3 + 1) (by omega) (by omega)
  rw [uf_eq, uf_uf] at M4
  refine ⟨h4, ?_, M4, (((F1.trans F2).trans F3).trans F4)⟩
  simp (disch := omega) only [f9_fact, M.o, M.f0, M.r1, isDay_of, M.factOf R, hno, Option.bind_some, I_lit, I_neg, I_add, I_sub, I_mul, I_lt, I_le, I_eq, if_pos, if_neg, if_true, if_false, decide_eq_true_eq, J_lit, J_neg, J_add, J_sub, J_mul, J_lt, J_le, J_eq, I_toJ, in_of, e1, M1.f0, M1.r1, e2, M2.f0, M2.r1, e3, M3.f0, M3.r1, e4, M4.f0, M4.r1, uf_eq, up_ne, up_eq, Int.add_sub_cancel, and_self]
theorem MO.piece (M : MO h m v se g gl) (R : RI (g 1)) {so a_ b_ d_ e_ f_ st pr : Int} (n : g 1 4 < 90) (o0 : 0 ≤ so) (o1 : so ≤ 2) (a0 : 0 ≤ a_) (ax : a_ ≤ 99) (b0 : 0 ≤ b_) (bx : b_ ≤ 99) (d0 : 0 ≤ d_) (dx : d_ ≤ 99) (e0 : 0 ≤ e_) (ex : e_ ≤ 99) (f0 : 0 ≤ f_) (fx : f_ ≤ 99) (t0 : 0 ≤ st) (t1 : st < 2 ^ (g 1 1).toNat) (p0 : 0 ≤ pr) (p1 : pr ≤ 9999) : ∃ h', f9_piece h m (I so) (I a_) (I b_) (I d_) (I e_) (I f_) (I st) (I pr) = some (I (g 1 4), h') ∧ MO h' m v se (uf g 1 (rPiece (g 1) so a_ b_ d_ e_ f_ st pr)) gl ∧ Fr m (m + 24) h h' := by
  have b := R.1
  have pw := pow10 R
  obtain ⟨h1, e1, M1, F1⟩ := M.w1 (i := 1330 + 10 * g 1 4) (so) (by omega) (by omega)
  obtain ⟨h2, e2, M2, F2⟩ := M1.w1 (i := 1330 + 10 * g 1 4 + 1) (a_) (by omega) (by omega)
  rw [uf_eq, uf_uf] at M2
  obtain ⟨h3, e3, M3, F3⟩ := M2.w1 (i := 1330 + 10 * g 1 4 + 2) (b_) (by omega) (by omega)
  rw [uf_eq, uf_uf] at M3
  obtain ⟨h4, e4, M4, F4⟩ := M3.w1 (i := 1330 + 10 * g 1 4 + 3) (d_) (by omega) (by omega)
  rw [uf_eq, uf_uf] at M4
  obtain ⟨h5, e5, M5, F5⟩ := M4.w1 (i := 1330 + 10 * g 1 4 + 4) (e_) (by omega) (by omega)
  rw [uf_eq, uf_uf] at M5
  obtain ⟨h6, e6, M6, F6⟩ := M5.w1 (i := 1330 + 10 * g 1 4 + 5) (f_) (by omega) (by omega)
  rw [uf_eq, uf_uf] at M6
  obtain ⟨h7, e7, M7, F7⟩ := M6.w1 (i := 1330 + 10 * g 1 4 + 6) (st) (by omega) (by omega)
  rw [uf_eq, uf_uf] at M7
  obtain ⟨h8, e8, M8, F8⟩ := M7.w1 (i := 1330 + 10 * g 1 4 + 7) (pr) (by omega) (by omega)
  rw [uf_eq, uf_uf] at M8
  obtain ⟨h9, e9, M9, F9⟩ := M8.w1 (i := 1330 + 10 * g 1 4 + 8) (g 1 0) (by omega) (by omega)
  rw [uf_eq, uf_uf] at M9
  obtain ⟨h10, e10, M10, F10⟩ := M9.w1 (i := 1330 + 10 * g 1 4 + 9) (0) (by omega) (by omega)
  rw [uf_eq, uf_uf] at M10
  obtain ⟨h11, e11, M11, F11⟩ := M10.w1 (i := 4) (g 1 4 + 1) (by omega) (by omega)
  rw [uf_eq, uf_uf] at M11
  refine ⟨h11, ?_, M11, ((((((((((F1.trans F2).trans F3).trans F4).trans F5).trans F6).trans F7).trans F8).trans F9).trans F10).trans F11)⟩
  simp (disch := omega) only [f9_piece, M.o, M.f0, M.r1, I_shl1, Option.bind_some, I_lit, I_neg, I_add, I_sub, I_mul, I_lt, I_le, I_eq, if_pos, if_neg, if_true, if_false, decide_eq_true_eq, J_lit, J_neg, J_add, J_sub, J_mul, J_lt, J_le, J_eq, I_toJ, in_of, e1, M1.f0, M1.r1, e2, M2.f0, M2.r1, e3, M3.f0, M3.r1, e4, M4.f0, M4.r1, e5, M5.f0, M5.r1, e6, M6.f0, M6.r1, e7, M7.f0, M7.r1, e8, M8.f0, M8.r1, e9, M9.f0, M9.r1, e10, M10.f0, M10.r1, e11, M11.f0, M11.r1, uf_eq, up_ne, up_eq, Int.add_sub_cancel, and_self]
theorem MO.person (M : MO h m v se g gl) (R : RI (g 1)) {f t q w : Int} (n : g 1 8 < 8) (s0 : 0 ≤ f) (s1 : f ≤ t) (y1 : t ≤ 9999) (q0 : 0 ≤ q) (q1 : q ≤ 999) (w0 : 0 ≤ w) (w1 : w ≤ 519) : ∃ h', f9_person h m (I f) (I t) (I q) (I w) = some (I (g 1 8), h') ∧ MO h' m v se (uf g 1 (rPerson (g 1) f t q w)) gl ∧ Fr m (m + 24) h h' := by
  have b := R.1
  have pw := pow10 R
  obtain ⟨h1, e1, M1, F1⟩ := M.w1 (i := 5030 + 5 * g 1 8) (f) (by omega) (by omega)
  obtain ⟨h2, e2, M2, F2⟩ := M1.w1 (i := 5030 + 5 * g 1 8 + 1) (t) (by omega) (by omega)
  rw [uf_eq, uf_uf] at M2
  obtain ⟨h3, e3, M3, F3⟩ := M2.w1 (i := 5030 + 5 * g 1 8 + 2) (q) (by omega) (by omega)
  rw [uf_eq, uf_uf] at M3
  obtain ⟨h4, e4, M4, F4⟩ := M3.w1 (i := 5030 + 5 * g 1 8 + 3) (w) (by omega) (by omega)
  rw [uf_eq, uf_uf] at M4
  obtain ⟨h5, e5, M5, F5⟩ := M4.w1 (i := 5030 + 5 * g 1 8 + 4) (-1) (by omega) (by omega)
  rw [uf_eq, uf_uf] at M5
  obtain ⟨h6, e6, M6, F6⟩ := M5.w1 (i := 8) (g 1 8 + 1) (by omega) (by omega)
  rw [uf_eq, uf_uf] at M6
  refine ⟨h6, ?_, M6, (((((F1.trans F2).trans F3).trans F4).trans F5).trans F6)⟩
  simp (disch := omega) only [f9_person, M.o, M.f0, M.r1, isDay_of, isWeek_of, Option.bind_some, I_lit, I_neg, I_add, I_sub, I_mul, I_lt, I_le, I_eq, if_pos, if_neg, if_true, if_false, decide_eq_true_eq, J_lit, J_neg, J_add, J_sub, J_mul, J_lt, J_le, J_eq, I_toJ, in_of, e1, M1.f0, M1.r1, e2, M2.f0, M2.r1, e3, M3.f0, M3.r1, e4, M4.f0, M4.r1, e5, M5.f0, M5.r1, e6, M6.f0, M6.r1, uf_eq, up_ne, up_eq, Int.add_sub_cancel, and_self]
theorem MO.keep (M : MO h m v se g gl) (R : RI (g 1)) {p t : Int} (p0 : 0 ≤ p) (p1 : p < g 1 4) (t0 : 0 ≤ t) (t1 : t ≤ 519) : ∃ h', f9_keep h m (I p) (I t) = some (I (g 1 (1330 + 10 * p + 9)), h') ∧ MO h' m v se (uf g 1 (up (g 1) (1330 + 10 * p + 9) t)) gl ∧ Fr m (m + 24) h h' := by
  have b := R.1
  have pw := pow10 R
  obtain ⟨h1, e1, M1, F1⟩ := M.w1 (i := 1330 + 10 * p + 9) (t) (by omega) (by omega)
  refine ⟨h1, ?_, M1, F1⟩
  simp (disch := omega) only [f9_keep, M.o, M.f0, M.r1, M.isPiece R, isWeek_of, M.cell R, Option.bind_some, I_lit, I_neg, I_add, I_sub, I_mul, I_lt, I_le, I_eq, if_pos, if_neg, if_true, if_false, decide_eq_true_eq, J_lit, J_neg, J_add, J_sub, J_mul, J_lt, J_le, J_eq, I_toJ, in_of, e1, M1.f0, M1.r1, uf_eq, up_ne, up_eq, Int.add_sub_cancel, and_self]
theorem MO.ask (M : MO h m v se g gl) (R : RI (g 1)) {p : Int} (p0 : 0 ≤ p) (p1 : p < g 1 8) (q : g 1 (5030 + 5 * p + 4) = -1) : ∃ h', f9_ask h m (I p) = some (true, h') ∧ MO h' m v se (uf g 1 (up (g 1) (5030 + 5 * p + 4) (g 1 0))) gl ∧ Fr m (m + 24) h h' := by
  have b := R.1
  have pw := pow10 R
  obtain ⟨h1, e1, M1, F1⟩ := M.w1 (i := 5030 + 5 * p + 4) (g 1 0) (by omega) (by omega)
  refine ⟨h1, ?_, M1, F1⟩
  simp (disch := omega) only [f9_ask, M.o, M.f0, M.r1, M.isPerson R, q, Option.bind_some, I_lit, I_neg, I_add, I_sub, I_mul, I_lt, I_le, I_eq, if_pos, if_neg, if_true, if_false, decide_eq_true_eq, J_lit, J_neg, J_add, J_sub, J_mul, J_lt, J_le, J_eq, I_toJ, in_of, e1, M1.f0, M1.r1, uf_eq, up_ne, up_eq, Int.add_sub_cancel, and_self]
theorem MO.adds (M : MO h m v se g gl) (R : RI (g 1)) {p d l : Int} (n : g 1 5 < 400) : ∃ h', f9_adds h m (I p) (I d) (I l) = some h' ∧ MO h' m v se (uf g 1 (rPage (g 1) p d l)) gl ∧ Fr m (m + 24) h h' := by
  have b := R.1
  obtain ⟨h1, e1, M1, F1⟩ := M.w1 (i := 2230 + 3 * g 1 5) p (by omega) (by omega)
  obtain ⟨h2, e2, M2, F2⟩ := M1.w1 (i := 2230 + 3 * g 1 5 + 1) d (by omega) (by omega)
  rw [uf_eq, uf_uf] at M2
  obtain ⟨h3, e3, M3, F3⟩ := M2.w1 (i := 2230 + 3 * g 1 5 + 2) l (by omega) (by omega)
  rw [uf_eq, uf_uf] at M3
  obtain ⟨h4, e4, M4, F4⟩ := M3.w1 (i := 5) (g 1 5 + 1) (by omega) (by omega)
  rw [uf_eq, uf_uf] at M4
  refine ⟨h4, ?_, M4, ((F1.trans F2).trans F3).trans F4⟩
  simp (disch := omega) only [f9_adds, M.o, M.f0, M.r1, Option.bind_some, I_lit, I_neg, I_add, I_sub, I_mul, I_lt, I_le, I_eq, if_pos, if_neg, if_true, if_false, decide_eq_true_eq, J_lit, J_neg, J_add, J_sub, J_mul, J_lt, J_le, J_eq, I_toJ, in_of, e1, M1.f0, e2, M2.f0, e3, M3.f0, M3.r1, e4, uf_eq, up_ne, up_eq]
theorem MO.page (M : MO h m v se g gl) (R : RI (g 1)) {p d l : Int} (n : g 1 5 < 400) (s0 : 0 ≤ p) (s1 : p < g 1 4) (y0 : 0 ≤ d) (y1 : d ≤ 9999) (q0 : 0 ≤ l) (q1 : l ≤ 99) (hno : hd (g 1) p d = false) : ∃ h', f9_page h m (I p) (I d) (I l) = some (I (g 1 5 + 1), h') ∧ MO h' m v se (uf g 1 (rPage (g 1) p d l)) gl ∧ Fr m (m + 24) h h' := by
  have b := R.1
  obtain ⟨h1, e1, M1, F1⟩ := M.adds R (p := p) (d := d) (l := l) n
  refine ⟨h1, ?_, M1, F1⟩
  simp (disch := omega) only [f9_page, M.o, M.f0, M.r1, M.isPiece R, isDay_of, M.hasDay R, hno, Option.bind_some, I_lit, I_neg, I_add, I_sub, I_mul, I_lt, I_le, I_eq, if_pos, if_neg, if_true, if_false, decide_eq_true_eq, J_lit, J_neg, J_add, J_sub, J_mul, J_lt, J_le, J_eq, I_toJ, in_of, e1, M1.f0, M1.r1, uf_eq, rPage, up_eq, and_self, Bool.false_eq_true]
theorem MO.test (M : MO h m v se g gl) (R : RI (g 1)) {p s : Int} (n : g 1 7 < 200) (s0 : 0 ≤ p) (s1 : p < g 1 4) (y0 : 0 ≤ s) (y1 : s < g 1 1) (hb : bi (g 1 (1330 + 10 * p + 6)) s = 1) (hc : g 1 (1330 + 10 * p + 9) ≤ g 1 0) : ∃ h', f9_test h m (I p) (I s) = some (I (bi (yo (rTest (g 1) p s) p) s), h') ∧ MO h' m v se (uf g 1 (rTest (g 1) p s)) gl ∧ Fr m (m + 24) h h' := by
  have b := R.1
  have st := st_rng R s0 s1
  have x9 := (pi_rng R s0 s1).2.2.2.2.2
  obtain ⟨h1, e1, M1, F1⟩ := M.w1 (i := 4430 + 3 * g 1 7) p (by omega) (by omega)
  obtain ⟨h2, e2, M2, F2⟩ := M1.w1 (i := 4430 + 3 * g 1 7 + 1) s (by omega) (by omega)
  rw [uf_eq, uf_uf] at M2
  obtain ⟨h3, e3, M3, F3⟩ := M2.w1 (i := 4430 + 3 * g 1 7 + 2) (g 1 0) (by omega) (by omega)
  rw [uf_eq, uf_uf] at M3
  obtain ⟨h4, e4, M4, F4⟩ := M3.w1 (i := 7) (g 1 7 + 1) (by omega) (by omega)
  rw [uf_eq, uf_uf] at M4
  have R4 : RI (rTest (g 1) p s) := RI_test R n s0 s1 y0 y1
  have R4' : RI (uf g 1 (rTest (g 1) p s) 1) := by rw [uf_eq]; exact R4
  have z4 : rTest (g 1) p s 4 = g 1 4 := by simp (disch := omega) only [rTest, up_ne]
  have YY : f9_young h4 m (I p) = some (I (yo (rTest (g 1) p s) p)) := by
    have := M4.young R4' (p := p) s0 (by rw [uf_eq]; show p < rTest (g 1) p s 4; rw [z4]; exact s1)
    rw [uf_eq] at this
    exact this
  have yr := yo_rng R4 p
  refine ⟨h4, ?_, M4, ((F1.trans F2).trans F3).trans F4⟩
  have x2 := M2.r1 (i := 0) (by omega) (by omega)
  have x3 := M3.r1 (i := 7) (by omega) (by omega)
  simp (disch := omega) only [uf_eq, up_ne] at x2 x3
  simp only [f9_test, M.o, M.f0, Option.bind_some, I_lit]
  rw [M.r1 (by omega) (by omega), Option.bind_some, if_neg (by rw [I_eq (by omega) (by omega) (by omega) (by omega)]; omega), M.isPiece R (by omega) (by omega), Option.bind_some, if_pos (decide_eq_true ⟨s0, s1⟩), M.r1 (by omega) (by omega), Option.bind_some, I_sub, I_toJ (by omega) (by omega), I_toJ (by omega) (by omega), J_lit, in_of (by omega) (by omega) (by omega) (by omega) (by omega) (by omega), Option.bind_some, if_pos (decide_eq_true ⟨y0, by omega⟩), M.cell R s0 s1 (by omega) (by omega), Option.bind_some, I_bit (by omega) (by omega) y0 (by omega), hb, if_neg (by rw [I_eq (by omega) (by omega) (by omega) (by omega)]; omega), M.isClose R s0 s1, Option.bind_some, if_neg (by simpa using hc)]
  simp (disch := omega) only [M.r1, Option.bind_some, I_mul, I_add, e1, M1.f0, e2, M2.f0, x2, e3, M3.f0, x3, e4, YY, I_bit]
theorem MO.clockN (M : MO h m v se g gl) (R : RI (g 1)) {w : Int} (w0 : -2147483648 ≤ w) (w1 : w < 2147483648) (hn : ¬ (g 1 0 ≤ w ∧ w ≤ 519)) : f9_clock h m (I w) = some (false, h) := by
  have bb := R.1
  have pw := pow10 R
  simp (disch := omega) only [f9_clock, M.o, M.f0, M.r1, Option.bind_some, I_lit, I_neg, I_add, I_sub, I_mul, I_lt, I_le, I_eq, if_pos, if_neg, if_true, if_false, decide_eq_true_eq, J_lit, J_neg, J_add, J_sub, J_mul, J_lt, J_le, J_eq, I_toJ, in_of]
theorem MO.stuffN (M : MO h m v se g gl) (R : RI (g 1)) {y co : Int} (y0 : -2147483648 ≤ y) (y1 : y < 2147483648) (co0 : -2147483648 ≤ co) (co1 : co < 2147483648) (hn : ¬ (g 1 1 < 10 ∧ (1800 ≤ y ∧ y ≤ 1999) ∧ 1 ≤ co ∧ co ≤ 99)) : f9_stuff h m (I y) (I co) = some (I (-1), h) := by
  have bb := R.1
  have pw := pow10 R
  simp (disch := omega) only [f9_stuff, M.o, M.f0, M.r1, Option.bind_some, I_lit, I_neg, I_add, I_sub, I_mul, I_lt, I_le, I_eq, if_pos, if_neg, if_true, if_false, decide_eq_true_eq, J_lit, J_neg, J_add, J_sub, J_mul, J_lt, J_le, J_eq, I_toJ, in_of]
  by_cases c0 : g 1 1 = 10
  · rw [if_pos c0]
  · rw [if_neg c0]
    by_cases c1 : 1800 ≤ y ∧ y ≤ 1999
    · rw [if_pos c1]
    · rw [if_neg c1]
theorem MO.truthN (M : MO h m v se g gl) (R : RI (g 1)) {d l : Int} (d0 : -2147483648 ≤ d) (d1 : d < 2147483648) (l0 : -2147483648 ≤ l) (l1 : l < 2147483648) (hn : ¬ (g 1 2 < 200 ∧ (0 ≤ d ∧ d ≤ 9999) ∧ (0 ≤ l ∧ l ≤ 99) ∧ Tl (g 1) d = -1)) : f9_truth h m (I d) (I l) = some (I (-1), h) := by
  have bb := R.1
  have pw := pow10 R
  have t := Tl_rng R d
  simp (disch := omega) only [f9_truth, M.o, M.f0, M.r1, isDay_of, M.truthOf R, Option.bind_some, I_lit, I_neg, I_add, I_sub, I_mul, I_lt, I_le, I_eq, if_pos, if_neg, if_true, if_false, decide_eq_true_eq, J_lit, J_neg, J_add, J_sub, J_mul, J_lt, J_le, J_eq, I_toJ, in_of]
  by_cases c0 : g 1 2 = 200
  · rw [if_pos c0]
  · rw [if_neg c0]
    by_cases c1 : 0 ≤ d ∧ d ≤ 9999
    · rw [if_pos c1]
      by_cases c2 : 0 ≤ l ∧ l ≤ 99
      · rw [if_pos c2]
      · rw [if_neg c2]
    · rw [if_neg c1]
theorem MO.factN (M : MO h m v se g gl) (R : RI (g 1)) {s d l : Int} (s0 : -2147483648 ≤ s) (s1 : s < 2147483648) (d0 : -2147483648 ≤ d) (d1 : d < 2147483648) (l0 : -2147483648 ≤ l) (l1 : l < 2147483648) (hn : ¬ (g 1 3 < 300 ∧ (0 ≤ s ∧ s ≤ 5) ∧ (0 ≤ d ∧ d ≤ 9999) ∧ (0 ≤ l ∧ l ≤ 99) ∧ Fl (g 1) s d = -1)) : f9_fact h m (I s) (I d) (I l) = some (I (-1), h) := by
  have bb := R.1
  have pw := pow10 R
  have t := Fl_rng R s d
  simp (disch := omega) only [f9_fact, M.o, M.f0, M.r1, isDay_of, M.factOf R, Option.bind_some, I_lit, I_neg, I_add, I_sub, I_mul, I_lt, I_le, I_eq, if_pos, if_neg, if_true, if_false, decide_eq_true_eq, J_lit, J_neg, J_add, J_sub, J_mul, J_lt, J_le, J_eq, I_toJ, in_of]
  by_cases c0 : g 1 3 = 300
  · rw [if_pos c0]
  · rw [if_neg c0]
    by_cases cs : 0 ≤ s ∧ s ≤ 5
    · rw [if_pos cs]
      by_cases c1 : 0 ≤ d ∧ d ≤ 9999
      · rw [if_pos c1]
        by_cases c2 : 0 ≤ l ∧ l ≤ 99
        · rw [if_pos c2]
        · rw [if_neg c2]
      · rw [if_neg c1]
    · rw [if_neg cs]
theorem MO.pageN (M : MO h m v se g gl) (R : RI (g 1)) {s d l : Int} (s0 : -2147483648 ≤ s) (s1 : s < 2147483648) (d0 : -2147483648 ≤ d) (d1 : d < 2147483648) (l0 : -2147483648 ≤ l) (l1 : l < 2147483648) (hn : ¬ (g 1 5 < 400 ∧ (0 ≤ s ∧ s < g 1 4) ∧ (0 ≤ d ∧ d ≤ 9999) ∧ (0 ≤ l ∧ l ≤ 99) ∧ hd (g 1) s d = false)) : f9_page h m (I s) (I d) (I l) = some (I (-1), h) := by
  have bb := R.1
  have pw := pow10 R
  simp (disch := omega) only [f9_page, M.o, M.f0, M.r1, M.isPiece R, isDay_of, M.hasDay R, Option.bind_some, I_lit, I_neg, I_add, I_sub, I_mul, I_lt, I_le, I_eq, if_pos, if_neg, if_true, if_false, decide_eq_true_eq, J_lit, J_neg, J_add, J_sub, J_mul, J_lt, J_le, J_eq, I_toJ, in_of]
  by_cases c0 : g 1 5 = 400
  · rw [if_pos c0]
  · rw [if_neg c0]
    by_cases cs : 0 ≤ s ∧ s < g 1 4
    · rw [if_pos cs]
      by_cases c1 : 0 ≤ d ∧ d ≤ 9999
      · rw [if_pos c1]
        by_cases c2 : 0 ≤ l ∧ l ≤ 99
        · rw [if_pos c2]
          cases c3 : hd (g 1) s d
          · exact absurd ⟨by omega, cs, c1, c2, c3⟩ hn
          · rw [if_pos rfl]
        · rw [if_neg c2]
      · rw [if_neg c1]
    · rw [if_neg cs]
theorem MO.personN (M : MO h m v se g gl) (R : RI (g 1)) {f t q w : Int} (f0 : -2147483648 ≤ f) (f1 : f < 2147483648) (t0 : -2147483648 ≤ t) (t1 : t < 2147483648) (q0 : -2147483648 ≤ q) (q1 : q < 2147483648) (w0 : -2147483648 ≤ w) (w1 : w < 2147483648) (hn : ¬ (g 1 8 < 8 ∧ (0 ≤ f ∧ f ≤ 9999) ∧ (f ≤ t ∧ t ≤ 9999) ∧ (0 ≤ q ∧ q ≤ 999) ∧ 0 ≤ w ∧ w ≤ 519)) : f9_person h m (I f) (I t) (I q) (I w) = some (I (-1), h) := by
  have bb := R.1
  have pw := pow10 R
  simp only [f9_person, M.o, M.f0, Option.bind_some, I_lit, J_lit]
  rw [M.r1 (by omega) (by omega), Option.bind_some]
  by_cases c0 : g 1 8 = 8
  · rw [if_pos (by rw [c0]), I_neg]
  · rw [if_neg (by rw [I_eq (by omega) (by omega) (by omega) (by omega)]; exact c0), isDay_of f0 f1, Option.bind_some]
    by_cases c1 : 0 ≤ f ∧ f ≤ 9999
    · rw [if_pos (decide_eq_true c1), isDay_of t0 t1, Option.bind_some]
      by_cases c2 : 0 ≤ t ∧ t ≤ 9999
      · rw [if_pos (decide_eq_true c2)]
        by_cases c3 : t < f
        · rw [if_pos (by rw [I_lt t0 t1 f0 f1]; exact c3), I_neg]
        · rw [if_neg (by rw [I_lt t0 t1 f0 f1]; exact c3), in_I q0 q1 (by omega) (by omega) (by omega) (by omega), Option.bind_some]
          by_cases c4 : 0 ≤ q ∧ q ≤ 999
          · rw [if_pos (decide_eq_true c4), isWeek_of w0 w1, Option.bind_some]
            by_cases c5 : 0 ≤ w ∧ w ≤ 519
            · exact absurd ⟨by omega, c1, ⟨by omega, c2.2⟩, c4, c5⟩ hn
            · rw [if_neg (by simpa using c5), I_neg]
          · rw [if_neg (by simpa using c4), I_neg]
      · rw [if_neg (by simpa using c2), I_neg]
    · rw [if_neg (by simpa using c1), I_neg]
theorem MO.keepN (M : MO h m v se g gl) (R : RI (g 1)) {p t : Int} (p0 : -2147483648 ≤ p) (p1 : p < 2147483648) (t0 : -2147483648 ≤ t) (t1 : t < 2147483648) (hn : ¬ ((0 ≤ p ∧ p < g 1 4) ∧ 0 ≤ t ∧ t ≤ 519)) : f9_keep h m (I p) (I t) = some (I (-1), h) := by
  have bb := R.1
  have pw := pow10 R
  simp (disch := omega) only [f9_keep, M.o, M.isPiece R, isWeek_of, Option.bind_some, I_lit, I_neg, I_add, I_sub, I_mul, I_lt, I_le, I_eq, if_pos, if_neg, if_true, if_false, decide_eq_true_eq, J_lit, J_neg, J_add, J_sub, J_mul, J_lt, J_le, J_eq, I_toJ, in_of]
  by_cases a : 0 ≤ p ∧ p < g 1 4
  · rw [if_pos a]
  · rw [if_neg a]
theorem MO.askN (M : MO h m v se g gl) (R : RI (g 1)) {p : Int} (p0 : -2147483648 ≤ p) (p1 : p < 2147483648) (hn : ¬ ((0 ≤ p ∧ p < g 1 8) ∧ g 1 (5030 + 5 * p + 4) = -1)) : f9_ask h m (I p) = some (false, h) := by
  have bb := R.1
  have pw := pow10 R
  simp only [f9_ask, M.o, M.f0, Option.bind_some, I_lit]
  rw [M.isPerson R p0 p1, Option.bind_some]
  by_cases a : 0 ≤ p ∧ p < g 1 8
  · rw [if_pos (decide_eq_true a)]
    have x := pe_rng R a.1 a.2
    simp (disch := omega) only [M.r1, Option.bind_some, I_lit, I_neg, I_add, I_sub, I_mul, I_lt, I_le, I_eq, if_pos, if_neg, if_true, if_false, decide_eq_true_eq, J_lit, J_neg, J_add, J_sub, J_mul, J_lt, J_le, J_eq, I_toJ, in_of]
  · rw [if_neg (by simpa using a)]
theorem MO.pieceN (M : MO h m v se g gl) (R : RI (g 1)) {so a_ b_ d_ e_ f_ st pr : Int} (so0 : -2147483648 ≤ so) (so1 : so < 2147483648) (a_0 : -2147483648 ≤ a_) (a_1 : a_ < 2147483648) (b_0 : -2147483648 ≤ b_) (b_1 : b_ < 2147483648) (d_0 : -2147483648 ≤ d_) (d_1 : d_ < 2147483648) (e_0 : -2147483648 ≤ e_) (e_1 : e_ < 2147483648) (f_0 : -2147483648 ≤ f_) (f_1 : f_ < 2147483648) (st0 : -2147483648 ≤ st) (st1 : st < 2147483648) (pr0 : -2147483648 ≤ pr) (pr1 : pr < 2147483648) (hn : ¬ (g 1 4 < 90 ∧ (0 ≤ so ∧ so ≤ 2) ∧ ((0 ≤ a_ ∧ a_ ≤ 99) ∧ (0 ≤ b_ ∧ b_ ≤ 99) ∧ (0 ≤ d_ ∧ d_ ≤ 99) ∧ (0 ≤ e_ ∧ e_ ≤ 99) ∧ 0 ≤ f_ ∧ f_ ≤ 99) ∧ (0 ≤ st ∧ st < 2 ^ (g 1 1).toNat) ∧ 0 ≤ pr ∧ pr ≤ 9999)) : f9_piece h m (I so) (I a_) (I b_) (I d_) (I e_) (I f_) (I st) (I pr) = some (I (-1), h) := by
  have bb := R.1
  have pw := pow10 R
  simp only [f9_piece, M.o, M.f0, Option.bind_some, I_lit, J_lit]
  rw [M.r1 (by omega) (by omega), Option.bind_some]
  by_cases c0 : g 1 4 = 90
  · rw [if_pos (by rw [c0]), I_neg]
  · rw [if_neg (by rw [I_eq (by omega) (by omega) (by omega) (by omega)]; exact c0)]
    rw [in_I so0 so1 (by omega) (by omega) (by omega) (by omega), Option.bind_some]
    by_cases x0 : 0 ≤ so ∧ so ≤ 2
    · rw [if_pos (decide_eq_true x0)]
      rw [in_I a_0 a_1 (by omega) (by omega) (by omega) (by omega), Option.bind_some]
      by_cases x1 : 0 ≤ a_ ∧ a_ ≤ 99
      · rw [if_pos (decide_eq_true x1)]
        rw [in_I b_0 b_1 (by omega) (by omega) (by omega) (by omega), Option.bind_some]
        by_cases x2 : 0 ≤ b_ ∧ b_ ≤ 99
        · rw [if_pos (decide_eq_true x2)]
          rw [in_I d_0 d_1 (by omega) (by omega) (by omega) (by omega), Option.bind_some]
          by_cases x3 : 0 ≤ d_ ∧ d_ ≤ 99
          · rw [if_pos (decide_eq_true x3)]
            rw [in_I e_0 e_1 (by omega) (by omega) (by omega) (by omega), Option.bind_some]
            by_cases x4 : 0 ≤ e_ ∧ e_ ≤ 99
            · rw [if_pos (decide_eq_true x4)]
              rw [in_I f_0 f_1 (by omega) (by omega) (by omega) (by omega), Option.bind_some]
              by_cases x5 : 0 ≤ f_ ∧ f_ ≤ 99
              · rw [if_pos (decide_eq_true x5)]
                rw [M.r1 (by omega) (by omega), Option.bind_some, I_shl1 (by omega) (by omega), I_sub, I_toJ (a := 2 ^ (g 1 1).toNat - 1) (by omega) (by omega), in_I st0 st1 (by omega) (by omega) (by omega) (by omega), Option.bind_some]
                by_cases x6 : 0 ≤ st ∧ st ≤ 2 ^ (g 1 1).toNat - 1
                · rw [if_pos (decide_eq_true x6), in_I pr0 pr1 (by omega) (by omega) (by omega) (by omega), Option.bind_some]
                  by_cases x7 : 0 ≤ pr ∧ pr ≤ 9999
                  · exact absurd ⟨by omega, x0, ⟨x1, x2, x3, x4, x5⟩, ⟨x6.1, by omega⟩, x7⟩ hn
                  · rw [if_neg (by simpa using x7), I_neg]
                · rw [if_neg (by simpa using x6), I_neg]
              · rw [if_neg (by simpa using x5), I_neg]
            · rw [if_neg (by simpa using x4), I_neg]
          · rw [if_neg (by simpa using x3), I_neg]
        · rw [if_neg (by simpa using x2), I_neg]
      · rw [if_neg (by simpa using x1), I_neg]
    · rw [if_neg (by simpa using x0), I_neg]
theorem MO.testN (M : MO h m v se g gl) (R : RI (g 1)) {p s : Int} (p0 : -2147483648 ≤ p) (p1 : p < 2147483648) (s0 : -2147483648 ≤ s) (s1 : s < 2147483648) (hn : ¬ (g 1 7 < 200 ∧ (0 ≤ p ∧ p < g 1 4) ∧ (0 ≤ s ∧ s < g 1 1) ∧ bi (g 1 (1330 + 10 * p + 6)) s = 1 ∧ g 1 (1330 + 10 * p + 9) ≤ g 1 0)) : f9_test h m (I p) (I s) = some (I (-1), h) := by
  have bb := R.1
  have pw := pow10 R
  simp only [f9_test, M.o, M.f0, Option.bind_some, I_lit]
  rw [M.r1 (by omega) (by omega), Option.bind_some]
  by_cases c0 : g 1 7 = 200
  · rw [if_pos (by rw [c0]), I_neg]
  · rw [if_neg (by rw [I_eq (by omega) (by omega) (by omega) (by omega)]; omega), M.isPiece R p0 p1, Option.bind_some]
    by_cases a : 0 ≤ p ∧ p < g 1 4
    · rw [if_pos (decide_eq_true a), M.r1 (by omega) (by omega), Option.bind_some, I_sub, I_toJ (by omega) (by omega), I_toJ (by omega) (by omega), J_lit, in_of (by omega) (by omega) (by omega) (by omega) (by omega) (by omega), Option.bind_some]
      by_cases b : 0 ≤ s ∧ s ≤ g 1 1 - 1
      · have st := st_rng R a.1 a.2
        rw [if_pos (decide_eq_true b), M.cell R a.1 a.2 (by omega) (by omega), Option.bind_some, I_bit (by omega) (by omega) b.1 (by omega)]
        have bt := bi_rng (g 1 (1330 + 10 * p + 6)) s
        by_cases d : bi (g 1 (1330 + 10 * p + 6)) s = 0
        · rw [if_pos (by rw [d]), I_neg]
        · rw [if_neg (by rw [I_eq (by omega) (by omega) (by omega) (by omega)]; omega), M.isClose R a.1 a.2, Option.bind_some]
          by_cases e : g 1 0 < g 1 (1330 + 10 * p + 9)
          · rw [if_pos (decide_eq_true e), I_neg]
          · exact absurd ⟨by omega, a, ⟨b.1, by omega⟩, by omega, by omega⟩ hn
      · rw [if_neg (by simpa using b), I_neg]
    · rw [if_neg (by simpa using a), I_neg]
end
