section
variable {h h' : AH} {x : Nat} {r : Int → Int} {c : Nat → Int → Int} {nr nm : Int}
theorem bI_I (b : Bool) : bI b = I (if b = true then 1 else 0) := by cases b <;> rfl
theorem XO.stuffN (O : XO h x nr nm) (W : WD h (x + 1) r c) {y co : Int} (y0 : -2147483648 ≤ y) (y1 : y < 2147483648) (q0 : -2147483648 ≤ co) (q1 : co < 2147483648) (hn : ¬ (r 1 < 10 ∧ (1800 ≤ y ∧ y ≤ 1999) ∧ 1 ≤ co ∧ co ≤ 99)) : f8_stuff h x (I y) (I co) = some (I (-1), h) := by
  simp (disch := omega) only [f8_stuff, O.o, isFrom_of, Option.bind_some, I_lit, I_neg, I_add, I_sub, I_mul, I_lt, I_le, I_eq, if_pos, if_neg, if_true, if_false, decide_eq_true_eq]
  by_cases a : 1800 ≤ y ∧ y ≤ 1999
  · rw [if_pos a]
    by_cases b : 1 ≤ co ∧ co ≤ 99
    · rw [if_pos b]
      simp (disch := omega) only [O.f0, W.f1, W.st.addF (by omega), W.st.putN, Option.bind_some, I_lit, I_neg, I_add, I_sub, I_mul, I_lt, I_le, I_eq, if_pos, if_neg, if_true, if_false, decide_eq_true_eq]
    · rw [if_neg b]
  · rw [if_neg a]
theorem XO.truthN (O : XO h x nr nm) (W : WD h (x + 1) r c) {y co : Int} (y0 : -2147483648 ≤ y) (y1 : y < 2147483648) (q0 : -2147483648 ≤ co) (q1 : co < 2147483648) (hn : ¬ (r 2 < 200 ∧ (0 ≤ y ∧ y ≤ 9999) ∧ (0 ≤ co ∧ co ≤ 99) ∧ Tl r y = -1)) : f8_truth h x (I y) (I co) = some (I (-1), h) := by
  simp (disch := omega) only [f8_truth, O.o, isFrom_of, Option.bind_some, I_lit, I_neg, I_add, I_sub, I_mul, I_lt, I_le, I_eq, if_pos, if_neg, if_true, if_false, decide_eq_true_eq]
  by_cases a : 0 ≤ y ∧ y ≤ 9999
  · rw [if_pos a]
    by_cases b : 0 ≤ co ∧ co ≤ 99
    · rw [if_pos b]
      have k : 200 ≤ r 2 ∨ kh (c 1) (r 2) y = true := by
        rw [W.tr.khp y, W.cr.2.2.1 y, decide_eq_true_eq]; omega
      simp (disch := omega) only [O.f0, W.f2, W.tr.insF (by omega) (by omega) k, Option.bind_some, I_lit, I_neg, I_add, I_sub, I_mul, I_lt, I_le, I_eq, if_pos, if_neg, if_true, if_false, decide_eq_true_eq]
    · rw [if_neg b]
  · rw [if_neg a]
theorem XO.factN (O : XO h x nr nm) (W : WD h (x + 1) r c) {s y co : Int} (s0 : -2147483648 ≤ s) (s1 : s < 2147483648) (y0 : -2147483648 ≤ y) (y1 : y < 2147483648) (q0 : -2147483648 ≤ co) (q1 : co < 2147483648) (hn : ¬ (r 3 < 300 ∧ (0 ≤ s ∧ s ≤ 5) ∧ (0 ≤ y ∧ y ≤ 9999) ∧ (0 ≤ co ∧ co ≤ 99) ∧ Fl r s y = -1)) : f8_fact h x (I s) (I y) (I co) = some (I (-1), h) := by
  simp (disch := omega) only [f8_fact, O.o, isFrom_of, Option.bind_some, I_lit, I_neg, I_add, I_sub, I_mul, I_lt, I_le, I_eq, if_pos, if_neg, if_true, if_false, decide_eq_true_eq]
  by_cases z : 0 ≤ s ∧ s ≤ 5
  · rw [if_pos z]
    by_cases a : 0 ≤ y ∧ y ≤ 9999
    · rw [if_pos a]
      by_cases b : 0 ≤ co ∧ co ≤ 99
      · rw [if_pos b]
        have k : 300 ≤ r 3 ∨ kh (c 3) (r 3) (s * 10000 + y) = true := by
          rw [W.fa.khp, W.cr.2.2.2.1 s y z.1 z.2 a.1 a.2, decide_eq_true_eq]; omega
        simp (disch := omega) only [O.f0, W.f3, W.fa.insF (key := s * 10000 + y) (by omega) (by omega) k, Option.bind_some, I_lit, I_neg, I_add, I_sub, I_mul, I_lt, I_le, I_eq, if_pos, if_neg, if_true, if_false, decide_eq_true_eq]
      · rw [if_neg b]
    · rw [if_neg a]
  · rw [if_neg z]
theorem XO.pageN (O : XO h x nr nm) (W : WD h (x + 1) r c) {s y co : Int} (s0 : -2147483648 ≤ s) (s1 : s < 2147483648) (y0 : -2147483648 ≤ y) (y1 : y < 2147483648) (q0 : -2147483648 ≤ co) (q1 : co < 2147483648) (hn : ¬ (r 5 < 400 ∧ (0 ≤ s ∧ s < r 4) ∧ (0 ≤ y ∧ y ≤ 9999) ∧ (0 ≤ co ∧ co ≤ 99) ∧ hd r s y = false)) : f8_page h x (I s) (I y) (I co) = some (I (-1), h) := by
  have bb := W.ri.1
  simp (disch := omega) only [f8_page, O.o, O.f0, W.f4, W.pi.has, isFrom_of, Option.bind_some, I_lit, I_neg, I_add, I_sub, I_mul, I_lt, I_le, I_eq, if_pos, if_neg, if_true, if_false, decide_eq_true_eq]
  by_cases z : 0 ≤ s ∧ s < r 4
  · rw [if_pos z]
    by_cases a : 0 ≤ y ∧ y ≤ 9999
    · rw [if_pos a]
      by_cases b : 0 ≤ co ∧ co ≤ 99
      · rw [if_pos b]
        have k : 400 ≤ r 5 ∨ kh (c 6) (r 5) (s * 10000 + y) = true := by
          rw [W.hasD z.1 a.1 a.2]
          by_cases e : 400 ≤ r 5
          · exact .inl e
          · right
            cases e2 : hd r s y
            · exact absurd ⟨by omega, z, a, b, e2⟩ hn
            · rfl
        simp (disch := omega) only [W.f5, W.pg.insF (key := s * 10000 + y) (by omega) (by omega) k, Option.bind_some, I_lit, I_neg, I_add, I_sub, I_mul, I_lt, I_le, I_eq, if_pos, if_neg, if_true, if_false, decide_eq_true_eq]
      · rw [if_neg b]
    · rw [if_neg a]
  · rw [if_neg z]
theorem XO.personN (O : XO h x nr nm) (W : WD h (x + 1) r c) {f t q w : Int} (f0 : -2147483648 ≤ f) (f1 : f < 2147483648) (t0 : -2147483648 ≤ t) (t1 : t < 2147483648) (q0 : -2147483648 ≤ q) (q1 : q < 2147483648) (w0 : -2147483648 ≤ w) (w1 : w < 2147483648) (hn : ¬ (r 8 < 8 ∧ (0 ≤ f ∧ f ≤ 9999) ∧ (f ≤ t ∧ t ≤ 9999) ∧ (0 ≤ q ∧ q ≤ 999) ∧ 0 ≤ w ∧ w ≤ 519)) : f8_person h x (I f) (I t) (I q) (I w) = some (I (-1), h) := by
  simp (disch := omega) only [f8_person, O.o, isFrom_of, Option.bind_some, I_lit, I_neg, I_add, I_sub, I_mul, I_lt, I_le, I_eq, if_pos, if_neg, if_true, if_false, decide_eq_true_eq]
  by_cases a : 0 ≤ f ∧ f ≤ 9999
  · rw [if_pos a]
    by_cases b : f ≤ t ∧ t ≤ 9999
    · rw [if_pos b]
      by_cases d : 0 ≤ q ∧ q ≤ 999
      · rw [if_pos d]
        by_cases e : 0 ≤ w ∧ w ≤ 519
        · rw [if_pos e]
          simp (disch := omega) only [O.f0, W.f8, W.pe.addF (by omega), W.pe.putN, Option.bind_some, I_lit, I_neg, I_add, I_sub, I_mul, I_lt, I_le, I_eq, if_pos, if_neg, if_true, if_false, decide_eq_true_eq]
        · rw [if_neg e]
      · rw [if_neg d]
    · rw [if_neg b]
  · rw [if_neg a]
theorem isHand_of {h : AH} {a b c d e : Int} (a0 : -2147483648 ≤ a) (a1 : a < 2147483648) (b0 : -2147483648 ≤ b) (b1 : b < 2147483648) (c0 : -2147483648 ≤ c) (c1 : c < 2147483648) (d0 : -2147483648 ≤ d) (d1 : d < 2147483648) (e0 : -2147483648 ≤ e) (e1 : e < 2147483648) : f8_isHand h (I a) (I b) (I c) (I d) (I e) = some (decide ((0 ≤ a ∧ a ≤ 99) ∧ (0 ≤ b ∧ b ≤ 99) ∧ (0 ≤ c ∧ c ≤ 99) ∧ (0 ≤ d ∧ d ≤ 99) ∧ 0 ≤ e ∧ e ≤ 99)) := by
  simp (disch := omega) only [f8_isHand, isFrom_of, Option.bind_some, I_lit, I_neg, I_add, I_sub, I_mul, I_lt, I_le, I_eq, if_pos, if_neg, if_true, if_false, decide_eq_true_eq]
  by_cases x1 : 0 ≤ a ∧ a ≤ 99
  · rw [if_pos x1]
    by_cases x2 : 0 ≤ b ∧ b ≤ 99
    · rw [if_pos x2]
      by_cases x3 : 0 ≤ c ∧ c ≤ 99
      · rw [if_pos x3]
        by_cases x4 : 0 ≤ d ∧ d ≤ 99
        · rw [if_pos x4]
          by_cases x5 : 0 ≤ e ∧ e ≤ 99
          · rw [if_pos x5, decide_eq_true ⟨x1, x2, x3, x4, x5⟩]
          · rw [if_neg x5, decide_eq_false (fun z => x5 z.2.2.2.2)]
        · rw [if_neg x4, decide_eq_false (fun z => x4 z.2.2.2.1)]
      · rw [if_neg x3, decide_eq_false (fun z => x3 z.2.2.1)]
    · rw [if_neg x2, decide_eq_false (fun z => x2 z.2.1)]
  · rw [if_neg x1, decide_eq_false (fun z => x1 z.1)]
theorem XO.pieceN (O : XO h x nr nm) (W : WD h (x + 1) r c) {so a b d e f st pr : Int} (so0 : -2147483648 ≤ so) (so1 : so < 2147483648) (a0 : -2147483648 ≤ a) (a1 : a < 2147483648) (b0 : -2147483648 ≤ b) (b1 : b < 2147483648) (d0 : -2147483648 ≤ d) (d1 : d < 2147483648) (e0 : -2147483648 ≤ e) (e1 : e < 2147483648) (f0 : -2147483648 ≤ f) (f1 : f < 2147483648) (t0 : -2147483648 ≤ st) (t1 : st < 2147483648) (p0 : -2147483648 ≤ pr) (p1 : pr < 2147483648) (hn : ¬ (r 4 < 90 ∧ (0 ≤ so ∧ so ≤ 2) ∧ ((0 ≤ a ∧ a ≤ 99) ∧ (0 ≤ b ∧ b ≤ 99) ∧ (0 ≤ d ∧ d ≤ 99) ∧ (0 ≤ e ∧ e ≤ 99) ∧ 0 ≤ f ∧ f ≤ 99) ∧ (0 ≤ st ∧ st < 2 ^ (r 1).toNat) ∧ 0 ≤ pr ∧ pr ≤ 9999)) : f8_piece h x (I so) (I a) (I b) (I d) (I e) (I f) (I st) (I pr) = some (I (-1), h) := by
  have bb := W.ri.1
  have pw := pow10 W.ri
  simp (disch := omega) only [f8_piece, O.o, isFrom_of, isHand_of, Option.bind_some, I_lit, I_neg, I_add, I_sub, I_mul, I_lt, I_le, I_eq, if_pos, if_neg, if_true, if_false, decide_eq_true_eq]
  by_cases x1 : 0 ≤ so ∧ so ≤ 2
  · rw [if_pos x1]
    by_cases x2 : 0 ≤ pr ∧ pr ≤ 9999
    · rw [if_pos x2]
      by_cases x3 : (0 ≤ a ∧ a ≤ 99) ∧ (0 ≤ b ∧ b ≤ 99) ∧ (0 ≤ d ∧ d ≤ 99) ∧ (0 ≤ e ∧ e ≤ 99) ∧ 0 ≤ f ∧ f ≤ 99
      · rw [if_pos x3]
        simp (disch := omega) only [O.f0, W.f1, W.st.size, I_shl1, isFrom_of, Option.bind_some, I_lit, I_neg, I_add, I_sub, I_mul, I_lt, I_le, I_eq, if_pos, if_neg, if_true, if_false, decide_eq_true_eq]
        by_cases x4 : 0 ≤ st ∧ st ≤ 2 ^ (r 1).toNat - 1
        · rw [if_pos x4]
          have n : 90 ≤ r 4 := by
            by_cases g : r 4 < 90
            · exact absurd ⟨g, x1, x3, ⟨x4.1, by omega⟩, x2⟩ hn
            · omega
          simp (disch := omega) only [O.f0, W.f0, W.f4, W.pi.addF n, W.pi.putN, Option.bind_some, I_lit, I_neg, I_add, I_sub, I_mul, I_lt, I_le, I_eq, if_pos, if_neg, if_true, if_false, decide_eq_true_eq]
        · rw [if_neg x4]
      · rw [if_neg x3]
    · rw [if_neg x2]
  · rw [if_neg x1]
theorem XO.clock (O : XO h x nr nm) (W : WD h (x + 1) r c) {w : Int} (w0 : r 0 ≤ w) (w1 : w ≤ 519) : ∃ h', f8_clock h x (I w) = some (true, h') ∧ WD h' (x + 1) (up r 0 w) c ∧ Fr (x + 1) (x + 21) h h' := by
  have b := W.ri.1
  obtain ⟨h1, e1, B1, F1⟩ := W.1.set 0 (.int (I w)) (by simp)
  have z1 : (up r 0 w) 1 = r 1 := up_ne (by omega)
  have z2 : (up r 0 w) 2 = r 2 := up_ne (by omega)
  have z3 : (up r 0 w) 3 = r 3 := up_ne (by omega)
  have z4 : (up r 0 w) 4 = r 4 := up_ne (by omega)
  have z5 : (up r 0 w) 5 = r 5 := up_ne (by omega)
  have z6 : (up r 0 w) 6 = r 6 := up_ne (by omega)
  have z7 : (up r 0 w) 7 = r 7 := up_ne (by omega)
  have z8 : (up r 0 w) 8 = r 8 := up_ne (by omega)
  refine ⟨h1, ?_, ⟨by rw [up_eq]; exact B1, by rw [z1]; exact W.st.fr F1 (by omega), by rw [z2]; exact W.tr.fr F1 (by omega), by rw [z3]; exact W.fa.fr F1 (by omega), by rw [z4]; exact W.pi.fr F1 (by omega), by rw [z5]; exact W.pg.fr F1 (by omega), by rw [z6]; exact W.lo.fr F1 (by omega), by rw [z7]; exact W.te.fr F1 (by omega), by rw [z8]; exact W.pe.fr F1 (by omega), CW_clock W.cr w0 w1⟩, F1.mono (by omega) (by omega)⟩
  simp (disch := omega) only [f8_clock, O.o, O.f0, W.f0, isFrom_of, Option.bind_some, I_lit, I_neg, I_add, I_sub, I_mul, I_lt, I_le, I_eq, if_pos, if_neg, if_true, if_false, decide_eq_true_eq, e1, and_self]
theorem XO.clockN (O : XO h x nr nm) (W : WD h (x + 1) r c) {w : Int} (y0 : -2147483648 ≤ w) (y1 : w < 2147483648) (hn : ¬ (r 0 ≤ w ∧ w ≤ 519)) : f8_clock h x (I w) = some (false, h) := by
  have b := W.ri.1
  simp (disch := omega) only [f8_clock, O.o, O.f0, W.f0, isFrom_of, Option.bind_some, I_lit, I_neg, I_add, I_sub, I_mul, I_lt, I_le, I_eq, if_pos, if_neg, if_true, if_false, decide_eq_true_eq]
theorem XO.keep (O : XO h x nr nm) (W : WD h (x + 1) r c) {p t : Int} (p0 : 0 ≤ p) (p1 : p < r 4) (t0 : 0 ≤ t) (t1 : t ≤ 519) : ∃ h' c', f8_keep h x (I p) (I t) = some (I (r (1330 + 10 * p + 9)), h') ∧ WD h' (x + 1) (up r (1330 + 10 * p + 9) t) c' ∧ Fr (x + 1) (x + 21) h h' := by
  have b := W.ri.1
  obtain ⟨h1, e1, R1, F1⟩ := W.pi.put (p := p) (c := 9) (v := t) (by omega) (by omega) (by omega) (by omega)
  have z0 : (up r (1330 + 10 * p + 9) t) 0 = r 0 := up_ne (by omega)
  have z1 : (up r (1330 + 10 * p + 9) t) 1 = r 1 := up_ne (by omega)
  have z2 : (up r (1330 + 10 * p + 9) t) 2 = r 2 := up_ne (by omega)
  have z3 : (up r (1330 + 10 * p + 9) t) 3 = r 3 := up_ne (by omega)
  have z4 : (up r (1330 + 10 * p + 9) t) 4 = r 4 := up_ne (by omega)
  have z5 : (up r (1330 + 10 * p + 9) t) 5 = r 5 := up_ne (by omega)
  have z6 : (up r (1330 + 10 * p + 9) t) 6 = r 6 := up_ne (by omega)
  have z7 : (up r (1330 + 10 * p + 9) t) 7 = r 7 := up_ne (by omega)
  have z8 : (up r (1330 + 10 * p + 9) t) 8 = r 8 := up_ne (by omega)
  refine ⟨h1, uf c 5 (up (c 5) (p * 10 + 9) t), ?_, ⟨by rw [z0]; exact W.1.at (F1.2 _ (by omega)), by rw [z1]; exact W.st.fr F1 (by omega), by rw [z2]; exact W.tr.fr F1 (by omega), by rw [z3]; exact W.fa.fr F1 (by omega), by rw [z4]; exact R1, by rw [z5]; exact W.pg.fr F1 (by omega), by rw [z6]; exact W.lo.fr F1 (by omega), by rw [z7]; exact W.te.fr F1 (by omega), by rw [z8]; exact W.pe.fr F1 (by omega), CW_keep W.cr p0 p1 t0 t1 (X := (up (c 5) (p * 10 + 9) t)) (by rw [show 10 * p + 9 = p * 10 + 9 by omega]; exact up_eq) (fun k hk => up_ne (by omega))⟩, F1.mono (by omega) (by omega)⟩
  simp (disch := omega) only [f8_keep, O.o, O.f0, W.f0, W.f4, isFrom_of, W.pi.has, W.pAt, Option.bind_some, I_lit, I_neg, I_add, I_sub, I_mul, I_lt, I_le, I_eq, if_pos, if_neg, if_true, if_false, decide_eq_true_eq, e1, and_self]
theorem XO.keepN (O : XO h x nr nm) (W : WD h (x + 1) r c) {p t : Int} (y0 : -2147483648 ≤ p) (y1 : p < 2147483648) (q0 : -2147483648 ≤ t) (q1 : t < 2147483648) (hn : ¬ ((0 ≤ p ∧ p < r 4) ∧ 0 ≤ t ∧ t ≤ 519)) : f8_keep h x (I p) (I t) = some (I (-1), h) := by
  have bb := W.ri.1
  simp (disch := omega) only [f8_keep, O.o, O.f0, W.f4, W.pi.has, isFrom_of, Option.bind_some, I_lit, I_neg, I_add, I_sub, I_mul, I_lt, I_le, I_eq, if_pos, if_neg, if_true, if_false, decide_eq_true_eq]
  by_cases a : 0 ≤ p ∧ p < r 4
  · rw [if_pos a]
  · rw [if_neg a]
theorem XO.ask (O : XO h x nr nm) (W : WD h (x + 1) r c) {p : Int} (p0 : 0 ≤ p) (p1 : p < r 8) (q : r (5030 + 5 * p + 4) = -1) : ∃ h' c', f8_ask h x (I p) = some (true, h') ∧ WD h' (x + 1) (up r (5030 + 5 * p + 4) (r 0)) c' ∧ Fr (x + 1) (x + 21) h h' := by
  have b := W.ri.1
  obtain ⟨h1, e1, R1, F1⟩ := W.pe.put (p := p) (c := 4) (v := r 0) (by omega) (by omega) (by omega) (by omega)
  have z0 : (up r (5030 + 5 * p + 4) (r 0)) 0 = r 0 := up_ne (by omega)
  have z1 : (up r (5030 + 5 * p + 4) (r 0)) 1 = r 1 := up_ne (by omega)
  have z2 : (up r (5030 + 5 * p + 4) (r 0)) 2 = r 2 := up_ne (by omega)
  have z3 : (up r (5030 + 5 * p + 4) (r 0)) 3 = r 3 := up_ne (by omega)
  have z4 : (up r (5030 + 5 * p + 4) (r 0)) 4 = r 4 := up_ne (by omega)
  have z5 : (up r (5030 + 5 * p + 4) (r 0)) 5 = r 5 := up_ne (by omega)
  have z6 : (up r (5030 + 5 * p + 4) (r 0)) 6 = r 6 := up_ne (by omega)
  have z7 : (up r (5030 + 5 * p + 4) (r 0)) 7 = r 7 := up_ne (by omega)
  have z8 : (up r (5030 + 5 * p + 4) (r 0)) 8 = r 8 := up_ne (by omega)
  refine ⟨h1, uf c 10 (up (c 10) (p * 5 + 4) (r 0)), ?_, ⟨by rw [z0]; exact W.1.at (F1.2 _ (by omega)), by rw [z1]; exact W.st.fr F1 (by omega), by rw [z2]; exact W.tr.fr F1 (by omega), by rw [z3]; exact W.fa.fr F1 (by omega), by rw [z4]; exact W.pi.fr F1 (by omega), by rw [z5]; exact W.pg.fr F1 (by omega), by rw [z6]; exact W.lo.fr F1 (by omega), by rw [z7]; exact W.te.fr F1 (by omega), by rw [z8]; exact R1, CW_ask W.cr p0 p1 (X := (up (c 10) (p * 5 + 4) (r 0))) (by rw [show 5 * p + 4 = p * 5 + 4 by omega]; exact up_eq) (fun k hk => up_ne (by omega))⟩, F1.mono (by omega) (by omega)⟩
  simp (disch := omega) only [f8_ask, O.o, O.f0, W.f0, W.f8, isFrom_of, W.pe.has, W.eAt, q, Option.bind_some, I_lit, I_neg, I_add, I_sub, I_mul, I_lt, I_le, I_eq, if_pos, if_neg, if_true, if_false, decide_eq_true_eq, e1, and_self]
theorem XO.askN (O : XO h x nr nm) (W : WD h (x + 1) r c) {p : Int} (y0 : -2147483648 ≤ p) (y1 : p < 2147483648) (hn : ¬ ((0 ≤ p ∧ p < r 8) ∧ r (5030 + 5 * p + 4) = -1)) : f8_ask h x (I p) = some (false, h) := by
  have bb := W.ri.1
  simp (disch := omega) only [f8_ask, O.o, O.f0, W.f8, W.pe.has, Option.bind_some, I_lit, I_neg, I_add, I_sub, I_mul, I_lt, I_le, I_eq, if_pos, if_neg, if_true, if_false, decide_eq_true_eq]
  by_cases a : 0 ≤ p ∧ p < r 8
  · rw [if_pos a]
    have x := pe_rng W.ri a.1 a.2
    simp (disch := omega) only [W.eAt, Option.bind_some, I_lit, I_neg, I_add, I_sub, I_mul, I_lt, I_le, I_eq, if_pos, if_neg, if_true, if_false, decide_eq_true_eq]
  · rw [if_neg a]
set_option maxHeartbeats 4000000 in
theorem XO.test (O : XO h x nr nm) (W : WD h (x + 1) r c) {p s : Int} (n : r 7 < 200) (s0 : 0 ≤ p) (s1 : p < r 4) (y0 : 0 ≤ s) (y1 : s < r 1) (hb : bi (r (1330 + 10 * p + 6)) s = 1) (hc : r (1330 + 10 * p + 9) ≤ r 0) : ∃ h' c', f8_test h x (I p) (I s) = some (I (bi (yo (rTest r p s) p) s), h') ∧ WD h' (x + 1) (rTest r p s) c' ∧ Fr (x + 1) (x + 21) h h' := by
  have b := W.ri.1
  have pw := pow10 W.ri
  obtain ⟨h1, e1, R1, F1⟩ := W.te.add n
  have G1 := F1
  obtain ⟨h2, e2, R2, F2⟩ := R1.put (p := r 7) (c := 0) (v := p) (by omega) (by omega) (by omega) (by omega)
  have G2 := G1.trans F2
  obtain ⟨h3, e3, R3, F3⟩ := R2.put (p := r 7) (c := 1) (v := s) (by omega) (by omega) (by omega) (by omega)
  have G3 := G2.trans F3
  obtain ⟨h4, e4, R4, F4⟩ := R3.put (p := r 7) (c := 2) (v := r 0) (by omega) (by omega) (by omega) (by omega)
  have G4 := G3.trans F4
  have O1 := O.fr G1 (by omega)
  have B1 := W.1.at (G1.2 (x + 1) (by omega))
  have O2 := O.fr G2 (by omega)
  have B2 := W.1.at (G2.2 (x + 1) (by omega))
  have O3 := O.fr G3 (by omega)
  have B3 := W.1.at (G3.2 (x + 1) (by omega))
  have O4 := O.fr G4 (by omega)
  have B4 := W.1.at (G4.2 (x + 1) (by omega))
  have z0 : (rTest r p s) 0 = r 0 := by simp (disch := omega) only [rTest, up_ne]
  have z1 : (rTest r p s) 1 = r 1 := by simp (disch := omega) only [rTest, up_ne]
  have z2 : (rTest r p s) 2 = r 2 := by simp (disch := omega) only [rTest, up_ne]
  have z3 : (rTest r p s) 3 = r 3 := by simp (disch := omega) only [rTest, up_ne]
  have z4 : (rTest r p s) 4 = r 4 := by simp (disch := omega) only [rTest, up_ne]
  have z5 : (rTest r p s) 5 = r 5 := by simp (disch := omega) only [rTest, up_ne]
  have z6 : (rTest r p s) 6 = r 6 := by simp (disch := omega) only [rTest, up_ne]
  have z7 : (rTest r p s) 7 = r 7 + 1 := up_eq
  have z8 : (rTest r p s) 8 = r 8 := by simp (disch := omega) only [rTest, up_ne]
  have st := st_rng W.ri s0 s1
  have x9 := (pi_rng W.ri s0 s1).2.2.2.2.2
  have W' : WD h4 (x + 1) (rTest r p s) (uf c 9 (up (up (up (zr (c 9) (r 7 * 3) (r 7 * 3 + 3)) (r 7 * 3 + 0) p) (r 7 * 3 + 1) s) (r 7 * 3 + 2) (r 0))) := ⟨by rw [z0]; exact W.1.at (G4.2 _ (by omega)), by rw [z1]; exact W.st.fr G4 (by omega), by rw [z2]; exact W.tr.fr G4 (by omega), by rw [z3]; exact W.fa.fr G4 (by omega), by rw [z4]; exact W.pi.fr G4 (by omega), by rw [z5]; exact W.pg.fr G4 (by omega), by rw [z6]; exact W.lo.fr G4 (by omega), by rw [z7]; exact R4, by rw [z8]; exact W.pe.fr G4 (by omega), CW_test W.cr n s0 s1 y0 y1 (X := (up (up (up (zr (c 9) (r 7 * 3) (r 7 * 3 + 3)) (r 7 * 3 + 0) p) (r 7 * 3 + 1) s) (r 7 * 3 + 2) (r 0))) (fun k k0 k1 => by simp (disch := omega) only [up_ne, zr_out]) (by simp (disch := omega) only [up, zr, if_pos, if_neg]) (by simp (disch := omega) only [up, zr, if_pos, if_neg]) (by simp (disch := omega) only [up, zr, if_pos, if_neg])⟩
  have yr := yo_rng W'.ri p
  have YY := W'.young (p := p) s0 (by rw [z4]; exact s1)
  have b2 := bi_rng (yo (rTest r p s) p) s
  refine ⟨h4, _, ?_, W', G4.mono (by omega) (by omega)⟩
  simp (disch := omega) only [f8_test, O.o, O.f0, W.f7, W.f0, isFrom_of, W.f4, W.pi.has, W.te.full, W.close, W.pAt, hasBit_of, hb, O4.f0, YY, Option.bind_some, I_lit, I_neg, I_add, I_sub, I_mul, I_lt, I_le, I_eq, if_pos, if_neg, if_true, if_false, decide_eq_true_eq, e1, e2, e3, e4, O1.f0, B1.r 7 rfl, B1.i 0 rfl, O2.f0, B2.r 7 rfl, B2.i 0 rfl, O3.f0, B3.r 7 rfl, B3.i 0 rfl, O4.f0, B4.r 7 rfl, B4.i 0 rfl, and_self, true_and, and_true]
  by_cases q : bi (yo (rTest r p s) p) s = 1
  · rw [if_pos q, q]
  · rw [if_neg q, show bi (yo (rTest r p s) p) s = 0 by omega]
theorem bi_hi {a i : Int} {k : Nat} (h0 : 0 ≤ a) (h1 : a < 2 ^ k) (h2 : k ≤ i) : bi a i = 0 := by
  unfold bi
  have p : (2 : Nat) ^ k ≤ 2 ^ i.toNat := Nat.pow_le_pow_right (by omega) (by omega)
  have e1 : ((2 ^ k : Nat) : Int) = 2 ^ k := by rw [Int.natCast_pow]; rfl
  have e2 : ((2 ^ i.toNat : Nat) : Int) = 2 ^ i.toNat := by rw [Int.natCast_pow]; rfl
  rw [Int.ediv_eq_zero_of_lt h0 (by omega)]
  rfl
theorem XO.testN (O : XO h x nr nm) (W : WD h (x + 1) r c) {p s : Int} (y0 : -2147483648 ≤ p) (y1 : p < 2147483648) (q0 : -2147483648 ≤ s) (q1 : s < 2147483648) (hn : ¬ (r 7 < 200 ∧ (0 ≤ p ∧ p < r 4) ∧ (0 ≤ s ∧ s < r 1) ∧ bi (r (1330 + 10 * p + 6)) s = 1 ∧ r (1330 + 10 * p + 9) ≤ r 0)) : f8_test h x (I p) (I s) = some (I (-1), h) := by
  have bb := W.ri.1
  simp only [f8_test, O.o, O.f0, W.f4, Option.bind_some]
  rw [W.pi.has y0 y1, Option.bind_some]
  by_cases a : 0 ≤ p ∧ p < r 4
  · rw [if_pos (decide_eq_true a)]
    simp only [I_lit]
    rw [isFrom_of q0 q1 (by omega) (by omega) (by omega) (by omega), Option.bind_some]
    by_cases b : 0 ≤ s ∧ s ≤ 9
    · rw [if_pos (decide_eq_true b)]
      have st := st_rng W.ri a.1 a.2
      have x9 := pi_rng W.ri a.1 a.2
      rw [W.f7, Option.bind_some, W.te.full, Option.bind_some]
      by_cases d : 200 ≤ r 7
      · rw [if_pos (decide_eq_true d), I_neg]
      · rw [if_neg (by simpa using d), W.close a.1 a.2, Option.bind_some]
        by_cases e : r 0 < r (1330 + 10 * p + 9)
        · rw [if_pos (decide_eq_true e), I_neg]
        · rw [if_neg (by simpa using e), W.pAt a.1 a.2 (by omega) (by omega), Option.bind_some, hasBit_of (by omega) (by omega) b.1 (by omega), Option.bind_some]
          by_cases f : bi (r (1330 + 10 * p + 6)) s = 1
          · by_cases g : s < r 1
            · exact absurd ⟨by omega, a, ⟨b.1, g⟩, f, by omega⟩ hn
            · have := bi_hi (i := s) x9.2.2.1.1 x9.2.2.1.2 (by omega)
              omega
          · rw [if_neg (by simpa using f), I_neg]
    · rw [if_neg (by simpa using b), I_neg]
  · rw [if_neg (by simpa using a), I_lit, I_neg]
end
