section
variable {h h' : AH} {m : Nat} {v : Nat → Int} {se : Int64} {g : Nat → Int → Int} {gl : Nat → Int → Int64} {u : Nat → Int} {sr : Int → Int}
theorem div_pow0 {a b : Int} {k : Nat} (a0 : 0 ≤ a) : (a / 2 ^ k = 0) = (a < 2 ^ k) := by
  have p : (0 : Int) < 2 ^ k := Int.pow_pos (by omega)
  apply propext
  constructor
  · intro h
    have := Int.emod_lt_of_pos a p
    have e := Int.emod_def a (2 ^ k)
    rw [h, Int.mul_zero, Int.sub_zero] at e
    omega
  · intro h
    exact Int.ediv_eq_zero_of_lt a0 h
theorem MO.works (M : MO h m v se g gl) (R : RI (g 1)) (X : MI u sr) {t p day n sd : Int} (t0 : 0 ≤ t) (t1 : t < 14) (Y : MM g t u sr) (p0 : 0 ≤ p) (p1 : p < g 1 4) (d0 : 0 ≤ day) (d1 : day ≤ 9999) (k0 : 1 ≤ n) (k1 : n ≤ 60) (s0 : 0 ≤ sd) (s1 : sd < 2147483648) : ∃ h' se', f9_works h m (I t) (I p) (I day) (I n) (I sd) false = some (I (mkC (g 1) (u 1) (u 4) sr p n.toNat day sd), h') ∧ MO h' m v se' g gl ∧ Fr m (m + 24) h h' := by
  have fu := FU_big
  obtain ⟨h1, e1, M1, F1⟩ := M.s30 (J sd)
  obtain ⟨h2, s2, e2, M2, F2⟩ := MO.wF X R t0 t1 Y p0 p1 d0 d1 k1 n.toNat FU h1 sd 0 0 M1 s0 s1 (by omega) (by omega) (by omega)
  rw [Int.zero_add, Int.add_zero] at e2
  refine ⟨h2, s2, ?_, M2, F1.trans F2⟩
  rw [f9_works, M.o, Option.bind_some, I_toJ (by omega) s1, e1, Option.bind_some, I_0]
  exact e2
theorem MO.worksT {r0 : Int → Int} {r : Int → Int} (M : MO h m v se (uf g 1 r) gl) (X : MI u sr) {t p day n sd : Int} (t0 : 0 ≤ t) (t1 : t < 14) (Y : MM g t u sr) (S : sameM r0 r p day) (h4 : r 5 + mkC r0 (u 1) (u 4) sr p n.toNat day sd ≤ 400) (p0 : 0 ≤ p) (p1 : p < r0 4) (d0 : 0 ≤ day) (d1 : day ≤ 9999) (k0 : 1 ≤ n) (k1 : n ≤ 60) (s0 : 0 ≤ sd) (s1 : sd < 2147483648) : ∃ h' se', f9_works h m (I t) (I p) (I day) (I n) (I sd) true = some (I (mkC r0 (u 1) (u 4) sr p n.toNat day sd), h') ∧ MO h' m v se' (uf g 1 (mkR r0 (u 1) (u 4) sr p n.toNat day sd r)) gl ∧ Fr m (m + 24) h h' := by
  have fu := FU_big
  obtain ⟨h1, e1, M1, F1⟩ := M.s30 (J sd)
  obtain ⟨h2, s2, e2, M2, F2⟩ := MO.wT (r0 := r0) X t0 t1 Y p0 p1 d0 d1 k1 n.toNat FU h1 r sd 0 0 M1 (by rw [Int.add_zero]; exact S) (by rw [Int.add_zero]; exact h4) s0 s1 (by omega) (by omega) (by omega)
  rw [Int.zero_add, Int.add_zero] at e2
  rw [Int.add_zero] at M2
  refine ⟨h2, s2, ?_, M2, F1.trans F2⟩
  rw [f9_works, M.o, Option.bind_some, I_toJ (by omega) s1, e1, Option.bind_some, I_0]
  exact e2
theorem MO.make (M : MO h m v se g gl) (R : RI (g 1)) (X : MI u sr) {mk p day n sd : Int} (n0 : 0 ≤ v 15) (n1 : v 15 ≤ 6) (Y : MM g (8 + mk) u sr) (ok : mkOK (g 1) (v 15) mk p day n sd u sr) (s1 : sd < 2147483648) : ∃ h' se', f9_make h m (I mk) (I p) (I day) (I n) (I sd) = some (I (mkC (g 1) (u 1) (u 4) sr p n.toNat day sd), h') ∧ MO h' m v se' (uf g 1 (mkRow (g 1) p day n sd u sr)) gl ∧ Fr m (m + 24) h h' := by
  have b := R.1
  have bx := X.1
  have pw := pow10 R
  obtain ⟨⟨a0, a1⟩, ⟨p0, p1⟩, s0, ⟨d0, d1⟩, ⟨k0, k1⟩, hs, h4⟩ := ok
  have cr := mkC_rng (g 1) (u 1) (u 4) sr p n.toNat day sd
  obtain ⟨h1, s1', e1, M1, F1⟩ := M.works R X (t := 8 + mk) (n := n) (by omega) (by omega) Y p0 p1 d0 d1 k0 k1 s0 s1
  have pr := pi_rng R p0 p1
  have st := st_rng R p0 p1
  have o := ori_lt pr.2.2.1.1 pr.2.2.1.2 bx.2.2.2.2.1 hs
  have y2 := Y.2.2.1
  obtain ⟨h2, e2, M2, F2⟩ := M1.w1 (i := 1330 + 10 * p + 6) (ori (g 1 (1330 + 10 * p + 6)) (u 2)) (by omega) (by omega)
  obtain ⟨h3, s3, e3, M3, F3⟩ := MO.worksT (r0 := g 1) M2 X (t := 8 + mk) (n := n) (by omega) (by omega) Y (sameM.inks R p0 p1 o.1 o.2) (by rw [up_ne (by omega)]; exact h4) p0 p1 d0 d1 k0 k1 s0 s1
  rw [mkR_up (g 1) (u 1) (u 4) sr p (by omega) (by omega) n.toNat day sd (g 1) (by omega)] at M3
  refine ⟨h3, s3, ?_, M3, (F1.trans F2).trans F3⟩
  have dz : u 2 / 2 ^ (g 1 1).toNat = 0 := by rw [div_pow0 (b := 0) bx.2.2.2.2.1]; exact hs
  have sh : I (u 2) >>> (I (g 1 1) &&& I 31) = I 0 := by rw [I_shr bx.2.2.2.2.1 (by omega) (by omega) (by omega), dz]
  rw [f9_make]
  simp only [I_lit, J_lit, I_neg]
  rw [M.o, Option.bind_some, M.isMaker (by omega) (by omega) n0 n1, Option.bind_some, if_pos (decide_eq_true ⟨a0, a1⟩), M.isPiece R (by omega) (by omega), Option.bind_some, if_pos (decide_eq_true ⟨p0, p1⟩), isDay_of (by omega) (by omega), Option.bind_some, if_pos (decide_eq_true ⟨d0, d1⟩), in_I (by omega) (by omega) (by omega) (by omega) (by omega) (by omega), Option.bind_some, if_pos (decide_eq_true ⟨k0, k1⟩)]
  simp (disch := omega) only [M.f13, M.r13, y2, M.f0, M.r1, sh, e1, M1.f0, M1.r1, M1.f13, M1.r13, I_or, e2, e3, Option.bind_some, I_lit, I_neg, I_add, I_sub, I_mul, I_lt, I_le, I_eq, if_pos, if_neg, if_true, if_false, decide_eq_true_eq]
theorem MO.makeN (M : MO h m v se g gl) (R : RI (g 1)) (X : MI u sr) {mk p day n sd : Int} (n0 : 0 ≤ v 15) (n1 : v 15 ≤ 6) (Y : 0 ≤ mk → mk < v 15 → MM g (8 + mk) u sr) (no : ¬ mkOK (g 1) (v 15) mk p day n sd u sr) (m0 : -2147483648 ≤ mk) (m1 : mk < 2147483648) (p0 : -2147483648 ≤ p) (p1 : p < 2147483648) (d0 : -2147483648 ≤ day) (d1 : day < 2147483648) (k0 : -2147483648 ≤ n) (k1 : n < 2147483648) (s0 : -2147483648 ≤ sd) (s1 : sd < 2147483648) : ∃ h' se', f9_make h m (I mk) (I p) (I day) (I n) (I sd) = some (I (-1), h') ∧ MO h' m v se' g gl ∧ Fr m (m + 24) h h' := by
  have b := R.1
  have bx := X.1
  have pw := pow10 R
  rw [f9_make]
  simp only [I_lit, J_lit, I_neg]
  rw [M.o, Option.bind_some, M.isMaker m0 m1 n0 n1, Option.bind_some]
  by_cases a : 0 ≤ mk ∧ mk < v 15
  · have Y := Y a.1 a.2
    rw [if_pos (decide_eq_true a), M.isPiece R p0 p1, Option.bind_some]
    by_cases q1 : 0 ≤ p ∧ p < g 1 4
    · rw [if_pos (decide_eq_true q1), isDay_of d0 d1, Option.bind_some]
      by_cases q2 : 0 ≤ day ∧ day ≤ 9999
      · rw [if_pos (decide_eq_true q2), in_I k0 k1 (by omega) (by omega) (by omega) (by omega), Option.bind_some]
        by_cases q3 : 1 ≤ n ∧ n ≤ 60
        · rw [if_pos (decide_eq_true q3)]
          by_cases q4 : 0 ≤ sd
          · rw [if_pos (by rw [I_le (by omega) (by omega) (by omega) (by omega)]; exact q4)]
            have cr := mkC_rng (g 1) (u 1) (u 4) sr p n.toNat day sd
            obtain ⟨h1, s1', e1, M1, F1⟩ := M.works R X (t := 8 + mk) (n := n) (by omega) (by omega) Y q1.1 q1.2 q2.1 q2.2 q3.1 q3.2 q4 s1
            have y2 := Y.2.2.1
            have dr := div_rng bx.2.2.2.2.1 (g 1 1)
            have sh : I (u 2) >>> (I (g 1 1) &&& I 31) = I (u 2 / 2 ^ (g 1 1).toNat) := I_shr bx.2.2.2.2.1 (by omega) (by omega) (by omega)
            by_cases q5 : u 2 < 2 ^ (g 1 1).toNat
            · have dz : u 2 / 2 ^ (g 1 1).toNat = 0 := by rw [div_pow0 (b := 0) bx.2.2.2.2.1]; exact q5
              have q6 : ¬ g 1 5 + mkC (g 1) (u 1) (u 4) sr p n.toNat day sd ≤ 400 := fun z => no ⟨a, q1, q4, q2, q3, q5, z⟩
              refine ⟨h1, s1', ?_, M1, F1⟩
              rw [dz] at sh
              simp (disch := omega) only [M.f13, M.r13, y2, M.f0, M.r1, sh, e1, Option.bind_some, I_lit, I_neg, I_add, I_sub, I_mul, I_lt, I_le, I_eq, if_pos, if_neg, if_true, if_false, decide_eq_true_eq]
            · have dz : u 2 / 2 ^ (g 1 1).toNat ≠ 0 := fun z => q5 (by rw [div_pow0 (b := 0) bx.2.2.2.2.1] at z; exact z)
              refine ⟨h, se, ?_, M, Fr.refl _ _ _⟩
              simp (disch := omega) only [M.f13, M.r13, y2, M.f0, M.r1, sh, Option.bind_some, I_lit, I_neg, I_add, I_sub, I_mul, I_lt, I_le, I_eq, if_pos, if_neg, if_true, if_false, decide_eq_true_eq]
          · rw [if_neg (by rw [I_le (by omega) (by omega) (by omega) (by omega)]; exact q4)]
            exact ⟨h, se, rfl, M, Fr.refl _ _ _⟩
        · rw [if_neg (by simpa using q3)]
          exact ⟨h, se, rfl, M, Fr.refl _ _ _⟩
      · rw [if_neg (by simpa using q2)]
        exact ⟨h, se, rfl, M, Fr.refl _ _ _⟩
    · rw [if_neg (by simpa using q1)]
      exact ⟨h, se, rfl, M, Fr.refl _ _ _⟩
  · rw [if_neg (by simpa using a)]
    exact ⟨h, se, rfl, M, Fr.refl _ _ _⟩
end
