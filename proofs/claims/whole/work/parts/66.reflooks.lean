section
variable {h h' : AH} {m : Nat} {v : Nat → Int} {se : Int64} {g : Nat → Int → Int} {gl : Nat → Int → Int64} {ru : Int → Nat → Int} {rc sg cl : Int → Int → Int} {nc : Int → Int}
/-- how the reference holds READER k -/
def RM (g : Nat → Int → Int) (k : Int) (u : Nat → Int) (cd sg cl : Int → Int) (nc : Int) : Prop := (∀ j, g 3 (400 * k + j) = sg j) ∧ (∀ j, g 5 (48 * k + j) = cl j) ∧ g 6 k = nc ∧ g 7 k = u 0 ∧ g 8 k = u 1 ∧ TXR u cd sg cl nc
theorem MO.chOf (M : MO h m v se g gl) (R : RI (g 1)) {rd p b : Int} {u : Nat → Int} {cd sg cl : Int → Int} {nc : Int} (Y : RM g rd u cd sg cl nc) (r0 : 0 ≤ rd) (r1 : rd < 14) (p0 : 0 ≤ p) (p1 : p < g 1 4) (b0 : 0 ≤ b) (b1 : b < g 1 4) : ∃ h' v' gl', f9_chanceOf h m (I rd) (I p) (I b) = some (I (cvl (g 1) p b sg cl nc), h') ∧ MO h' m v' se g gl' ∧ (∀ j, j ≠ 26 → v' j = v j) ∧ Fr m (m + 24) h h' := M.chanceOf R r0 r1 p0 p1 b0 b1 Y.1 Y.2.1 Y.2.2.1 Y.2.2.2.2.2.1
theorem MO.chance (M : MO h m v se g gl) (R : RI (g 1)) {rd p b : Int} {u : Nat → Int} {cd sg cl : Int → Int} {nc : Int} (Y : RM g rd u cd sg cl nc) (n0 : 0 ≤ v 14) (n1 : v 14 ≤ 8) (r0 : 0 ≤ rd) (r1 : rd < v 14) (p0 : 0 ≤ p) (p1 : p < g 1 4) (b0 : 0 ≤ b) (b1 : b < g 1 4) (hne : p ≠ b) : ∃ h' v' gl', f9_chance h m (I rd) (I p) (I b) = some (I (cvl (g 1) p b sg cl nc), h') ∧ MO h' m v' se g gl' ∧ (∀ j, j ≠ 26 → v' j = v j) ∧ Fr m (m + 24) h h' := by
  have bb := R.1
  obtain ⟨h1, v1, gl1, e1, M1, V1, F1⟩ := M.chOf R Y r0 (by omega) p0 p1 b0 b1
  refine ⟨h1, v1, gl1, ?_, M1, V1, F1⟩
  rw [f9_chance, M.o, Option.bind_some, M.isReader (by omega) (by omega) n0 n1, Option.bind_some, if_pos (decide_eq_true ⟨r0, r1⟩), M.areTwo R (by omega) (by omega) (by omega) (by omega), Option.bind_some, if_pos (decide_eq_true ⟨p0, p1, b0, b1, hne⟩), e1, Option.bind_some]
theorem MO.chanceN (M : MO h m v se g gl) (R : RI (g 1)) (n0 : 0 ≤ v 14) (n1 : v 14 ≤ 8) {rd p b : Int} (r0 : -2147483648 ≤ rd) (r1 : rd < 2147483648) (p0 : -2147483648 ≤ p) (p1 : p < 2147483648) (b0 : -2147483648 ≤ b) (b1 : b < 2147483648) (no : ¬ ((0 ≤ rd ∧ rd < v 14) ∧ 0 ≤ p ∧ p < g 1 4 ∧ 0 ≤ b ∧ b < g 1 4 ∧ p ≠ b)) : f9_chance h m (I rd) (I p) (I b) = some (I (-1), h) := by
  rw [f9_chance]
  simp only [I_lit, I_neg]
  rw [M.o, Option.bind_some, M.isReader r0 r1 n0 n1, Option.bind_some]
  by_cases z : 0 ≤ rd ∧ rd < v 14
  · have z2 : ¬ (0 ≤ p ∧ p < g 1 4 ∧ 0 ≤ b ∧ b < g 1 4 ∧ p ≠ b) := fun e => no ⟨z, e⟩
    rw [if_pos (decide_eq_true z), M.areTwo R p0 p1 b0 b1, Option.bind_some, decide_eq_false z2, if_neg Bool.false_ne_true]
  · rw [decide_eq_false z, if_neg Bool.false_ne_true]
theorem MO.tells (M : MO h m v se g gl) (R : RI (g 1)) {rd p q b : Int} {u : Nat → Int} {cd sg cl : Int → Int} {nc : Int} (Y : RM g rd u cd sg cl nc) (n0 : 0 ≤ v 14) (n1 : v 14 ≤ 8) (r0 : 0 ≤ rd) (r1 : rd < v 14) (p0 : 0 ≤ p) (p1 : p < g 1 4) (q0 : 0 ≤ q) (q1 : q < g 1 4) (b0 : 0 ≤ b) (b1 : b < g 1 4) (hpq : p ≠ q) (hpb : p ≠ b) (hqb : q ≠ b) : ∃ h' v' gl', f9_tells h m (I rd) (I p) (I q) (I b) = some (I (cvl (g 1) p b sg cl nc - cvl (g 1) q b sg cl nc), h') ∧ MO h' m v' se g gl' ∧ (∀ j, j ≠ 26 → v' j = v j) ∧ Fr m (m + 24) h h' := by
  have bb := R.1
  obtain ⟨h1, v1, gl1, e1, M1, V1, F1⟩ := M.chOf R Y r0 (by omega) p0 p1 b0 b1
  obtain ⟨h2, v2, gl2, e2, M2, V2, F2⟩ := M1.chOf R Y r0 (by omega) q0 q1 b0 b1
  refine ⟨h2, v2, gl2, ?_, M2, fun j hj => by rw [V2 j hj, V1 j hj], F1.trans F2⟩
  rw [f9_tells, M.o, Option.bind_some, M.isReader (by omega) (by omega) n0 n1, Option.bind_some, if_pos (decide_eq_true ⟨r0, r1⟩), M.areTwo R (p := p) (q := q) (by omega) (by omega) (by omega) (by omega), Option.bind_some, if_pos (decide_eq_true ⟨p0, p1, q0, q1, hpq⟩), M.areTwo R (p := p) (q := b) (by omega) (by omega) (by omega) (by omega), Option.bind_some, if_pos (decide_eq_true ⟨p0, p1, b0, b1, hpb⟩), M.areTwo R (p := q) (q := b) (by omega) (by omega) (by omega) (by omega), Option.bind_some, if_pos (decide_eq_true ⟨q0, q1, b0, b1, hqb⟩), e1, Option.bind_some, e2, Option.bind_some, I_sub]
theorem MO.tellsN (M : MO h m v se g gl) (R : RI (g 1)) (n0 : 0 ≤ v 14) (n1 : v 14 ≤ 8) {rd p q b : Int} (r0 : -2147483648 ≤ rd) (r1 : rd < 2147483648) (p0 : -2147483648 ≤ p) (p1 : p < 2147483648) (q0 : -2147483648 ≤ q) (q1 : q < 2147483648) (b0 : -2147483648 ≤ b) (b1 : b < 2147483648) (no : ¬ ((0 ≤ rd ∧ rd < v 14) ∧ (0 ≤ p ∧ p < g 1 4 ∧ 0 ≤ q ∧ q < g 1 4 ∧ p ≠ q) ∧ (0 ≤ p ∧ p < g 1 4 ∧ 0 ≤ b ∧ b < g 1 4 ∧ p ≠ b) ∧ (0 ≤ q ∧ q < g 1 4 ∧ 0 ≤ b ∧ b < g 1 4 ∧ q ≠ b))) : f9_tells h m (I rd) (I p) (I q) (I b) = some (I (-2000), h) := by
  rw [f9_tells]
  simp only [I_lit, I_neg]
  rw [M.o, Option.bind_some, M.isReader r0 r1 n0 n1, Option.bind_some]
  by_cases z : 0 ≤ rd ∧ rd < v 14
  · rw [if_pos (decide_eq_true z), M.areTwo R p0 p1 q0 q1, Option.bind_some]
    by_cases z1 : 0 ≤ p ∧ p < g 1 4 ∧ 0 ≤ q ∧ q < g 1 4 ∧ p ≠ q
    · rw [if_pos (decide_eq_true z1), M.areTwo R p0 p1 b0 b1, Option.bind_some]
      by_cases z2 : 0 ≤ p ∧ p < g 1 4 ∧ 0 ≤ b ∧ b < g 1 4 ∧ p ≠ b
      · have z3 : ¬ (0 ≤ q ∧ q < g 1 4 ∧ 0 ≤ b ∧ b < g 1 4 ∧ q ≠ b) := fun e => no ⟨z, z1, z2, e⟩
        rw [if_pos (decide_eq_true z2), M.areTwo R q0 q1 b0 b1, Option.bind_some, decide_eq_false z3, if_neg Bool.false_ne_true]
      · rw [decide_eq_false z2, if_neg Bool.false_ne_true]
    · rw [decide_eq_false z1, if_neg Bool.false_ne_true]
  · rw [decide_eq_false z, if_neg Bool.false_ne_true]
theorem MO.look76 (M : MO h m v se g gl) (R : RI (g 1)) {rd p b tk wk : Int} (yes : Bool) {ys : Int} (ey : ys = if yes = true then 1 else 0) (n : g 1 6 < 200) (r0 : 0 ≤ rd) (r1 : rd < 14) (b0 : 0 ≤ b) (b1 : b < g 1 4) (ht : g 7 rd = tk) (t0 : 1 ≤ tk) (t1 : tk ≤ 99) (hw : wk = if 519 < g 1 0 + tk then 519 else g 1 0 + tk) : ∃ h', f9_look_76 h m (I rd) (I p) (I b) yes = some (I ys, h') ∧ MO h' m v se (uf g 1 (rLook (g 1) rd p (if g 1 (1330 + 10 * b) = 1 then 1 else 0) ys wk)) gl ∧ Fr m (m + 24) h h' := by
  have bb := R.1
  have so := (pi_rng R b0 b1).1
  have by_ : bI yes = I ys := by rw [bI_I, ey]
  obtain ⟨h1, e1, M1, F1⟩ := M.w1 (i := 3430 + 5 * g 1 6) rd (by omega) (by omega)
  obtain ⟨h2, e2, M2, F2⟩ := M1.w1 (i := 3430 + 5 * g 1 6 + 1) p (by omega) (by omega)
  rw [uf_eq, uf_uf] at M2
  obtain ⟨h3, e3, M3, F3⟩ := M2.w1 (i := 3430 + 5 * g 1 6 + 2) (if g 1 (1330 + 10 * b) = 1 then 1 else 0) (by omega) (by omega)
  rw [uf_eq, uf_uf] at M3
  obtain ⟨h4, e4, M4, F4⟩ := M3.w1 (i := 3430 + 5 * g 1 6 + 3) ys (by omega) (by omega)
  rw [uf_eq, uf_uf] at M4
  obtain ⟨h5, e5, M5, F5⟩ := M4.w1 (i := 3430 + 5 * g 1 6 + 4) wk (by omega) (by omega)
  rw [uf_eq, uf_uf] at M5
  obtain ⟨h6, e6, M6, F6⟩ := M5.w1 (i := 6) (g 1 6 + 1) (by omega) (by omega)
  rw [uf_eq, uf_uf] at M6
  refine ⟨h6, ?_, M6, ((((F1.trans F2).trans F3).trans F4).trans F5).trans F6⟩
  have pc2 : f9_pieceCell h2 m (I b) (I 0) = some (I (g 1 (1330 + 10 * b))) := by
    simp (disch := omega) only [f9_pieceCell, M2.o, M2.f0, M2.r1, uf_eq, up_ne, Int.add_zero, Option.bind_some, I_lit, I_neg, I_add, I_sub, I_mul, I_lt, I_le, I_eq, if_pos, if_neg, if_true, if_false, decide_eq_true_eq]
  have r5 : aI 0 h5 (m + 1) (I 6) = some (I (g 1 6)) := by
    have := M5.r1 (i := 6) (by omega) (by omega)
    simp (disch := omega) only [uf_eq, up_ne] at this
    exact this
  have L : ∀ s2 : Bool, bI s2 = I (if g 1 (1330 + 10 * b) = 1 then 1 else 0) → f9_look_149 h2 m yes (I (3430 + 5 * g 1 6)) (I (g 1 0 + tk)) (m + 1) (I (3430 + 5 * g 1 6) + I 2) s2 = some (I ys, h6) := fun s2 es => by
    rw [f9_look_149]
    simp only [I_lit, I_add]
    rw [es, e3, Option.bind_some, M3.f0, Option.bind_some, by_, e4, Option.bind_some, M4.f0, Option.bind_some]
    have l1 : (I 520 ≤ I (g 1 0 + tk)) = (520 ≤ g 1 0 + tk) := I_le (by omega) (by omega) (by omega) (by omega)
    by_cases z : 520 ≤ g 1 0 + tk
    · have z' : I 520 ≤ I (g 1 0 + tk) := by rw [l1]; exact z
      have ew : wk = 519 := by rw [hw, if_pos (by omega)]
      rw [ew] at e5
      rw [if_pos z', e5, Option.bind_some, M5.f0, Option.bind_some, r5, Option.bind_some, I_add, e6, Option.bind_some]
    · have z' : ¬ I 520 ≤ I (g 1 0 + tk) := by rw [l1]; exact z
      have ew : wk = g 1 0 + tk := by rw [hw, if_neg (by omega)]
      rw [ew] at e5
      rw [if_neg z', e5, Option.bind_some, M5.f0, Option.bind_some, r5, Option.bind_some, I_add, e6, Option.bind_some]
  rw [f9_look_76]
  simp only [I_lit]
  rw [M.f0, Option.bind_some, M.r1 (i := 6) (by omega) (by omega), Option.bind_some, I_mul, I_add, Option.bind_some, Option.bind_some, M.r1 (i := 0) (by omega) (by omega), Option.bind_some, M.f7, Option.bind_some, M.r7 r0 r1, Option.bind_some, ht, I_add, Option.bind_some, Option.bind_some, e1, Option.bind_some, M1.f0, Option.bind_some, I_add, e2, Option.bind_some, M2.f0, Option.bind_some, pc2, Option.bind_some]
  have l2 : (I (g 1 (1330 + 10 * b)) = I 1) = (g 1 (1330 + 10 * b) = 1) := I_eq (by omega) (by omega) (by omega) (by omega)
  have LT := L true
  have LF := L false
  by_cases z : g 1 (1330 + 10 * b) = 1
  · have z' : I (g 1 (1330 + 10 * b)) = I 1 := by rw [l2]; exact z
    rw [if_pos z']
    exact LT (by rw [if_pos z]; rfl)
  · have z' : ¬ I (g 1 (1330 + 10 * b)) = I 1 := by rw [l2]; exact z
    rw [if_neg z']
    exact LF (by rw [if_neg z]; rfl)
theorem MO.look (M : MO h m v se g gl) (R : RI (g 1)) {rd p b sd : Int} {u : Nat → Int} {cd sg cl : Int → Int} {nc : Int} (Y : RM g rd u cd sg cl nc) (n0 : 0 ≤ v 14) (n1 : v 14 ≤ 8) (ok : lkOK (g 1) (v 14) rd p b sd) (s1 : sd < 2147483648) : ∃ h' v' gl', f9_look h m (I rd) (I p) (I b) (I sd) = some (I (lky sd (cvl (g 1) p b sg cl nc)), h') ∧ MO h' m v' se (uf g 1 (lkR (g 1) rd p b sd (u 0) (cvl (g 1) p b sg cl nc))) gl' ∧ (∀ j, j ≠ 26 → v' j = v j) ∧ Fr m (m + 24) h h' := by
  have bb := R.1
  obtain ⟨⟨r0, r1⟩, ⟨p0, p1, b0, b1, hne⟩, s0, n6, hk⟩ := ok
  obtain ⟨h1, v1, gl1, e1, M1, V1, F1⟩ := M.chOf R Y r0 (by omega) p0 p1 b0 b1
  have cr := cvl_rng (g 1) p b sg cl nc
  have d1 := dr_rng sd
  obtain ⟨h2, e2, M2, F2⟩ := M1.look76 R (rd := rd) (p := p) (b := b) (decide (dr sd / 65536 % 1000 < cvl (g 1) p b sg cl nc)) (ys := lky sd (cvl (g 1) p b sg cl nc)) (by
    unfold lky
    by_cases z : dr sd / 65536 % 1000 < cvl (g 1) p b sg cl nc
    · rw [if_pos z, if_pos (decide_eq_true z)]
    · rw [if_neg z, if_neg (by simpa using z)]) n6 r0 (by omega) b0 b1 Y.2.2.2.1 Y.2.2.2.2.2.2.2.1 Y.2.2.2.2.2.2.2.2.1 (wk := lkw (g 1) (u 0)) rfl
  refine ⟨h2, v1, gl1, ?_, M2, V1, F1.trans F2⟩
  have D : f9_drawn h (J sd) = some (J (dr sd)) := drawn9_of s0 s1
  have g1 : ¬ (J 65536 = J 0) := by rw [J_eq (by omega) (by omega) (by omega) (by omega)]; omega
  have g2 : ¬ (J 1000 = J 0) := by rw [J_eq (by omega) (by omega) (by omega) (by omega)]; omega
  have g3 : J (dr sd) / J 65536 = J (dr sd / 65536) := J_div d1.1 (by omega) (by omega) (by omega)
  have g4 : J (dr sd / 65536) / J 1000 = J (dr sd / 65536 / 1000) := J_div (by omega) (by omega) (by omega) (by omega)
  have g5 : J (dr sd / 65536 / 1000) * J 1000 = J (dr sd / 65536 / 1000 * 1000) := J_mul _ _
  have l1 : (J (cvl (g 1) p b sg cl nc) ≤ J (dr sd / 65536 % 1000)) = (cvl (g 1) p b sg cl nc ≤ dr sd / 65536 % 1000) := J_le (by omega) (by omega) (by omega) (by omega)
  have l3 : (I sd < I 0) = (sd < 0) := I_lt (by omega) (by omega) (by omega) (by omega)
  have z3 : ¬ I sd < I 0 := by rw [l3]; omega
  have l4 : (I (g 1 6) = I 200) = (g 1 6 = 200) := I_eq (by omega) (by omega) (by omega) (by omega)
  have z4 : ¬ I (g 1 6) = I 200 := by rw [l4]; omega
  have ct : (I (cvl (g 1) p b sg cl nc)).toInt64 = J (cvl (g 1) p b sg cl nc) := I_toJ (by omega) (by omega)
  rw [f9_look]
  simp only [I_lit, J_lit]
  rw [M.o, Option.bind_some, M.f0, Option.bind_some, M.r1 (i := 6) (by omega) (by omega), Option.bind_some, if_neg z4, M.isReader (by omega) (by omega) n0 n1, Option.bind_some, if_pos (decide_eq_true ⟨r0, r1⟩), M.areTwo R (by omega) (by omega) (by omega) (by omega), Option.bind_some, if_pos (decide_eq_true ⟨p0, p1, b0, b1, hne⟩), if_neg z3, M.isClose R p0 p1, Option.bind_some, if_neg (show ¬ decide (g 1 0 < g 1 (1330 + 10 * p + 9)) = true by simp; omega), I_toJ (a := sd) (by omega) s1, D, Option.bind_some, if_neg g1, g3, Option.bind_some, if_neg g2, g4, g5, J_sub, sub_ed, Option.bind_some, e1, Option.bind_some, ct, ← e2]
  by_cases z : dr sd / 65536 % 1000 < cvl (g 1) p b sg cl nc
  · rw [if_neg (by rw [l1]; omega), decide_eq_true z]
  · rw [if_pos (by rw [l1]; omega), decide_eq_false z]
theorem MO.lookN (M : MO h m v se g gl) (R : RI (g 1)) (n0 : 0 ≤ v 14) (n1 : v 14 ≤ 8) {rd p b sd : Int} (r0 : -2147483648 ≤ rd) (r1 : rd < 2147483648) (p0 : -2147483648 ≤ p) (p1 : p < 2147483648) (b0 : -2147483648 ≤ b) (b1 : b < 2147483648) (s0 : -2147483648 ≤ sd) (s1 : sd < 2147483648) (no : ¬ lkOK (g 1) (v 14) rd p b sd) : f9_look h m (I rd) (I p) (I b) (I sd) = some (I (-1), h) := by
  have bb := R.1
  have l3 : (I sd < I 0) = (sd < 0) := I_lt (by omega) (by omega) (by omega) (by omega)
  have l4 : (I (g 1 6) = I 200) = (g 1 6 = 200) := I_eq (by omega) (by omega) (by omega) (by omega)
  rw [f9_look]
  simp only [I_lit, J_lit, I_neg]
  rw [M.o, Option.bind_some, M.f0, Option.bind_some, M.r1 (i := 6) (by omega) (by omega), Option.bind_some]
  by_cases z0 : g 1 6 = 200
  · have z0' : I (g 1 6) = I 200 := by rw [l4]; exact z0
    rw [if_pos z0']
  · have z0' : ¬ I (g 1 6) = I 200 := by rw [l4]; exact z0
    rw [if_neg z0', M.isReader r0 r1 n0 n1, Option.bind_some]
    by_cases z : 0 ≤ rd ∧ rd < v 14
    · rw [if_pos (decide_eq_true z), M.areTwo R p0 p1 b0 b1, Option.bind_some]
      by_cases z1 : 0 ≤ p ∧ p < g 1 4 ∧ 0 ≤ b ∧ b < g 1 4 ∧ p ≠ b
      · rw [if_pos (decide_eq_true z1)]
        by_cases z2 : sd < 0
        · have z2' : I sd < I 0 := by rw [l3]; exact z2
          rw [if_pos z2']
        · have z2' : ¬ I sd < I 0 := by rw [l3]; exact z2
          have z4 : g 1 0 < g 1 (1330 + 10 * p + 9) := by
            by_cases t : g 1 0 < g 1 (1330 + 10 * p + 9)
            · exact t
            · exact absurd ⟨z, z1, by omega, by omega, by omega⟩ no
          rw [if_neg z2', M.isClose R z1.1 z1.2.1, Option.bind_some, if_pos (decide_eq_true z4)]
      · rw [decide_eq_false z1, if_neg Bool.false_ne_true]
    · rw [decide_eq_false z, if_neg Bool.false_ne_true]
end
