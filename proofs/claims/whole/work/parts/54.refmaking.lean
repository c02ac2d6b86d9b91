/-! the reference: what a MAKER adds, whose it could be -/
def MM (g : Nat → Int → Int) (t : Int) (u : Nat → Int) (sr : Int → Int) : Prop := g 9 t = u 0 ∧ g 10 t = u 1 ∧ g 13 t = u 2 ∧ g 12 t = u 4 ∧ ∀ i, 0 ≤ i → i < u 4 → g 11 (12 * t + i) = sr i
section
variable {h h' : AH} {m : Nat} {v : Nat → Int} {se : Int64} {g : Nat → Int → Int} {gl : Nat → Int → Int64} {u : Nat → Int} {sr : Int → Int}
theorem MO.p111 (M : MO h m v se g gl) (R : RI (g 1)) (X : MI u sr) {t d : Int} (t0 : 0 ≤ t) (t1 : t < 14) (Y : MM g t u sr) (d0 : 0 ≤ d) (d1 : d ≤ 20000) : ∀ (f : Nat) (l i : Int), 0 ≤ i → i ≤ u 4 → u 4 - i < f → -1 ≤ l → l ≤ 99 → f9_placeBy_111 h m (I t) (I d) f (I l) (I i) = some (I (if l = -1 then fsr (fun i => Fl (g 1) (sr i) d) (u 4) i else l), h) := by
  intro f
  have b := X.1
  obtain ⟨y0, y1, y2, y3, y4⟩ := Y
  induction f with
  | zero => intro l i h0 h1; omega
  | succ f ih =>
    intro l i i0 i1 i2 l0 l1
    by_cases q : i < u 4
    · have tr := Fl_rng R (sr i) d
      have xs := X.2 i i0 q
      have ys := y4 i i0 q
      by_cases k : l = -1
      · have ih' := ih (Fl (g 1) (sr i) d) (i + 1) (by omega) (by omega) (by omega) tr.1 tr.2
        subst k
        rw [if_pos rfl]
        unfold fsr at ih' ⊢
        rw [fst_suc _ _ q]
        simp (disch := omega) only [f9_placeBy_111, M.f12, M.r12, M.f11, M.r11, y3, ys, M.factOf R, Option.bind_some, I_lit, I_neg, I_add, I_sub, I_mul, I_lt, I_le, I_eq, if_pos, if_neg, if_true, if_false, decide_eq_true_eq, ih']
        by_cases z : Fl (g 1) (sr i) d = -1
        · rw [if_pos z, if_neg (by simpa using z)]
        · rw [if_neg z, if_pos (by simpa using z)]
      · rw [if_neg k]
        simp (disch := omega) only [f9_placeBy_111, M.f12, M.r12, y3, Option.bind_some, I_lit, I_neg, I_add, I_sub, I_mul, I_lt, I_le, I_eq, if_pos, if_neg, if_true, if_false, decide_eq_true_eq]
    · unfold fsr
      rw [fst_end _ _ q]
      simp (disch := omega) only [f9_placeBy_111, M.f12, M.r12, y3, Option.bind_some, I_lit, I_neg, I_add, I_sub, I_mul, I_lt, I_le, I_eq, if_pos, if_neg, if_true, if_false, decide_eq_true_eq]
      congr 3
      split <;> omega
  done
theorem MO.pbGo {x z1 s : Int} {h1 : AH} (M : MO h m v (J x) g gl) (D1 : f9_drawn h (J x) = some (J z1)) (e1 : fS 9 30 h m (.long (J z1)) = some h1) (M1 : MO h1 m v (J z1) g gl) {t : Int} (d : Int32) (t0 : 0 ≤ t) (t1 : t < 14) (y1 : g 10 t = s) (s0 : 0 ≤ s) (s1 : s ≤ 1000) (z0 : 0 ≤ z1) (z1' : z1 < 2147483648) : f9_placeBy h m (I t) d = f9_placeBy_39 h1 m (I t) d (decide (z1 / 65536 % 1000 < s)) := by
  have g1 : ¬ (J 65536 = J 0) := by rw [J_eq (by omega) (by omega) (by omega) (by omega)]; omega
  have g2 : ¬ (J 1000 = J 0) := by rw [J_eq (by omega) (by omega) (by omega) (by omega)]; omega
  have g3 : J z1 / J 65536 = J (z1 / 65536) := J_div z0 (by omega) (by omega) (by omega)
  have g4 : J (z1 / 65536) / J 1000 = J (z1 / 65536 / 1000) := J_div (by omega) (by omega) (by omega) (by omega)
  have g5 : J (z1 / 65536 / 1000) * J 1000 = J (z1 / 65536 / 1000 * 1000) := J_mul _ _
  rw [f9_placeBy]
  simp only [J_lit]
  rw [M.o, Option.bind_some, M.f30, Option.bind_some, D1, Option.bind_some, e1, Option.bind_some, M1.f30, Option.bind_some, if_neg g1, g3, Option.bind_some, if_neg g2, g4, g5, J_sub, sub_ed, Option.bind_some, M1.f10, Option.bind_some, M1.r10 t0 t1, Option.bind_some, y1, I_toJ (by omega) (by omega)]
  by_cases z : z1 / 65536 % 1000 < s
  · rw [if_neg (by rw [J_le (by omega) (by omega) (by omega) (by omega)]; omega), decide_eq_true z]
  · rw [if_pos (by rw [J_le (by omega) (by omega) (by omega) (by omega)]; omega), decide_eq_false z]
theorem MO.pbS {z1 z2 : Int} {h1 : AH} (M : MO h m v (J z1) g gl) (R : RI (g 1)) (X : MI u sr) (D2 : f9_drawn h (J z1) = some (J z2)) (e2 : fS 9 30 h m (.long (J z2)) = some h1) (M2 : MO h1 m v (J z2) g gl) {t d : Int} (t0 : 0 ≤ t) (t1 : t < 14) (Y : MM g t u sr) (d0 : 0 ≤ d) (d1 : d ≤ 20000) (z0 : 0 ≤ z2) (z1' : z2 < 2147483648) : f9_placeBy_39 h m (I t) (I d) true = some (I (plS (g 1) (u 4) sr d z2), h1) := by
  have b := X.1
  obtain ⟨y0, y1, y2, y3, y4⟩ := Y
  unfold plS
  rw [f9_placeBy_39, M.f30, Option.bind_some, D2, Option.bind_some, e2, Option.bind_some, if_pos rfl, M2.f12, Option.bind_some, M2.r12 t0 t1, Option.bind_some, y3]
  by_cases n : 0 < u 4
  · have m0 : 0 ≤ z2 / 65536 % u 4 := Int.emod_nonneg _ (by omega)
    have m1 : z2 / 65536 % u 4 < u 4 := Int.emod_lt_of_pos _ n
    have ys := y4 _ m0 m1
    have xs := X.2 _ m0 m1
    have g1 : ¬ (J 65536 = J 0) := by rw [J_eq (by omega) (by omega) (by omega) (by omega)]; omega
    have g6 : ¬ (J (u 4) = J 0) := by rw [J_eq (by omega) (by omega) (by omega) (by omega)]; omega
    have g3 : J z2 / J 65536 = J (z2 / 65536) := J_div z0 (by omega) (by omega) (by omega)
    simp only [J_lit]
    rw [if_pos n, if_neg (by rw [I_0, I_eq (by omega) (by omega) (by omega) (by omega)]; omega), M2.f11, Option.bind_some, M2.f30, Option.bind_some, if_neg g1, g3, Option.bind_some, Option.bind_some, M2.r12 t0 t1, Option.bind_some, y3, I_toJ (by omega) (by omega), if_neg g6, J_div (by omega) (by omega) (by omega) (by omega), J_mul, J_sub, sub_ed, Option.bind_some, J_toI, I_lit 12, I_mul, I_add, M2.r11 (i := 12 * t + z2 / 65536 % u 4) (by omega) (by omega), Option.bind_some, ys, M2.factOf R (s := sr (z2 / 65536 % u 4)) (by omega) (by omega) (by omega) (by omega), Option.bind_some]
  · rw [if_neg n, if_pos (by rw [show u 4 = 0 by omega, I_0]), I_1, I_neg]
theorem MO.pbN {z1 z2 : Int} {h1 : AH} (M : MO h m v (J z1) g gl) (R : RI (g 1)) (X : MI u sr) (D2 : f9_drawn h (J z1) = some (J z2)) (e2 : fS 9 30 h m (.long (J z2)) = some h1) (M2 : MO h1 m v (J z2) g gl) {t d : Int} (t0 : 0 ≤ t) (t1 : t < 14) (Y : MM g t u sr) (d0 : 0 ≤ d) (d1 : d ≤ 20000) : f9_placeBy_39 h m (I t) (I d) false = some (I (plN (g 1) (u 4) sr d), h1) := by
  have b := X.1
  have fu := FU_big
  have tr := Tl_rng R d
  have L := M2.p111 R X t0 t1 Y d0 d1 FU (Tl (g 1) d) 0 (by omega) (by omega) (by omega) tr.1 tr.2
  unfold plN
  rw [f9_placeBy_39, M.f30, Option.bind_some, D2, Option.bind_some, e2, Option.bind_some, if_neg Bool.false_ne_true, M2.truthOf R (by omega) (by omega), Option.bind_some, I_0, L]
theorem MO.placeBy {x : Int} (M : MO h m v (J x) g gl) (R : RI (g 1)) (X : MI u sr) {t d : Int} (t0 : 0 ≤ t) (t1 : t < 14) (Y : MM g t u sr) (d0 : 0 ≤ d) (d1 : d ≤ 20000) (x0 : 0 ≤ x) (x1 : x < 2147483648) : ∃ h', f9_placeBy h m (I t) (I d) = some (I (if dr x / 65536 % 1000 < u 1 then plS (g 1) (u 4) sr d (dr (dr x)) else plN (g 1) (u 4) sr d), h') ∧ MO h' m v (J (dr (dr x))) g gl ∧ Fr m (m + 24) h h' := by
  have b := X.1
  have r1 := dr_rng x
  have r2 := dr_rng (dr x)
  obtain ⟨h1, e1, M1, F1⟩ := M.s30 (J (dr x))
  obtain ⟨h2, e2, M2, F2⟩ := M1.s30 (J (dr (dr x)))
  have go := M.pbGo (drawn9_of x0 x1) e1 M1 (I d) t0 t1 Y.2.1 (by omega) (by omega) r1.1 r1.2
  refine ⟨h2, go.trans ?_, M2, F1.trans F2⟩
  by_cases z : dr x / 65536 % 1000 < u 1
  · rw [decide_eq_true z, if_pos z]
    exact M1.pbS R X (drawn9_of r1.1 r1.2) e2 M2 t0 t1 Y d0 d1 r2.1 r2.2
  · rw [decide_eq_false z, if_neg z]
    exact M1.pbN R X (drawn9_of r1.1 r1.2) e2 M2 t0 t1 Y d0 d1
set_option maxHeartbeats 200000 in
theorem MO.wF (X : MI u sr) (R : RI (g 1)) {t p day n : Int} (t0 : 0 ≤ t) (t1 : t < 14) (Y : MM g t u sr) (p0 : 0 ≤ p) (p1 : p < g 1 4) (d0 : 0 ≤ day) (d1 : day ≤ 9999) (n1 : n ≤ 60) : ∀ (k f : Nat) (h : AH) (x add i : Int), MO h m v (J x) g gl → 0 ≤ x → x < 2147483648 → 0 ≤ i → i + k = n → k < f → ∃ h' se', f9_works_13 m (I t) (I p) (I day) (I n) false f h (I add) (I i) = some (I (add + mkC (g 1) (u 1) (u 4) sr p k (day + i) x), h') ∧ MO h' m v se' g gl ∧ Fr m (m + 24) h h' := by
  have b := R.1
  intro k
  induction k with
  | zero =>
    intro f h x add i M x0 x1 i0 i1 hf
    have ei : i = n := by omega
    subst ei
    cases f with
    | zero => omega
    | succ f =>
      refine ⟨h, _, ?_, M, Fr.refl _ _ _⟩
      rw [f9_works_13, if_pos (Int32.le_refl _)]
      simp only [mkC, Int.add_zero]
  | succ k ih =>
    intro f h x add i M x0 x1 i0 i1 hf
    cases f with
    | zero => omega
    | succ f =>
      have r2 := dr_rng (dr x)
      obtain ⟨h1, e1, M1, F1⟩ := M.placeBy R X t0 t1 Y (d := day + i) (by omega) (by omega) x0 x1
      have mk := mkP_rng R (u 1) (u 4) sr p (day + i) x
      have em : mkP (g 1) (u 1) (u 4) sr p (day + i) x = if day + i ≤ 9999 ∧ hd (g 1) p (day + i) = false then (if dr x / 65536 % 1000 < u 1 then plS (g 1) (u 4) sr (day + i) (dr (dr x)) else plN (g 1) (u 4) sr (day + i)) else -1 := rfl
      have lr : -1 ≤ (if dr x / 65536 % 1000 < u 1 then plS (g 1) (u 4) sr (day + i) (dr (dr x)) else plN (g 1) (u 4) sr (day + i)) ∧ (if dr x / 65536 % 1000 < u 1 then plS (g 1) (u 4) sr (day + i) (dr (dr x)) else plN (g 1) (u 4) sr (day + i)) ≤ 99 := by
        split
        · exact plS_rng R _ _ _ _
        · exact plN_rng R _ _ _
      rw [mkC_s, em, show day + i + 1 = day + (i + 1) by omega]
      generalize (if dr x / 65536 % 1000 < u 1 then plS (g 1) (u 4) sr (day + i) (dr (dr x)) else plN (g 1) (u 4) sr (day + i)) = l at *
      by_cases q1 : l = -1
      · obtain ⟨h2, s2, e2, M2, F2⟩ := ih f h1 (dr (dr x)) add (i + 1) M1 r2.1 r2.2 (by omega) (by omega) (by omega)
        have : (if day + i ≤ 9999 ∧ hd (g 1) p (day + i) = false then l else -1) = -1 := by split <;> omega
        rw [this, if_pos rfl, Int.zero_add]
        refine ⟨h2, s2, ?_, M2, F1.trans F2⟩
        rw [← e2]
        simp (disch := omega) only [f9_works_13, e1, q1, Option.bind_some, I_lit, I_neg, I_add, I_sub, I_mul, I_lt, I_le, I_eq, if_pos, if_neg, if_true, if_false, decide_eq_true_eq]
      · by_cases q2 : day + i ≤ 9999
        · have hh := M1.hasDay R (p := p) (d := day + i) (by omega) (by omega) (by omega) (by omega)
          cases q3 : hd (g 1) p (day + i)
          · obtain ⟨h2, s2, e2, M2, F2⟩ := ih f h1 (dr (dr x)) (add + 1) (i + 1) M1 r2.1 r2.2 (by omega) (by omega) (by omega)
            have : (if day + i ≤ 9999 ∧ false = false then l else -1) = l := if_pos ⟨q2, rfl⟩
            rw [q3] at hh
            rw [this, if_neg q1, ← Int.add_assoc add]
            refine ⟨h2, s2, ?_, M2, F1.trans F2⟩
            rw [← e2]
            simp (disch := omega) only [f9_works_13, e1, isDay_of, hh, Option.bind_some, I_lit, I_neg, I_add, I_sub, I_mul, I_lt, I_le, I_eq, if_pos, if_neg, if_true, if_false, decide_eq_true_eq, Bool.false_eq_true, and_self]
          · obtain ⟨h2, s2, e2, M2, F2⟩ := ih f h1 (dr (dr x)) add (i + 1) M1 r2.1 r2.2 (by omega) (by omega) (by omega)
            have : (if day + i ≤ 9999 ∧ true = false then l else -1) = -1 := if_neg (fun z => by cases z.2)
            rw [q3] at hh
            rw [this, if_pos rfl, Int.zero_add]
            refine ⟨h2, s2, ?_, M2, F1.trans F2⟩
            rw [← e2]
            simp (disch := omega) only [f9_works_13, e1, isDay_of, hh, Option.bind_some, I_lit, I_neg, I_add, I_sub, I_mul, I_lt, I_le, I_eq, if_pos, if_neg, if_true, if_false, decide_eq_true_eq, Bool.false_eq_true, and_self]
        · obtain ⟨h2, s2, e2, M2, F2⟩ := ih f h1 (dr (dr x)) add (i + 1) M1 r2.1 r2.2 (by omega) (by omega) (by omega)
          have : (if day + i ≤ 9999 ∧ hd (g 1) p (day + i) = false then l else -1) = -1 := if_neg (fun z => q2 z.1)
          rw [this, if_pos rfl, Int.zero_add]
          refine ⟨h2, s2, ?_, M2, F1.trans F2⟩
          rw [← e2]
          simp (disch := omega) only [f9_works_13, e1, isDay_of, Option.bind_some, I_lit, I_neg, I_add, I_sub, I_mul, I_lt, I_le, I_eq, if_pos, if_neg, if_true, if_false, decide_eq_true_eq, Bool.false_eq_true]
end
