section
variable {h h' : AH} {m : Nat} {v : Nat → Int} {se : Int64} {g : Nat → Int → Int} {gl : Nat → Int → Int64} {u : Nat → Int} {sr : Int → Int}
theorem MM.uf1 {t : Int} {r : Int → Int} (Y : MM g t u sr) : MM (uf g 1 r) t u sr := by
  obtain ⟨y0, y1, y2, y3, y4⟩ := Y
  exact ⟨by rw [uf_ne (by omega)]; exact y0, by rw [uf_ne (by omega)]; exact y1, by rw [uf_ne (by omega)]; exact y2, by rw [uf_ne (by omega)]; exact y3, fun i i0 i1 => by rw [uf_ne (by omega)]; exact y4 i i0 i1⟩
set_option maxHeartbeats 400000 in
theorem MO.wT {r0 : Int → Int} (X : MI u sr) {t p day n : Int} (t0 : 0 ≤ t) (t1 : t < 14) (Y : MM g t u sr) (p0 : 0 ≤ p) (p1 : p < r0 4) (d0 : 0 ≤ day) (d1 : day ≤ 9999) (n1 : n ≤ 60) : ∀ (k f : Nat) (h : AH) (r : Int → Int) (x add i : Int), MO h m v (J x) (uf g 1 r) gl → sameM r0 r p (day + i) → r 5 + mkC r0 (u 1) (u 4) sr p k (day + i) x ≤ 400 → 0 ≤ x → x < 2147483648 → 0 ≤ i → i + k = n → k < f → ∃ h' se', f9_works_13 m (I t) (I p) (I day) (I n) true f h (I add) (I i) = some (I (add + mkC r0 (u 1) (u 4) sr p k (day + i) x), h') ∧ MO h' m v se' (uf g 1 (mkR r0 (u 1) (u 4) sr p k (day + i) x r)) gl ∧ Fr m (m + 24) h h' := by
  intro k
  induction k with
  | zero =>
    intro f h r x add i M S n5 x0 x1 i0 i1 hf
    have ei : i = n := by omega
    subst ei
    cases f with
    | zero => omega
    | succ f =>
      refine ⟨h, _, ?_, M, Fr.refl _ _ _⟩
      rw [f9_works_13, if_pos (Int32.le_refl _)]
      simp only [mkC, Int.add_zero]
  | succ k ih =>
    intro f h r x add i M S n5 x0 x1 i0 i1 hf
    cases f with
    | zero => omega
    | succ f =>
      have R := S.1
      have b := R.1
      have s4 := S.2.2.2.2.1
      have r2 := dr_rng (dr x)
      obtain ⟨h1, e1, M1, F1⟩ := M.placeBy (by rw [uf_eq]; exact R) X t0 t1 Y.uf1 (d := day + i) (by omega) (by omega) x0 x1
      rw [uf_eq] at e1
      have mk := mkP_rng R (u 1) (u 4) sr p (day + i) x
      have em : mkP r (u 1) (u 4) sr p (day + i) x = if day + i ≤ 9999 ∧ hd r p (day + i) = false then (if dr x / 65536 % 1000 < u 1 then plS r (u 4) sr (day + i) (dr (dr x)) else plN r (u 4) sr (day + i)) else -1 := rfl
      rw [S.mkPe] at em mk
      have lr : -1 ≤ (if dr x / 65536 % 1000 < u 1 then plS r (u 4) sr (day + i) (dr (dr x)) else plN r (u 4) sr (day + i)) ∧ (if dr x / 65536 % 1000 < u 1 then plS r (u 4) sr (day + i) (dr (dr x)) else plN r (u 4) sr (day + i)) ≤ 99 := by
        split
        · exact plS_rng R _ _ _ _
        · exact plN_rng R _ _ _
      have cr := mkC_rng r0 (u 1) (u 4) sr p k (day + i + 1) (dr (dr x))
      rw [mkC_s] at n5
      rw [mkC_s, mkR_s, ← Int.add_assoc add]
      rw [show day + i + 1 = day + (i + 1) by omega] at n5 cr ⊢
      generalize (if dr x / 65536 % 1000 < u 1 then plS r (u 4) sr (day + i) (dr (dr x)) else plN r (u 4) sr (day + i)) = l at *
      generalize hmk : mkP r0 (u 1) (u 4) sr p (day + i) x = mk_ at *
      have hu : ∀ k, uf g 1 r 1 k = r k := fun k => by rw [uf_eq]
      have R1 : RI (uf g 1 r 1) := by rw [uf_eq]; exact R
      by_cases z : mk_ = -1
      · rw [if_pos z] at n5 ⊢
        rw [if_pos z]
        obtain ⟨h2, s2, e2, M2, F2⟩ := ih f h1 r (dr (dr x)) (add + 0) (i + 1) M1 (S.mono (by omega)) (by omega) r2.1 r2.2 (by omega) (by omega) (by omega)
        refine ⟨h2, s2, ?_, M2, F1.trans F2⟩
        rw [← e2, Int.add_zero]
        by_cases q1 : l = -1
        · simp (disch := omega) only [f9_works_13, e1, q1, Option.bind_some, I_lit, I_neg, I_add, I_sub, I_mul, I_lt, I_le, I_eq, if_pos, if_neg, if_true, if_false, decide_eq_true_eq]
        · by_cases q2 : day + i ≤ 9999
          · have hh := M1.hasDay R1 (p := p) (d := day + i) (by omega) (by omega) (by omega) (by omega)
            rw [uf_eq] at hh
            cases q3 : hd r p (day + i)
            · rw [if_pos ⟨q2, q3⟩] at em
              omega
            · rw [q3] at hh
              simp (disch := omega) only [f9_works_13, e1, isDay_of, hh, Option.bind_some, I_lit, I_neg, I_add, I_sub, I_mul, I_lt, I_le, I_eq, if_pos, if_neg, if_true, if_false, decide_eq_true_eq, Bool.false_eq_true, and_self]
          · simp (disch := omega) only [f9_works_13, e1, isDay_of, Option.bind_some, I_lit, I_neg, I_add, I_sub, I_mul, I_lt, I_le, I_eq, if_pos, if_neg, if_true, if_false, decide_eq_true_eq, Bool.false_eq_true]
      · have q : day + i ≤ 9999 ∧ hd r p (day + i) = false := by
          by_cases g : day + i ≤ 9999 ∧ hd r p (day + i) = false
          · exact g
          · rw [if_neg g] at em; exact absurd em z
        rw [if_pos q] at em
        subst em
        rw [if_neg z] at n5 ⊢
        rw [if_neg z]
        have hh := M1.hasDay R1 (p := p) (d := day + i) (by omega) (by omega) (by omega) (by omega)
        rw [uf_eq, q.2] at hh
        obtain ⟨h2, e2, M2, F2⟩ := M1.adds R1 (p := p) (d := day + i) (l := mk_) (by rw [hu]; omega)
        rw [uf_eq, uf_uf] at M2
        have S1 := S.page (by omega) p0 (by omega) (by omega) q.1 (l := mk_) (by omega) (by omega)
        rw [Int.add_assoc] at S1
        obtain ⟨h3, s3, e3, M3, F3⟩ := ih f h2 (rPage r p (day + i) mk_) (dr (dr x)) (add + 1) (i + 1) M2 S1 (by rw [rPage5]; omega) r2.1 r2.2 (by omega) (by omega) (by omega)
        refine ⟨h3, s3, ?_, M3, (F1.trans F2).trans F3⟩
        rw [← e3]
        simp (disch := omega) only [f9_works_13, e1, isDay_of, hh, e2, Option.bind_some, I_lit, I_neg, I_add, I_sub, I_mul, I_lt, I_le, I_eq, if_pos, if_neg, if_true, if_false, decide_eq_true_eq, Bool.false_eq_true, and_self]
theorem MO.hisL (M : MO h m v se g gl) (R : RI (g 1)) (X : MI u sr) {t d l : Int} (t0 : 0 ≤ t) (t1 : t < 14) (Y : MM g t u sr) (d0 : 0 ≤ d) (d1 : d ≤ 9999) (l0 : 0 ≤ l) (l1 : l ≤ 99) : ∀ (f : Nat) (i : Int), 0 ≤ i → i ≤ u 4 → u 4 - i < f → f9_isHis_46 h m (I t) (I d) (I l) f (I i) = some (decide (0 < cn (fun i => decide (Fl (g 1) (sr i) d = l)) (u 4 - i).toNat i)) := by
  intro f
  have b := X.1
  obtain ⟨y0, y1, y2, y3, y4⟩ := Y
  induction f with
  | zero => intro i h0 h1; omega
  | succ f ih =>
    intro i i0 i1 i2
    by_cases q : i < u 4
    · have tr := Fl_rng R (sr i) d
      have xs := X.2 i i0 q
      have ys := y4 i i0 q
      have ih' := ih (i + 1) (by omega) (by omega) (by omega)
      have nn := cn_nn (fun i => decide (Fl (g 1) (sr i) d = l)) (u 4 - (i + 1)).toNat (i + 1)
      rw [cn_suc _ q]
      by_cases k : Fl (g 1) (sr i) d = l
      · rw [if_pos (decide_eq_true k), decide_eq_true (by omega)]
        simp (disch := omega) only [f9_isHis_46, M.f12, M.r12, M.f11, M.r11, y3, ys, M.factOf R, k, Option.bind_some, I_lit, I_neg, I_add, I_sub, I_mul, I_lt, I_le, I_eq, if_pos, if_neg, if_true, if_false, decide_eq_true_eq]
      · rw [if_neg (by simpa using k), Int.zero_add]
        simp (disch := omega) only [f9_isHis_46, M.f12, M.r12, M.f11, M.r11, y3, ys, M.factOf R, Option.bind_some, I_lit, I_neg, I_add, I_sub, I_mul, I_lt, I_le, I_eq, if_pos, if_neg, if_true, if_false, decide_eq_true_eq, ih']
    · rw [cn_end _ q]
      simp (disch := omega) only [f9_isHis_46, M.f12, M.r12, y3, Option.bind_some, I_lit, I_neg, I_add, I_sub, I_mul, I_lt, I_le, I_eq, if_pos, if_neg, if_true, if_false, decide_eq_true_eq]
      rfl
  done
theorem MO.isHis (M : MO h m v se g gl) (R : RI (g 1)) (X : MI u sr) {t k : Int} (t0 : 0 ≤ t) (t1 : t < 14) (Y : MM g t u sr) (k0 : 0 ≤ k) (k1 : k < g 1 5) : f9_isHis h m (I t) (I k) = some (cwr (g 1) (u 4) sr (g 1 (2230 + 3 * k + 1)) (g 1 (2230 + 3 * k + 2))) := by
  have b := X.1
  have bb := R.1
  have fu := FU_big
  have pr := pg_rng R k0 k1
  have t' := Tl_rng R (g 1 (2230 + 3 * k + 1))
  have L := M.hisL R X t0 t1 Y (d := g 1 (2230 + 3 * k + 1)) (l := g 1 (2230 + 3 * k + 2)) (by omega) (by omega) (by omega) (by omega) FU 0 (by omega) (by omega) (by omega)
  rw [Int.sub_zero] at L
  unfold cwr
  by_cases z : Tl (g 1) (g 1 (2230 + 3 * k + 1)) = g 1 (2230 + 3 * k + 2)
  · rw [decide_eq_true z, Bool.true_or]
    simp (disch := omega) only [f9_isHis, M.o, M.f0, M.r1, M.truthOf R, Option.bind_some, I_lit, I_neg, I_add, I_sub, I_mul, I_lt, I_le, I_eq, if_pos, if_neg, if_true, if_false, decide_eq_true_eq, z]
  · rw [decide_eq_false z, Bool.false_or]
    simp (disch := omega) only [f9_isHis, M.o, M.f0, M.r1, M.truthOf R, Option.bind_some, I_lit, I_neg, I_add, I_sub, I_mul, I_lt, I_le, I_eq, if_pos, if_neg, if_true, if_false, decide_eq_true_eq, L]
theorem MO.c58 (M : MO h m v se g gl) (R : RI (g 1)) (X : MI u sr) {t p : Int} (t0 : 0 ≤ t) (t1 : t < 14) (Y : MM g t u sr) (p0 : -2147483648 ≤ p) (p1 : p < 2147483648) (kk : Int32 → Int32 → Option Int32) (a b : Int32) : ∀ (f : Nat) (fl : Bool) (i : Int), 0 ≤ i → i ≤ g 1 5 → g 1 5 - i < f → f9_could_58 kk h m (I p) a b (I t) f fl (I i) = f9_could_115 kk h m (I p) a b (fl && decide (cn (fun k => decide (g 1 (2230 + 3 * k) = p) && !(cwr (g 1) (u 4) sr (g 1 (2230 + 3 * k + 1)) (g 1 (2230 + 3 * k + 2)))) (g 1 5 - i).toNat i = 0)) := by
  intro f
  have bb := R.1
  induction f with
  | zero => intro fl i h0 h1; omega
  | succ f ih =>
    intro fl i i0 i1 i2
    by_cases q : i < g 1 5
    · have pr := pg_rng R i0 q
      have nn := cn_nn (fun k => decide (g 1 (2230 + 3 * k) = p) && !(cwr (g 1) (u 4) sr (g 1 (2230 + 3 * k + 1)) (g 1 (2230 + 3 * k + 2)))) (g 1 5 - (i + 1)).toNat (i + 1)
      have ih' := fun fl => ih fl (i + 1) (by omega) (by omega) (by omega)
      rw [cn_suc _ q]
      cases fl
      · rw [Bool.false_and]
        simp (disch := omega) only [f9_could_58, M.f0, M.r1, Option.bind_some, I_lit, I_neg, I_add, I_sub, I_mul, I_lt, I_le, I_eq, if_pos, if_neg, if_true, if_false, decide_eq_true_eq, Bool.false_eq_true]
      · rw [Bool.true_and]
        by_cases k1 : g 1 (2230 + 3 * i) = p
        · have hs := M.isHis R X t0 t1 Y i0 q
          cases k2 : cwr (g 1) (u 4) sr (g 1 (2230 + 3 * i + 1)) (g 1 (2230 + 3 * i + 2))
          · rw [k2] at hs
            rw [if_pos (by simp [k1]), decide_eq_false (by omega)]
            simp (disch := omega) only [f9_could_58, M.f0, M.r1, k1, hs, Option.bind_some, I_lit, I_neg, I_add, I_sub, I_mul, I_lt, I_le, I_eq, if_pos, if_neg, if_true, if_false, decide_eq_true_eq, Bool.false_eq_true, ih', Bool.false_and]
          · rw [k2] at hs
            rw [if_neg (by simp), Int.zero_add]
            simp (disch := omega) only [f9_could_58, M.f0, M.r1, k1, hs, Option.bind_some, I_lit, I_neg, I_add, I_sub, I_mul, I_lt, I_le, I_eq, if_pos, if_neg, if_true, if_false, decide_eq_true_eq, ih', Bool.true_and]
        · rw [if_neg (by simp [k1]), Int.zero_add]
          simp (disch := omega) only [f9_could_58, M.f0, M.r1, k1, Option.bind_some, I_lit, I_neg, I_add, I_sub, I_mul, I_lt, I_le, I_eq, if_pos, if_neg, if_true, if_false, decide_eq_true_eq, ih', Bool.true_and]
    · rw [cn_end _ q]
      simp (disch := omega) only [f9_could_58, M.f0, M.r1, Option.bind_some, I_lit, I_neg, I_add, I_sub, I_mul, I_lt, I_le, I_eq, if_pos, if_neg, if_true, if_false, decide_eq_true_eq]
      simp only [decide_true, Bool.and_true]
  done
theorem MO.couldL (M : MO h m v se g gl) (R : RI (g 1)) {mu : Int → Nat → Int} {ms : Int → Int → Int} (n0 : 0 ≤ v 15) (n1 : v 15 ≤ 6) (hm : ∀ k, 0 ≤ k → k < v 15 → MM g (8 + k) (mu k) (ms k) ∧ MI (mu k) (ms k)) {p : Int} (p0 : 0 ≤ p) (p1 : p < g 1 4) : ∀ (f : Nat) (i : Int), 0 ≤ i → i ≤ v 15 → v 15 - i < f → f9_could_14 h m (I p) f (I (bs (fun k => cmk (g 1) (mu k 2) (mu k 4) (ms k) p) i.toNat)) (I i) = some (I (bs (fun k => cmk (g 1) (mu k 2) (mu k 4) (ms k) p) (v 15).toNat)) := by
  intro f
  have bb := R.1
  have fu := FU_big
  induction f with
  | zero => intro i h0 h1; omega
  | succ f ih =>
    intro i i0 i1 i2
    by_cases q : i < v 15
    · obtain ⟨Y, X⟩ := hm i i0 q
      have ih' := ih (i + 1) (by omega) (by omega) (by omega)
      have bu := bs_up (q := fun k => cmk (g 1) (mu k 2) (mu k 4) (ms k) p) i0 q n1
      have L := fun fl => M.c58 R X (t := 8 + i) (p := p) (by omega) (by omega) Y (by omega) (by omega) (fun v2 v3 => f9_could_14 h m (I p) f v2 v3) (I (bs (fun k => cmk (g 1) (mu k 2) (mu k 4) (ms k) p) i.toNat)) (I i) FU fl 0 (by omega) (by omega) (by omega)
      have y2 := Y.2.2.1
      have e : cmk (g 1) (mu i 2) (mu i 4) (ms i) p = (sbs (g 1 (1330 + 10 * p + 6)) (mu i 2) && decide (cn (fun k => decide (g 1 (2230 + 3 * k) = p) && !(cwr (g 1) (mu i 4) (ms i) (g 1 (2230 + 3 * k + 1)) (g 1 (2230 + 3 * k + 2)))) (g 1 5 - 0).toNat 0 = 0)) := by
        rw [Int.sub_zero]; rfl
      have step : f9_could_14 h m (I p) (f + 1) (I (bs (fun k => cmk (g 1) (mu k 2) (mu k 4) (ms k) p) i.toNat)) (I i) = f9_could_115 (fun v2 v3 => f9_could_14 h m (I p) f v2 v3) h m (I p) (I (bs (fun k => cmk (g 1) (mu k 2) (mu k 4) (ms k) p) i.toNat)) (I i) (cmk (g 1) (mu i 2) (mu i 4) (ms i) p) := by
        rw [e, f9_could_14]
        have g0 : ¬ I (v 15) ≤ I i := by rw [I_le (by omega) (by omega) (by omega) (by omega)]; omega
        rw [M.f15, Option.bind_some, if_neg g0, I_lit 8, I_add, Option.bind_some, I_lit 6, M.cell R (k := 6) p0 p1 (by omega) (by omega), Option.bind_some, M.f13, Option.bind_some, M.r13 (i := 8 + i) (by omega) (by omega), Option.bind_some, y2]
        simp only [I_lit, I_neg]
        by_cases z : (I (g 1 (1330 + 10 * p + 6)) &&& (I (mu i 2) ^^^ I (-1))) = I 0
        · rw [if_pos z, L]
          unfold sbs
          rw [decide_eq_true z]
        · rw [if_neg z, L]
          unfold sbs
          rw [decide_eq_false z]
      rw [step]
      cases k : cmk (g 1) (mu i 2) (mu i 4) (ms i) p
      · rw [bs_skip (q := fun k => cmk (g 1) (mu k 2) (mu k 4) (ms k) p) i0 k] at ih'
        simp (disch := omega) only [f9_could_115, Option.bind_some, I_lit, I_neg, I_add, I_sub, I_mul, I_lt, I_le, I_eq, if_pos, if_neg, if_true, if_false, decide_eq_true_eq, Bool.false_eq_true, I_or, ori_0, ih']
      · rw [← bs_or (q := fun k => cmk (g 1) (mu k 2) (mu k 4) (ms k) p) i0 (by omega) k] at ih'
        simp (disch := omega) only [f9_could_115, Option.bind_some, I_lit, I_neg, I_add, I_sub, I_mul, I_lt, I_le, I_eq, if_pos, if_neg, if_true, if_false, decide_eq_true_eq]
        exact ih'
    · have : i = v 15 := by omega
      subst this
      simp (disch := omega) only [f9_could_14, M.f15, Option.bind_some, I_lit, I_neg, I_add, I_sub, I_mul, I_lt, I_le, I_eq, if_pos, if_neg, if_true, if_false, decide_eq_true_eq]
  done
end
