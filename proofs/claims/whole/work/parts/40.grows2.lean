/-! the reference's GROWS, and what its scratch rows leave alone -/
def SG (g g' : Nat → Int → Int) : Prop := ∀ a, a ≤ 13 ∨ 22 ≤ a → g' a = g a
theorem SG.refl (g : Nat → Int → Int) : SG g g := fun _ _ => rfl
theorem SG.trans {g g1 g2 : Nat → Int → Int} (a : SG g g1) (b : SG g1 g2) : SG g g2 := fun k hk => (b k hk).trans (a k hk)
theorem SG.u (g : Nat → Int → Int) {k : Nat} (x : Int → Int) (h0 : 14 ≤ k) (h1 : k ≤ 21) : SG g (uf g k x) := fun a ha => uf_ne (by omega)
theorem gs_val {r : Int → Int} (R : RI r) : ∀ (n : Nat), (n : Int) ≤ r 4 → ∀ k, 0 ≤ k → k < (gs r n).2.1 → -519 ≤ (gs r n).2.2.1 k ∧ (gs r n).2.2.1 k ≤ 519 ∧ 0 ≤ (gs r n).2.2.2 k ∧ (gs r n).2.2.2 k ≤ 9999 := by
  intro n
  have b := R.1
  induction n with
  | zero => intro _ k h0 h1; simp only [Int.natCast_zero, gs_0] at h1; omega
  | succ n ih =>
    intro hn k h0 h1
    have ih' := ih (by omega) k h0
    have gr := gs_rng r n
    have y := (pi_rng R (k := n) (by omega) (by omega)).2.2.2.2.1
    rw [show ((n + 1 : Nat) : Int) = (n : Int) + 1 by omega] at h1 ⊢
    by_cases vv : r (1330 + 10 * (n : Int)) = 0
    · by_cases l0 : 0 ≤ (gs r n).1
      · have z := pi_rng R (k := (gs r n).1) l0 (by omega)
        have z1 := z.2.2.2.1
        have z2 := z.2.2.2.2.1
        have e : gs r ((n : Int) + 1) = ((n : Int), (gs r n).2.1 + 1, up (gs r n).2.2.1 (gs r n).2.1 (r (1330 + 10 * (n : Int) + 8) - r (1330 + 10 * (gs r n).1 + 8)), up (gs r n).2.2.2 (gs r n).2.1 (r (1330 + 10 * (gs r n).1 + 7))) := by
          rw [gs_s r (by omega)]
          unfold gx
          rw [if_pos vv, if_pos l0]
        rw [e] at h1 ⊢
        simp only [] at h1 ⊢
        by_cases c : k = (gs r n).2.1
        · rw [c, up_eq, up_eq]; omega
        · rw [up_ne c, up_ne c]; exact ih' (by omega)
      · rw [gs_first r (by omega) vv l0] at h1 ⊢
        exact ih' h1
    · rw [gs_skip r (by omega) vv] at h1 ⊢
      exact ih' h1
theorem gs_val' {r : Int → Int} (R : RI r) {k : Int} (h0 : 0 ≤ k) (h1 : k < (gs r (r 4)).2.1) : -519 ≤ (gs r (r 4)).2.2.1 k ∧ (gs r (r 4)).2.2.1 k ≤ 519 ∧ 0 ≤ (gs r (r 4)).2.2.2 k ∧ (gs r (r 4)).2.2.2 k ≤ 9999 := by
  have b := R.1
  have := gs_val R (r 4).toNat (by omega) k h0
  rw [Int.toNat_of_nonneg (by omega)] at this
  exact this h1
section
variable {h h' : AH} {m : Nat} {v : Nat → Int} {se : Int64} {g : Nat → Int → Int} {gl : Nat → Int → Int64}
theorem MO.g91 (M : MO h m v se g gl) (R : RI (g 1)) (hs : ∀ k, 0 ≤ k → k < (gs (g 1) (g 1 4)).2.1 → g 17 k = (gs (g 1) (g 1 4)).2.2.1 k ∧ g 18 k = (gs (g 1) (g 1 4)).2.2.2 k) {i : Int} (i0 : 0 ≤ i) (i1 : i < (gs (g 1) (g 1 4)).2.1) (mm : Int32) (kk : Int32 → Int32 → Option (Int32 × AH)) : ∀ (f : Nat) (a j : Int), 0 ≤ j → j ≤ i → i - j < f → f9_grows_91 kk h m mm (I i) f (I a) (I j) = kk (I (a + sm (fun j => gT (g 1) j i) (i - j).toNat j)) (I (i + 1)) := by
  intro f
  have b := R.1
  have gr := gs_rng' (g 1) (i := g 1 4) (by omega)
  induction f with
  | zero => intro a j h0 h1; omega
  | succ f ih =>
    intro a j j0 j1 j2
    by_cases c : j < i
    · have vi := gs_val' R i0 i1
      have vj := gs_val' R (k := j) j0 (by omega)
      have si := hs i i0 i1
      have sj := hs j j0 (by omega)
      have ih' := fun a => ih a (j + 1) (by omega) (by omega) (by omega)
      rw [sm_suc _ c, ← Int.add_assoc]
      have tt : gT (g 1) j i = -(sgn (g 18 i - g 18 j) * sgn (g 17 i - g 17 j)) := by
        unfold gT
        rw [si.1, si.2, sj.1, sj.2]
      rw [tt]
      rw [← si.1, ← si.2] at vi
      rw [← sj.1, ← sj.2] at vj
      by_cases k1 : g 18 i = g 18 j
      · have e : sgn (g 18 i - g 18 j) = 0 := by rw [k1, Int.sub_self]; rfl
        rw [e, Int.zero_mul, Int.neg_zero, Int.add_zero]
        simp (disch := omega) only [f9_grows_91, M.f28, M.f29, M.r17, M.r18, Option.bind_some, I_lit, I_neg, I_add, I_sub, I_mul, I_lt, I_le, I_eq, if_pos, if_neg, if_true, if_false, decide_eq_true_eq, ih']
      · by_cases k2 : g 17 i = g 17 j
        · have e : sgn (g 17 i - g 17 j) = 0 := by rw [k2, Int.sub_self]; rfl
          rw [e, Int.mul_zero, Int.neg_zero, Int.add_zero]
          simp (disch := omega) only [f9_grows_91, M.f28, M.f29, M.r17, M.r18, Option.bind_some, I_lit, I_neg, I_add, I_sub, I_mul, I_lt, I_le, I_eq, if_pos, if_neg, if_true, if_false, decide_eq_true_eq, ih']
        · by_cases k3 : g 18 j < g 18 i
          · have e1 : sgn (g 18 i - g 18 j) = 1 := by unfold sgn; rw [if_neg (by omega), if_pos (by omega)]
            by_cases k4 : g 17 j ≤ g 17 i
            · have e2 : sgn (g 17 i - g 17 j) = 1 := by unfold sgn; rw [if_neg (by omega), if_pos (by omega)]
              rw [e1, e2]
              simp (disch := omega) only [f9_grows_91, f9_grows_158, bI, M.f28, M.f29, M.r17, M.r18, Option.bind_some, I_lit, I_neg, I_add, I_sub, I_mul, I_lt, I_le, I_eq, if_pos, if_neg, if_true, if_false, decide_eq_true_eq, ih']
              rfl
            · have e2 : sgn (g 17 i - g 17 j) = -1 := by unfold sgn; rw [if_pos (by omega)]
              rw [e1, e2]
              simp (disch := omega) only [f9_grows_91, f9_grows_158, bI, M.f28, M.f29, M.r17, M.r18, Option.bind_some, I_lit, I_neg, I_add, I_sub, I_mul, I_lt, I_le, I_eq, if_pos, if_neg, if_true, if_false, decide_eq_true_eq, ih']
              rfl
          · have e1 : sgn (g 18 i - g 18 j) = -1 := by unfold sgn; rw [if_pos (by omega)]
            by_cases k4 : g 17 j ≤ g 17 i
            · have e2 : sgn (g 17 i - g 17 j) = 1 := by unfold sgn; rw [if_neg (by omega), if_pos (by omega)]
              rw [e1, e2]
              simp (disch := omega) only [f9_grows_91, f9_grows_158, bI, M.f28, M.f29, M.r17, M.r18, Option.bind_some, I_lit, I_neg, I_add, I_sub, I_mul, I_lt, I_le, I_eq, if_pos, if_neg, if_true, if_false, decide_eq_true_eq, ih']
              rfl
            · have e2 : sgn (g 17 i - g 17 j) = -1 := by unfold sgn; rw [if_pos (by omega)]
              rw [e1, e2]
              simp (disch := omega) only [f9_grows_91, f9_grows_158, bI, M.f28, M.f29, M.r17, M.r18, Option.bind_some, I_lit, I_neg, I_add, I_sub, I_mul, I_lt, I_le, I_eq, if_pos, if_neg, if_true, if_false, decide_eq_true_eq, ih']
              rfl
    · rw [sm_end _ c, Int.add_zero]
      simp (disch := omega) only [f9_grows_91, Option.bind_some, I_lit, I_neg, I_add, I_sub, I_mul, I_lt, I_le, I_eq, if_pos, if_neg, if_true, if_false, decide_eq_true_eq]
  done
theorem MO.g82 (M : MO h m v se g gl) (R : RI (g 1)) (hs : ∀ k, 0 ≤ k → k < (gs (g 1) (g 1 4)).2.1 → g 17 k = (gs (g 1) (g 1 4)).2.2.1 k ∧ g 18 k = (gs (g 1) (g 1 4)).2.2.2 k) : ∀ (f : Nat) (a i : Int), 0 ≤ i → i ≤ (gs (g 1) (g 1 4)).2.1 → (gs (g 1) (g 1 4)).2.1 - i < f → f9_grows_82 h m (I (gs (g 1) (g 1 4)).2.1) f (I a) (I i) = some (I (a + sm (fun i => sm (fun j => gT (g 1) j i) i.toNat 0) ((gs (g 1) (g 1 4)).2.1 - i).toNat i), h) := by
  intro f
  have b := R.1
  have fu := FU_big
  have gr := gs_rng' (g 1) (i := g 1 4) (by omega)
  induction f with
  | zero => intro a i h0 h1; omega
  | succ f ih =>
    intro a i i0 i1 i2
    by_cases c : i < (gs (g 1) (g 1 4)).2.1
    · have ih' := fun a => ih a (i + 1) (by omega) (by omega) (by omega)
      have l := M.g91 R hs i0 c (I (gs (g 1) (g 1 4)).2.1) (fun v3 v4 => f9_grows_82 h m (I (gs (g 1) (g 1 4)).2.1) f v3 v4) FU a 0 (by omega) (by omega) (by omega)
      rw [Int.sub_zero] at l
      rw [sm_suc _ c, ← Int.add_assoc, f9_grows_82]
      simp (disch := omega) only [Option.bind_some, I_lit, I_neg, I_add, I_sub, I_mul, I_lt, I_le, I_eq, if_pos, if_neg, if_true, if_false, decide_eq_true_eq]
      rw [l, ih']
    · rw [sm_end _ c, Int.add_zero]
      simp (disch := omega) only [f9_grows_82, Option.bind_some, I_lit, I_neg, I_add, I_sub, I_mul, I_lt, I_le, I_eq, if_pos, if_neg, if_true, if_false, decide_eq_true_eq]
  done
theorem MO.g6 {r : Int → Int} (R : RI r) : ∀ (f : Nat) (h : AH) (g : Nat → Int → Int) (i : Int), MO h m v se g gl → g 1 = r → 0 ≤ i → i ≤ r 4 → r 4 - i < f → (∀ k, 0 ≤ k → k < (gs r i).2.1 → g 17 k = (gs r i).2.2.1 k ∧ g 18 k = (gs r i).2.2.2 k) → ∃ h' g', f9_grows_6 m f h (I (gs r i).2.1) (I (gs r i).1) (I i) = some (I (gw r), h') ∧ MO h' m v se g' gl ∧ SG g g' ∧ Fr m (m + 24) h h' := by
  intro f
  have b := R.1
  have fu := FU_big
  induction f with
  | zero => intro h g i M hr h0 h1; omega
  | succ f ih =>
    intro h g i M hr i0 i1 i2 hs
    have R' : RI (g 1) := hr ▸ R
    have hr' : ∀ k, g 1 k = r k := fun k => by rw [hr]
    by_cases c : i < r 4
    · have gr := gs_rng' r i0
      have y := pi_rng R i0 c
      have y0 := y.1
      have y8 := y.2.2.2.2.1
      by_cases vv : r (1330 + 10 * i) = 0
      · by_cases l0 : 0 ≤ (gs r i).1
        · have z := pi_rng R (k := (gs r i).1) l0 (by omega)
          have z1 := z.2.2.2.1
          have z2 := z.2.2.2.2.1
          obtain ⟨h1, e1, M1, F1⟩ := M.w17 (i := (gs r i).2.1) (r (1330 + 10 * i + 8) - r (1330 + 10 * (gs r i).1 + 8)) (by omega) (by omega)
          have R1 : RI (uf g 17 (up (g 17) (gs r i).2.1 (r (1330 + 10 * i + 8) - r (1330 + 10 * (gs r i).1 + 8))) 1) := by rw [uf_ne (by omega)]; exact R'
          have hr1 : ∀ k, uf g 17 (up (g 17) (gs r i).2.1 (r (1330 + 10 * i + 8) - r (1330 + 10 * (gs r i).1 + 8))) 1 k = r k := fun k => by rw [uf_ne (by omega), hr]
          have c7 := M1.cell R1 (p := (gs r i).1) (k := 7) l0 (by rw [hr1]; omega) (by omega) (by omega)
          rw [hr1] at c7
          obtain ⟨h2, e2, M2, F2⟩ := M1.w18 (i := (gs r i).2.1) (r (1330 + 10 * (gs r i).1 + 7)) (by omega) (by omega)
          have en : gs r (i + 1) = (i, (gs r i).2.1 + 1, up (gs r i).2.2.1 (gs r i).2.1 (r (1330 + 10 * i + 8) - r (1330 + 10 * (gs r i).1 + 8)), up (gs r i).2.2.2 (gs r i).2.1 (r (1330 + 10 * (gs r i).1 + 7))) := by
            rw [gs_s r (by omega)]
            unfold gx
            rw [if_pos vv, if_pos l0]
          obtain ⟨h3, g3, e3, M3, S3, F3⟩ := ih h2 _ (i + 1) M2 (by rw [uf_ne (by omega), uf_ne (by omega), hr]) (by omega) (by omega) (by omega) (fun k k0 k1 => by
            rw [en] at k1 ⊢
            simp only [] at k1 ⊢
            rw [uf_ne (by omega), uf_eq, uf_eq, uf_ne (by omega)]
            by_cases ck : k = (gs r i).2.1
            · rw [ck, up_eq, up_eq, up_eq, up_eq]; exact ⟨rfl, rfl⟩
            · rw [up_ne ck, up_ne ck, up_ne ck, up_ne ck]; exact hs k k0 (by omega))
          refine ⟨h3, g3, ?_, M3, ((SG.u _ _ (by omega) (by omega)).trans (SG.u _ _ (by omega) (by omega))).trans S3, (F1.trans F2).trans F3⟩
          rw [en] at e3
          simp only [] at e3
          simp (disch := (first | omega | (rw [hr'] <;> omega))) only [f9_grows_6, M.f0, M.r1, hr', M.cell0 R', M.cell R', M.f28, M1.f29, c7, Option.bind_some, I_lit, I_neg, I_add, I_sub, I_mul, I_lt, I_le, I_eq, if_pos, if_neg, if_true, if_false, decide_eq_true_eq, e1, e2, e3]
        · have en := gs_first r i0 vv l0
          obtain ⟨h3, g3, e3, M3, S3, F3⟩ := ih h g (i + 1) M hr (by omega) (by omega) (by omega) (fun k k0 k1 => by
            rw [en] at k1 ⊢
            exact hs k k0 k1)
          refine ⟨h3, g3, ?_, M3, S3, F3⟩
          rw [en] at e3
          simp only [] at e3
          simp (disch := (first | omega | (rw [hr'] <;> omega))) only [f9_grows_6, M.f0, M.r1, hr', M.cell0 R', Option.bind_some, I_lit, I_neg, I_add, I_sub, I_mul, I_lt, I_le, I_eq, if_pos, if_neg, if_true, if_false, decide_eq_true_eq, e3]
      · have en := gs_skip r i0 vv
        obtain ⟨h3, g3, e3, M3, S3, F3⟩ := ih h g (i + 1) M hr (by omega) (by omega) (by omega) (fun k k0 k1 => by
          rw [en] at k1 ⊢
          exact hs k k0 k1)
        refine ⟨h3, g3, ?_, M3, S3, F3⟩
        rw [en] at e3
        simp (disch := (first | omega | (rw [hr'] <;> omega))) only [f9_grows_6, M.f0, M.r1, hr', M.cell0 R', Option.bind_some, I_lit, I_neg, I_add, I_sub, I_mul, I_lt, I_le, I_eq, if_pos, if_neg, if_true, if_false, decide_eq_true_eq, e3]
    · have : i = r 4 := by omega
      subst this
      refine ⟨h, g, ?_, M, SG.refl g, Fr.refl _ _ _⟩
      have gr := gs_rng' r i0
      have l := M.g82 R' (by rw [hr]; exact hs) FU 0 0 (by omega) (by rw [hr]; omega) (by rw [hr]; omega)
      rw [Int.sub_zero, Int.zero_add] at l
      rw [hr] at l
      simp (disch := (first | omega | (rw [hr'] <;> omega))) only [f9_grows_6, M.f0, M.r1, hr', Option.bind_some, I_lit, I_neg, I_add, I_sub, I_mul, I_lt, I_le, I_eq, if_pos, if_neg, if_true, if_false, decide_eq_true_eq, l]
      rfl
  done
theorem MO.grows (M : MO h m v se g gl) (R : RI (g 1)) : ∃ h' g', f9_grows h m = some (I (gw (g 1)), h') ∧ MO h' m v se g' gl ∧ SG g g' ∧ Fr m (m + 24) h h' := by
  have b := R.1
  have fu := FU_big
  obtain ⟨h', g', e, M', S', F'⟩ := MO.g6 R FU h g 0 M rfl (by omega) (by omega) (by omega) (fun k k0 k1 => by simp only [gs_0] at k1; omega)
  refine ⟨h', g', ?_, M', S', F'⟩
  simp (disch := omega) only [f9_grows, M.o, Option.bind_some, I_lit, I_neg, I_add, I_sub, I_mul, I_lt, I_le, I_eq, if_pos, if_neg, if_true, if_false, decide_eq_true_eq]
  exact e
end
