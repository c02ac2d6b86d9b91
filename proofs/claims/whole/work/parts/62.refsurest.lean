/-! SUREST, of the reference -/
theorem pA_split (ch : Int → Int) (q : Int) : ∀ (a b : Nat) (i : Int), pA ch q (a + b) i = pA ch q a i * pA ch q b (i + a) := by
  intro a
  induction a with
  | zero => intro b i; simp [pA]
  | succ a ih =>
    intro b i
    rw [show a + 1 + b = (a + b) + 1 by omega]
    simp only [pA]
    rw [ih, show i + ((a + 1 : Nat) : Int) = i + 1 + a by omega, Int.mul_assoc]
theorem pA_cong {ch ch' : Int → Int} (q : Int) : ∀ (k : Nat) (i : Int), (∀ j, i ≤ j → j < i + k → ch j = ch' j) → pA ch q k i = pA ch' q k i := by
  intro k
  induction k with
  | zero => intro i _; rfl
  | succ k ih =>
    intro i h
    simp only [pA]
    rw [h i (by omega) (by omega), ih (i + 1) (fun j a b => h j (by omega) (by omega))]
theorem pA_none {ch : Int → Int} {q : Int} : ∀ (k : Nat) (i : Int), (∀ j, i ≤ j → j < i + k → bi q j = 0) → pA ch q k i = 1000 ^ k := by
  intro k
  induction k with
  | zero => intro i _; rfl
  | succ k ih =>
    intro i h
    simp only [pA]
    have := h i (by omega) (by omega)
    rw [if_neg (by omega), ih (i + 1) (fun j a b => h j (by omega) (by omega)), Int.pow_succ']
theorem pC_split (co : Int → Int) (q : Int) : ∀ (a b : Nat) (i : Int), pC co q (a + b) i = pC co q a i + pC co q b (i + a) := by
  intro a
  induction a with
  | zero => intro b i; simp [pC]
  | succ a ih =>
    intro b i
    rw [show a + 1 + b = (a + b) + 1 by omega]
    simp only [pC]
    rw [ih, show i + ((a + 1 : Nat) : Int) = i + 1 + a by omega]
    exact (Int.add_assoc _ _ _).symm
theorem pC_cong {co co' : Int → Int} (q : Int) : ∀ (k : Nat) (i : Int), (∀ j, i ≤ j → j < i + k → co j = co' j) → pC co q k i = pC co' q k i := by
  intro k
  induction k with
  | zero => intro i _; rfl
  | succ k ih =>
    intro i h
    simp only [pC]
    rw [h i (by omega) (by omega), ih (i + 1) (fun j a b => h j (by omega) (by omega))]
theorem pC_none {co : Int → Int} {q : Int} : ∀ (k : Nat) (i : Int), (∀ j, i ≤ j → j < i + k → bi q j = 0) → pC co q k i = 0 := by
  intro k
  induction k with
  | zero => intro i _; rfl
  | succ k ih =>
    intro i h
    simp only [pC]
    have := h i (by omega) (by omega)
    rw [if_neg (by omega), ih (i + 1) (fun j a b => h j (by omega) (by omega))]
    rfl
section
variable {h h' : AH} {m : Nat} {v : Nat → Int} {se : Int64} {g : Nat → Int → Int} {gl : Nat → Int → Int64}
theorem MO.s106 (M : MO h m v se g gl) {q n : Int} (q0 : 0 ≤ q) (q1 : q < 64) (hz : ∀ j, n ≤ j → bi q j = 0) (hc : ∀ i, 0 ≤ i → i < n → 0 ≤ g 21 i ∧ g 21 i ≤ 1000) (kk : Int32 → Int64 → Int32 → Int32 → Option (Int32 × AH)) (v1 v4 v5 : Int32) (v6 : Int64) (v8 : Int32) : ∀ (f : Nat) (a c i : Int), 0 ≤ i → i ≤ 6 → 6 - i < f → ∃ f', f9_surest_106 kk h m v1 v4 v5 v6 v8 (I q) f (J a) (I c) (I i) = f9_surest_106 kk h m v1 v4 v5 v6 v8 (I q) (f' + 1) (J (a * pA (g 21) q (6 - i).toNat i)) (I (c + pC (g 8) q (6 - i).toNat i)) (I 6) := by
  intro f
  induction f with
  | zero => intro a c i h0 h1; omega
  | succ f ih =>
    intro a c i i0 i1 i2
    by_cases w : i < 6
    · have e : (6 - i).toNat = (6 - (i + 1)).toNat + 1 := by omega
      have bt := bi_rng q i
      rw [e]
      simp only [pA, pC]
      by_cases z : bi q i = 1
      · have n1 : i < n := by
          by_cases t : n ≤ i
          · have := hz i t; omega
          · omega
        have c' := hc i i0 n1
        obtain ⟨f', ef⟩ := ih (a * g 21 i) (c + g 8 i) (i + 1) (by omega) (by omega) (by omega)
        refine ⟨f', ?_⟩
        rw [if_pos z, if_pos z, ← Int.mul_assoc, ← Int.add_assoc, ← ef]
        simp (disch := omega) only [f9_surest_106, f9_surest_152, I_bit, z, M.f33, M.r21, M.f8, M.r8, Option.bind_some, I_lit, I_neg, I_add, I_sub, I_mul, I_lt, I_le, I_eq, if_pos, if_neg, if_true, if_false, decide_eq_true_eq, J_lit, J_neg, J_add, J_sub, J_mul, J_lt, J_le, J_eq, I_toJ, in_of]
      · obtain ⟨f', ef⟩ := ih (a * 1000) (c + 0) (i + 1) (by omega) (by omega) (by omega)
        refine ⟨f', ?_⟩
        rw [if_neg z, if_neg z, ← Int.mul_assoc, ← Int.add_assoc, ← ef]
        simp (disch := omega) only [f9_surest_106, f9_surest_152, I_bit, Option.bind_some, I_lit, I_neg, I_add, I_sub, I_mul, I_lt, I_le, I_eq, if_pos, if_neg, if_true, if_false, decide_eq_true_eq, J_lit, J_neg, J_add, J_sub, J_mul, J_lt, J_le, J_eq, I_toJ, in_of, Bool.false_eq_true]
    · have ei : i = 6 := by omega
      subst ei
      exact ⟨f, by simp only [Int.sub_self, Int.toNat_zero, pA, pC, Int.mul_one, Int.add_zero]⟩
  done
/-- the chances of the READERS below n stand in the reference's row -/
theorem MO.s46 (M : MO h m v se g gl) (R : RI (g 1)) {p b : Int} (p0 : 0 ≤ p) (p1 : p < g 1 4) (b0 : 0 ≤ b) (b1 : b < g 1 4) {sg cl cd : Int → Int → Int} {sz nc : Int → Int} {n : Int} (n1 : n ≤ 6) (hT : ∀ k, 0 ≤ k → k < n → (∀ j, g 3 (400 * k + j) = sg k j) ∧ (∀ j, g 5 (48 * k + j) = cl k j) ∧ g 6 k = nc k ∧ TX (cd k) (sz k) (sg k) (cl k) (nc k)) (purse : Int32) : ∀ (f : Nat) (h : AH) (v : Nat → Int) (G : Int → Int) (gl : Nat → Int → Int64) (i : Int), MO h m v se (uf g 21 G) gl → (∀ k, 0 ≤ k → k < i → G k = cvl (g 1) p b (sg k) (cl k) (nc k)) → 0 ≤ i → i ≤ n → n - i < f → ∃ h' v' G' gl', f9_surest_46 m purse (I p) (I b) (I n) f h (I i) = f9_surest_88 h' m purse (I n) FU (I 0) (J (-1)) (I 0) (I 0) ∧ MO h' m v' se (uf g 21 G') gl' ∧ (∀ k, 0 ≤ k → k < n → G' k = cvl (g 1) p b (sg k) (cl k) (nc k)) ∧ (∀ j, j ≠ 26 → v' j = v j) ∧ Fr m (m + 24) h h' := by
  intro f
  induction f with
  | zero => intro h v G gl i M hG h0 h1; omega
  | succ f ih =>
    intro h v G gl i M hG i0 i1 i2
    by_cases w : i < n
    · obtain ⟨t1, t2, t3, t4⟩ := hT i i0 w
      have R' : RI (uf g 21 G 1) := by rw [uf_ne (by omega)]; exact R
      obtain ⟨h1, v1, gl1, e1, M1, V1, F1⟩ := M.chanceOf (t := i) (p := p) (b := b) R' i0 (by omega) p0 (by rw [uf_ne (by omega)]; exact p1) b0 (by rw [uf_ne (by omega)]; exact b1) (fun j => by rw [uf_ne (by omega)]; exact t1 j) (fun j => by rw [uf_ne (by omega)]; exact t2 j) (by rw [uf_ne (by omega)]; exact t3) t4
      rw [uf_ne (by omega)] at e1
      have e1' : f9_chanceOf h m (I i) (I p) (I b) = some (I (cvl (g 1) p b (sg i) (cl i) (nc i)), h1) := e1
      obtain ⟨h2, e2, M2, F2⟩ := M1.w21 (i := i) (cvl (g 1) p b (sg i) (cl i) (nc i)) i0 (by omega)
      rw [uf_eq, uf_uf] at M2
      obtain ⟨h3, v3, G3, gl3, e3, M3, H3, V3, F3⟩ := ih h2 v1 _ gl1 (i + 1) M2 (fun k k0 k1 => by
        by_cases z : k = i
        · rw [z, up_eq]
        · rw [up_ne z]; exact hG k k0 (by omega)) (by omega) (by omega) (by omega)
      refine ⟨h3, v3, G3, gl3, ?_, M3, H3, fun j hj => by rw [V3 j hj, V1 j hj], (F1.trans F2).trans F3⟩
      rw [← e3]
      simp (disch := omega) only [f9_surest_46, M.f33, e1', e2, Option.bind_some, I_lit, I_neg, I_add, I_sub, I_mul, I_lt, I_le, I_eq, if_pos, if_neg, if_true, if_false, decide_eq_true_eq]
    · have ei : i = n := by omega
      subst ei
      refine ⟨h, v, G, gl, ?_, M, hG, fun _ _ => rfl, Fr.refl _ _ _⟩
      simp (disch := omega) only [f9_surest_46, Option.bind_some, I_lit, I_neg, I_add, I_sub, I_mul, I_lt, I_le, I_eq, if_pos, if_neg, if_true, if_false, decide_eq_true_eq, J_lit, J_neg, J_add, J_sub, J_mul, J_lt, J_le, J_eq, I_toJ, in_of]
  done
/-- one set more -/
theorem MO.s88 (M : MO h m v se g gl) {n : Int} (n0 : 0 ≤ n) (n1 : n ≤ 6) {ch co : Int → Int} (hc : ∀ i, 0 ≤ i → i < n → g 21 i = ch i ∧ 0 ≤ ch i ∧ ch i ≤ 1000) (hco : ∀ i, 0 ≤ i → i < n → g 8 i = co i ∧ 0 ≤ co i ∧ co i ≤ 999) {purse : Int} (u0 : 0 ≤ purse) (u1 : purse ≤ 9999) : ∀ (f : Nat) (b i : Int), 1 ≤ i → i ≤ 2 ^ n.toNat → 2 ^ n.toNat - i < f → 0 ≤ b → b < i → f9_surest_88 h m (I purse) (I n) f (I b) (J (pA ch b n.toNat 0 * 1000 ^ (6 - n).toNat)) (I (pC co b n.toNat 0)) (I i) = some (I (bsS ch co n.toNat purse ((2 : Int) ^ n.toNat - i).toNat i b), h) := by
  have pz := p2sz n0 n1
  have fu := FU_big
  intro f
  induction f with
  | zero => intro b i h0 h1; omega
  | succ f ih =>
    intro b i i0 i1 i2 b0 b1
    unfold bsS
    by_cases w : i < 2 ^ n.toNat
    · have hz : ∀ j, n ≤ j → bi i j = 0 := fun j hj => bi_hi (k := n.toNat) (by omega) w (by omega)
      obtain ⟨f', ef⟩ := M.s106 (q := i) (n := n) (by omega) (by omega) hz (fun k k0 k1 => by rw [(hc k k0 k1).1]; exact (hc k k0 k1).2) (fun v5 v6 v8 v9 => f9_surest_88 h m (I purse) (I n) f v5 v6 v8 v9) (I purse) (I n) (I b) (J (pA ch b n.toNat 0 * 1000 ^ (6 - n).toNat)) (I (pC co b n.toNat 0)) FU 1 0 0 (by omega) (by omega) (by omega)
      rw [Int.one_mul, Int.zero_add] at ef
      have eA : pA (g 21) i (6 - 0 : Int).toNat 0 = pA ch i n.toNat 0 * 1000 ^ (6 - n).toNat := by
        rw [show (6 - 0 : Int).toNat = n.toNat + (6 - n).toNat by omega, pA_split, pA_cong (ch' := ch) i n.toNat 0 (fun j j0 j1 => (hc j j0 (by omega)).1), pA_none (6 - n).toNat _ (fun j j0 j1 => hz j (by omega))]
      have eC : pC (g 8) i (6 - 0 : Int).toNat 0 = pC co i n.toNat 0 := by
        rw [show (6 - 0 : Int).toNat = n.toNat + (6 - n).toNat by omega, pC_split, pC_cong (co' := co) i n.toNat 0 (fun j j0 j1 => (hco j j0 (by omega)).1), pC_none (6 - n).toNat _ (fun j j0 j1 => hz j (by omega)), Int.add_zero]
      rw [eA, eC] at ef
      have r1 := pA_rng (fun k k0 k1 => (hc k k0 k1).2) i n.toNat 0 (by omega) (by omega)
      have r2 := pA_rng (fun k k0 k1 => (hc k k0 k1).2) b n.toNat 0 (by omega) (by omega)
      have r3 := pC_rng (fun k k0 k1 => (hco k k0 k1).2) i n.toNat 0 (by omega) (by omega)
      have r4 := pC_rng (fun k k0 k1 => (hco k k0 k1).2) b n.toNat 0 (by omega) (by omega)
      have kp : (0 : Int) < 1000 ^ (6 - n).toNat := Int.pow_pos (by omega)
      have kk : (1000 : Int) ^ n.toNat * 1000 ^ (6 - n).toNat = 1000000000000000000 := by
        rw [← Int.pow_add, show n.toNat + (6 - n).toNat = 6 by omega]; rfl
      have m1 : pA ch i n.toNat 0 * 1000 ^ (6 - n).toNat ≤ 1000000000000000000 := by
        rw [← kk]; exact Int.mul_le_mul_of_nonneg_right r1.2 (by omega)
      have m2 : pA ch b n.toNat 0 * 1000 ^ (6 - n).toNat ≤ 1000000000000000000 := by
        rw [← kk]; exact Int.mul_le_mul_of_nonneg_right r2.2 (by omega)
      have m3 : 0 ≤ pA ch i n.toNat 0 * 1000 ^ (6 - n).toNat := Int.mul_nonneg r1.1 (by omega)
      have m4 : 0 ≤ pA ch b n.toNat 0 * 1000 ^ (6 - n).toNat := Int.mul_nonneg r2.1 (by omega)
      have lt1 : (pA ch i n.toNat 0 * 1000 ^ (6 - n).toNat < pA ch b n.toNat 0 * 1000 ^ (6 - n).toNat) = (pA ch i n.toNat 0 < pA ch b n.toNat 0) := propext ⟨fun z => Int.lt_of_mul_lt_mul_right z (by omega), fun z => Int.mul_lt_mul_of_pos_right z kp⟩
      have lt2 : (pA ch b n.toNat 0 * 1000 ^ (6 - n).toNat < pA ch i n.toNat 0 * 1000 ^ (6 - n).toNat) = (pA ch b n.toNat 0 < pA ch i n.toNat 0) := propext ⟨fun z => Int.lt_of_mul_lt_mul_right z (by omega), fun z => Int.mul_lt_mul_of_pos_right z kp⟩
      have ih1 := ih i (i + 1) (by omega) (by omega) (by omega) (by omega) (by omega)
      have ih2 := ih b (i + 1) (by omega) (by omega) (by omega) b0 (by omega)
      unfold bsS at ih1 ih2
      have go : f9_surest_88 h m (I purse) (I n) (f + 1) (I b) (J (pA ch b n.toNat 0 * 1000 ^ (6 - n).toNat)) (I (pC co b n.toNat 0)) (I i) = f9_surest_106 (fun v5 v6 v8 v9 => f9_surest_88 h m (I purse) (I n) f v5 v6 v8 v9) h m (I purse) (I n) (I b) (J (pA ch b n.toNat 0 * 1000 ^ (6 - n).toNat)) (I (pC co b n.toNat 0)) (I i) FU (J 1) (I 0) (I 0) := by
        have q : ¬ I 1 <<< (I n &&& I 31) ≤ I i := by
          rw [I_shl1 n0 (by omega), I_le (by omega) (by omega) (by omega) (by omega)]; omega
        rw [f9_surest_88]
        simp only [I_lit, J_lit]
        rw [if_neg q, Option.bind_some]
      rw [go, ef, fo_suc _ w]
      generalize pA ch i n.toNat 0 * 1000 ^ (6 - n).toNat = B1 at *
      generalize pA ch b n.toNat 0 * 1000 ^ (6 - n).toNat = B2 at *
      generalize pA ch i n.toNat 0 = A1 at *
      generalize pA ch b n.toNat 0 = A2 at *
      generalize pC co i n.toNat 0 = C1 at *
      generalize pC co b n.toNat 0 = C2 at *
      have l1 : B1 < B2 ↔ A1 < A2 := by rw [lt1]
      have l2 : B2 < B1 ↔ A2 < A1 := by rw [lt2]
      by_cases q1 : C1 ≤ purse
      · by_cases q2 : A1 < A2
        · rw [if_pos ⟨q1, .inl q2⟩]
          have := l1.2 q2
          simp (disch := omega) only [f9_surest_106, Option.bind_some, I_lit, I_neg, I_add, I_sub, I_mul, I_lt, I_le, I_eq, if_pos, if_neg, if_true, if_false, decide_eq_true_eq, J_lit, J_neg, J_add, J_sub, J_mul, J_lt, J_le, J_eq, I_toJ, in_of, ih1]
        · by_cases q3 : A1 = A2
          · have e : B1 = B2 := by
              have := l1.1; have := l2.1
              by_cases z : B1 < B2
              · omega
              · by_cases z2 : B2 < B1
                · omega
                · omega
            by_cases q4 : C1 < C2
            · rw [if_pos ⟨q1, .inr ⟨q3, q4⟩⟩]
              simp (disch := omega) only [f9_surest_106, Option.bind_some, I_lit, I_neg, I_add, I_sub, I_mul, I_lt, I_le, I_eq, if_pos, if_neg, if_true, if_false, decide_eq_true_eq, J_lit, J_neg, J_add, J_sub, J_mul, J_lt, J_le, J_eq, I_toJ, in_of, ih1]
            · rw [if_neg (by omega)]
              simp (disch := omega) only [f9_surest_106, Option.bind_some, I_lit, I_neg, I_add, I_sub, I_mul, I_lt, I_le, I_eq, if_pos, if_neg, if_true, if_false, decide_eq_true_eq, J_lit, J_neg, J_add, J_sub, J_mul, J_lt, J_le, J_eq, I_toJ, in_of, ih2]
          · have := l2.2 (by omega)
            rw [if_neg (by omega)]
            simp (disch := omega) only [f9_surest_106, Option.bind_some, I_lit, I_neg, I_add, I_sub, I_mul, I_lt, I_le, I_eq, if_pos, if_neg, if_true, if_false, decide_eq_true_eq, J_lit, J_neg, J_add, J_sub, J_mul, J_lt, J_le, J_eq, I_toJ, in_of, ih2]
      · rw [if_neg (by omega)]
        simp (disch := omega) only [f9_surest_106, Option.bind_some, I_lit, I_neg, I_add, I_sub, I_mul, I_lt, I_le, I_eq, if_pos, if_neg, if_true, if_false, decide_eq_true_eq, J_lit, J_neg, J_add, J_sub, J_mul, J_lt, J_le, J_eq, I_toJ, in_of, ih2]
    · rw [fo_end _ w]
      have ei : i = 2 ^ n.toNat := by omega
      have q : I 1 <<< (I n &&& I 31) ≤ I i := by
        rw [I_shl1 n0 (by omega), I_le (by omega) (by omega) (by omega) (by omega)]; omega
      rw [f9_surest_88]
      simp only [I_lit]
      rw [if_pos q]
  done
end
