/-! BITS -/
theorem I_nI {a : Int} (h : 0 ≤ a) : I a = nI a.toNat := by
  rw [show nI a.toNat = I a.toNat from rfl, Int.toNat_of_nonneg h]
theorem sh_amt : ∀ l : Fin 32, (((I (l.val : Int)) &&& I 31).toBitVec.smod 32).toNat = l.val := by decide +kernel
theorem sh_amt' {i : Int} (h : 0 ≤ i) (h' : i < 32) : (((I i) &&& I 31).toBitVec.smod 32).toNat = i.toNat := by
  have := sh_amt ⟨i.toNat, by omega⟩
  rw [Int.toNat_of_nonneg h] at this
  exact this
theorem I_shr {a i : Int} (h : 0 ≤ a) (h' : a < 2147483648) (g : 0 ≤ i) (g' : i < 32) : I a >>> (I i &&& I 31) = I (a / 2 ^ i.toNat) := by
  rw [I_nI h, pk_shrN (by omega) _ i.toNat (sh_amt' g g')]
  have e : a / 2 ^ i.toNat = ((a.toNat / 2 ^ i.toNat : Nat) : Int) := by
    rw [Int.natCast_ediv, Int.toNat_of_nonneg h, Int.natCast_pow]
    rfl
  rw [e]
  rfl
theorem I_and1 {a : Int} (h : 0 ≤ a) (h' : a < 2147483648) : I a &&& I 1 = I (a % 2) := by
  rw [I_nI h, pk_andN (by omega) 1 (by decide)]
  have e : a % 2 = ((a.toNat % 2 ^ 1 : Nat) : Int) := by omega
  rw [e]
  rfl
def bi (a i : Int) : Int := a / 2 ^ i.toNat % 2
theorem bi_rng (a i : Int) : 0 ≤ bi a i ∧ bi a i ≤ 1 := by unfold bi; omega
theorem div_rng {a : Int} (h : 0 ≤ a) (i : Int) : 0 ≤ a / 2 ^ i.toNat ∧ a / 2 ^ i.toNat ≤ a := ⟨Int.ediv_nonneg h (Int.le_of_lt (Int.pow_pos (by omega))), Int.ediv_le_self _ h⟩
theorem I_bit {a i : Int} (h : 0 ≤ a) (h' : a < 2147483648) (g : 0 ≤ i) (g' : i < 32) : (I a >>> (I i &&& I 31)) &&& I 1 = I (bi a i) := by
  have := div_rng h i
  rw [I_shr h h' g g', I_and1 (by omega) (by omega)]
  rfl
theorem hasBit_of {h : AH} {a i : Int} (h0 : 0 ≤ a) (h1 : a < 2147483648) (g : 0 ≤ i) (g' : i < 32) : f8_hasBit h (I a) (I i) = some (decide (bi a i = 1)) := by
  have b := bi_rng a i
  simp (disch := omega) only [f8_hasBit, I_lit, I_bit, I_eq]
  by_cases c : bi a i = 0
  · rw [if_pos c]; simp [c]
  · rw [if_neg c, decide_eq_true (by omega)]
/-- the bits q 0, q 1, .. q (k-1) -/
def bs (q : Int → Bool) : Nat → Int
  | 0 => 0
  | k + 1 => bs q k + (if q k = true then 2 ^ k else 0)
theorem bs_rng (q : Int → Bool) : ∀ k, 0 ≤ bs q k ∧ bs q k < 2 ^ k := by
  intro k
  induction k with
  | zero => simp [bs]
  | succ k ih =>
    have : (2 : Int) ^ (k + 1) = 2 ^ k + 2 ^ k := by rw [Int.pow_succ]; omega
    simp only [bs]
    rw [this]
    split <;> omega
theorem bs_cong {q q' : Int → Bool} : ∀ k : Nat, (∀ j : Int, 0 ≤ j → j < k → q j = q' j) → bs q k = bs q' k := by
  intro k
  induction k with
  | zero => intro _; rfl
  | succ k ih =>
    intro h
    simp only [bs]
    rw [h k (by omega) (by omega), ih fun j a b => h j a (by omega)]
theorem bs_no {q : Int → Bool} : ∀ k : Nat, (∀ j : Int, 0 ≤ j → j < k → q j = false) → bs q k = 0 := by
  intro k
  induction k with
  | zero => intro _; rfl
  | succ k ih =>
    intro h
    simp only [bs]
    rw [h k (by omega) (by omega), ih fun j a b => h j a (by omega)]
    simp
theorem pow31 {k : Nat} (h : k ≤ 30) : (2 : Int) ^ k ≤ 1073741824 := by
  have : (2 : Nat) ^ k ≤ 2 ^ 30 := Nat.pow_le_pow_right (by omega) h
  have e : ((2 ^ k : Nat) : Int) = 2 ^ k := by rw [Int.natCast_pow]; rfl
  omega
theorem bs_bi (q : Int → Bool) : ∀ (k : Nat) (i : Nat), i < k → bi (bs q k) i = if q i = true then 1 else 0 := by
  intro k
  induction k with
  | zero => intro i h; omega
  | succ k ih =>
    intro i h
    have r := bs_rng q k
    have p : (0 : Int) < 2 ^ i := Int.pow_pos (by omega)
    simp only [bi, bs, Int.toNat_natCast]
    by_cases e : i = k
    · subst e
      by_cases c : q i = true
      · rw [if_pos c, if_pos c, Int.add_ediv_of_dvd_right (Int.dvd_refl _), Int.ediv_self (by omega), Int.ediv_eq_zero_of_lt r.1 r.2]
        rfl
      · rw [if_neg c, if_neg c, Int.add_zero, Int.ediv_eq_zero_of_lt r.1 r.2]
        rfl
    · have := ih i (by omega)
      simp only [bi, Int.toNat_natCast] at this
      have d : (2 : Int) ^ k = 2 * 2 ^ (k - 1 - i) * 2 ^ i := by
        rw [Int.mul_assoc, ← Int.pow_add, ← Int.pow_succ']
        congr 1
        omega
      by_cases c : q k = true
      · rw [if_pos c, d, Int.add_mul_ediv_right _ _ (by omega), Int.add_mul_emod_self_left, this]
      · rw [if_neg c, Int.add_zero, this]
theorem bs_bi' (q : Int → Bool) (k : Nat) {i : Int} (h0 : 0 ≤ i) (h : i < k) : bi (bs q k) i = if q i = true then 1 else 0 := by
  have := bs_bi q k i.toNat (by omega)
  rw [Int.toNat_of_nonneg h0] at this
  exact this
theorem shl_amt : ∀ l : Fin 31, (I 1 <<< (I (l.val : Int) &&& I 31)) = nI (2 ^ l.val) := by decide +kernel
theorem I_shl1 {i : Int} (g : 0 ≤ i) (g' : i < 31) : I 1 <<< (I i &&& I 31) = I (2 ^ i.toNat) := by
  have := shl_amt ⟨i.toNat, by omega⟩
  rw [Int.toNat_of_nonneg g] at this
  rw [this]
  have e : (2 : Int) ^ i.toNat = ((2 ^ i.toNat : Nat) : Int) := by rw [Int.natCast_pow]; rfl
  rw [e]; rfl
/-- or, of two that are not below 0 -/
def ori (a b : Int) : Int := ((a.toNat ||| b.toNat : Nat) : Int)
theorem I_or {a b : Int} (h : 0 ≤ a) (h' : a < 2147483648) (g : 0 ≤ b) (g' : b < 2147483648) : I a ||| I b = I (ori a b) := by
  rw [I_nI h, I_nI g, ori]
  show Int32.ofNat _ ||| Int32.ofNat _ = Int32.ofNat _
  rw [← Int32.toBitVec_inj, Int32.toBitVec_or]
  show BitVec.ofNat 32 _ ||| BitVec.ofNat 32 _ = BitVec.ofNat 32 _
  rw [BitVec.ofNat_or]
theorem ori_add {a : Int} {k : Nat} (h : 0 ≤ a) (h' : a < 2 ^ k) : ori a (2 ^ k) = a + 2 ^ k := by
  have e : (2 : Int) ^ k = ((2 ^ k : Nat) : Int) := by rw [Int.natCast_pow]; rfl
  have := Nat.two_pow_add_eq_or_of_lt (i := k) (b := a.toNat) (by omega) 1
  rw [Nat.mul_one] at this
  rw [ori, e, Int.toNat_natCast, Nat.or_comm, ← this]
  omega
theorem bs_or {q : Int → Bool} {i : Int} (h0 : 0 ≤ i) (h1 : i < 30) (c : q i = true) : I (bs q i.toNat) ||| (I 1 <<< (I i &&& I 31)) = I (bs q (i + 1).toNat) := by
  have r := bs_rng q i.toNat
  have p := pow31 (k := i.toNat) (by omega)
  rw [I_shl1 h0 (by omega), I_or r.1 (by omega) (by omega) (by omega), ori_add r.1 r.2, show (i + 1).toNat = i.toNat + 1 by omega, bs, Int.toNat_of_nonneg h0, if_pos c]
theorem bs_skip {q : Int → Bool} {i : Int} (h0 : 0 ≤ i) (c : q i = false) : bs q (i + 1).toNat = bs q i.toNat := by
  rw [show (i + 1).toNat = i.toNat + 1 by omega, bs, Int.toNat_of_nonneg h0, c]
  simp
