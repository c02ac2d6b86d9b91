/-! long numbers: J of a whole number -/
def J (x : Int) : Int64 := Int64.ofInt x
theorem J_add (a b : Int) : J a + J b = J (a + b) := (Int64.ofInt_add a b).symm
theorem J_mul (a b : Int) : J a * J b = J (a * b) := (Int64.ofInt_mul a b).symm
theorem J_neg (a : Int) : -J a = J (-a) := (Int64.ofInt_neg a).symm
theorem J_sub (a b : Int) : J a - J b = J (a - b) := (Int64.ofInt_sub a b).symm
theorem J_lit (n : Nat) : (OfNat.ofNat n : Int64) = J (OfNat.ofNat n : Int) := Eq.trans rfl rfl
theorem J_toInt {a : Int} (h : -9223372036854775808 ≤ a) (h' : a < 9223372036854775808) : (J a).toInt = a := Int64.toInt_ofInt_of_le h h'
theorem J_lt {a b : Int} (h : -9223372036854775808 ≤ a) (h' : a < 9223372036854775808) (g : -9223372036854775808 ≤ b) (g' : b < 9223372036854775808) : (J a < J b) = (a < b) := by
  rw [Int64.lt_iff_toInt_lt, J_toInt h h', J_toInt g g']
theorem J_le {a b : Int} (h : -9223372036854775808 ≤ a) (h' : a < 9223372036854775808) (g : -9223372036854775808 ≤ b) (g' : b < 9223372036854775808) : (J a ≤ J b) = (a ≤ b) := by
  rw [Int64.le_iff_toInt_le, J_toInt h h', J_toInt g g']
theorem J_eq {a b : Int} (h : -9223372036854775808 ≤ a) (h' : a < 9223372036854775808) (g : -9223372036854775808 ≤ b) (g' : b < 9223372036854775808) : (J a = J b) = (a = b) := by
  rw [← Int64.toInt_inj, J_toInt h h', J_toInt g g']
theorem J_div {a b : Int} (h : 0 ≤ a) (h' : a < 9223372036854775808) (g : 0 ≤ b) (g' : b < 9223372036854775808) : J a / J b = J (a / b) := by
  rw [← Int64.toInt_inj, Int64.toInt_div, J_toInt (by omega) h', J_toInt (by omega) g']
  have h1 : 0 ≤ a / b := Int.ediv_nonneg h g
  have h2 : a / b ≤ a := Int.ediv_le_self b h
  rw [J_toInt (by omega) (by omega), Int.tdiv_eq_ediv_of_nonneg h, Int.bmod_eq_of_le (by omega) (by omega)]
theorem I_toJ {a : Int} (h : -2147483648 ≤ a) (h' : a < 2147483648) : (I a).toInt64 = J a := by
  rw [← Int64.toInt_inj, Int32.toInt_toInt64, I_toInt h h', J_toInt (by omega) (by omega)]
theorem J_toI (a : Int) : (J a).toInt32 = I a := Int64.toInt32_ofInt
theorem J_of (x : Int64) : ∃ a : Int, -9223372036854775808 ≤ a ∧ a < 9223372036854775808 ∧ x = J a := ⟨x.toInt, Int64.le_toInt x, Int64.toInt_lt x, (Int64.ofInt_toInt x).symm⟩
theorem in_of {h : AH} {x a b : Int} (h0 : -9223372036854775808 ≤ x) (h1 : x < 9223372036854775808) (a0 : -9223372036854775808 ≤ a) (a1 : a < 9223372036854775808) (b0 : -9223372036854775808 ≤ b) (b1 : b < 9223372036854775808) : f9_in h (J x) (J a) (J b) = some (decide (a ≤ x ∧ x ≤ b)) := by
  simp (disch := omega) only [f9_in, J_lt]
  by_cases c : x < a
  · rw [if_pos c, decide_eq_false (by omega)]
  · rw [if_neg c]
    by_cases d : b < x
    · rw [if_pos d, decide_eq_false (by omega)]
    · rw [if_neg d, decide_eq_true (by omega)]
/-! rows of longs -/
def AL (h : AH) (a : Nat) (n : Int) (g : Int → Int64) : Prop := h.2 a = some (.inl (1, n.toNat, .inr (.inl fun k => g k))) ∧ 0 ≤ n ∧ n < 2147483648
def ul (g : Int → Int64) (i : Int) (v : Int64) : Int → Int64 := fun k => if k = i then v else g k
theorem ul_eq {g : Int → Int64} {i : Int} {v : Int64} : ul g i v i = v := if_pos rfl
theorem ul_ne {g : Int → Int64} {i k : Int} {v : Int64} (h : k ≠ i) : ul g i v k = g k := if_neg h
theorem AL.x {h : AH} {a : Nat} {n : Int} {g : Int → Int64} (e : AL h a n g) : xL h a = some (n.toNat, fun k : Nat => g k) := by
  simp only [xL, e.1, if_pos]
theorem AL.n {h : AH} {a : Nat} {n : Int} {g : Int → Int64} (e : AL h a n g) : aN h a = some (I n) := by
  simp only [aN, e.1, I_nat, Int.toNat_of_nonneg e.2.1]
  rfl
theorem AL.g {h : AH} {a : Nat} {n : Int} {g : Int → Int64} (e : AL h a n g) {i : Int} (h0 : 0 ≤ i) (h1 : i < n) : aL' h a (I i) = some (g i) := by
  simp only [aL', e.x, Option.bind_some, ix_I h0 h1 e.2.2, Int.toNat_of_nonneg h0]
theorem AL.u {h : AH} {a : Nat} {n : Int} {g : Int → Int64} (h0 : 0 ≤ n) (h1 : n < 2147483648) : AL (hU h a (.inl (1, n.toNat, .inr (.inl fun k => g k)))) a n g := by
  refine ⟨?_, h0, h1⟩
  simp only [hU, if_pos]
theorem AL.at {h h' : AH} {a : Nat} {n : Int} {g : Int → Int64} (e : AL h a n g) (q : h'.2 a = h.2 a) : AL h' a n g := ⟨q.trans e.1, e.2⟩
theorem AL.set {h : AH} {a : Nat} {n : Int} {g : Int → Int64} (e : AL h a n g) {i : Int} (v : Int64) (h0 : 0 ≤ i) (h1 : i < n) : ∃ h', sL h a (I i) v = some h' ∧ AL h' a n (ul g i v) ∧ Fr a (a + 1) h h' := by
  have q : vp_updL (fun k : Nat => g k) i.toNat v = fun k : Nat => ul g i v k := by
    funext k
    unfold vp_updL ul
    by_cases hk : k = i.toNat
    · rw [if_pos hk, if_pos (by omega)]
    · rw [if_neg hk, if_neg (by omega)]
  refine ⟨hU h a (.inl (1, n.toNat, .inr (.inl fun k : Nat => ul g i v k))), ?_, AL.u e.2.1 e.2.2, Fr.u _ _ (by omega) (by omega)⟩
  simp only [sL, e.x, Option.bind_some, ix_I h0 h1 e.2.2, q]
/-! rows of references -/
def AQ (h : AH) (a t : Nat) (n : Int) (g : Int → Option Nat) : Prop := (∃ f : Nat → Option Nat, h.2 a = some (.inl (t, n.toNat, .inr (.inr (.inr (.inr f))))) ∧ ∀ k : Int, 0 ≤ k → k < n → f k.toNat = g k) ∧ 0 ≤ n ∧ n < 2147483648
def uo (g : Int → Option Nat) (i : Int) (v : Option Nat) : Int → Option Nat := fun k => if k = i then v else g k
theorem uo_eq {g : Int → Option Nat} {i : Int} {v : Option Nat} : uo g i v i = v := if_pos rfl
theorem uo_ne {g : Int → Option Nat} {i k : Int} {v : Option Nat} (h : k ≠ i) : uo g i v k = g k := if_neg h
theorem AQ.n {h : AH} {a t : Nat} {n : Int} {g : Int → Option Nat} (e : AQ h a t n g) (ht : t < 7) : aN h a = some (I n) := by
  obtain ⟨⟨f, e1, -⟩, e2⟩ := e
  simp only [aN, e1, if_pos ht, I_nat, Int.toNat_of_nonneg e2.1]
theorem AQ.g {h : AH} {a t : Nat} {n : Int} {g : Int → Option Nat} (e : AQ h a t n g) {i : Int} (h0 : 0 ≤ i) (h1 : i < n) : aQ t h a (I i) = some (g i) := by
  obtain ⟨⟨f, e1, e3⟩, e2⟩ := e
  simp only [aQ, xQ, e1, if_pos, Option.bind_some, ix_I h0 h1 e2.2, e3 i h0 h1]
theorem AQ.at {h h' : AH} {a t : Nat} {n : Int} {g : Int → Option Nat} (e : AQ h a t n g) (q : h'.2 a = h.2 a) : AQ h' a t n g := by
  obtain ⟨⟨f, e1, e3⟩, e2⟩ := e
  exact ⟨⟨f, q.trans e1, e3⟩, e2⟩
theorem AQ.cong {h : AH} {a t : Nat} {n : Int} {g g' : Int → Option Nat} (e : AQ h a t n g) (q : ∀ k, 0 ≤ k → k < n → g k = g' k) : AQ h a t n g' := by
  obtain ⟨⟨f, e1, e3⟩, e2⟩ := e
  exact ⟨⟨f, e1, fun k a b => (e3 k a b).trans (q k a b)⟩, e2⟩
theorem AQ.set {h : AH} {a t ci : Nat} {n : Int} {g : Int → Option Nat} (e : AQ h a t n g) {i : Int} (v : Nat) {fs : List Value} (hv : hObj ci h v = some fs) (h0 : 0 ≤ i) (h1 : i < n) : ∃ h', sR t ci h a (I i) v = some h' ∧ AQ h' a t n (uo g i (some v)) ∧ Fr a (a + 1) h h' := by
  obtain ⟨⟨f, e1, e3⟩, e2⟩ := e
  refine ⟨hU h a (.inl (t, n.toNat, .inr (.inr (.inr (.inr (va_up f i.toNat (some v))))))), ?_, ⟨⟨va_up f i.toNat (some v), ?_, fun k k0 k1 => ?_⟩, e2⟩, Fr.u _ _ (by omega) (by omega)⟩
  · simp only [sR, xQ, e1, if_pos, hv, Option.bind_some, ix_I h0 h1 e2.2]
  · simp only [hU, if_pos]
  · unfold va_up uo
    by_cases hk : k = i
    · rw [if_pos (by omega), if_pos hk]
    · rw [if_neg (by omega), if_neg hk]; exact e3 k k0 k1
/-! one more bit lemma: some bit or none -/
theorem bs_any (q : Int → Bool) : ∀ k : Nat, bs q k = 0 ↔ cn q k 0 = 0 := by
  intro k
  induction k with
  | zero => simp [bs, cn]
  | succ k ih =>
    have r := bs_rng q k
    have n := cn_nn q k 0
    have p : (0 : Int) < 2 ^ k := Int.pow_pos (by omega)
    rw [bs, cn_last, show (0 : Int) + (k : Nat) = (k : Int) by omega]
    by_cases c : q (k : Int) = true
    · rw [if_pos c, if_pos c]; omega
    · rw [if_neg c, if_neg c]; omega
theorem ite_tf (P : Prop) [Decidable P] : (if P then some true else some false : Option Bool) = some (decide P) := by
  by_cases c : P
  · rw [if_pos c, decide_eq_true c]
  · rw [if_neg c, decide_eq_false c]
theorem ite_ft (P : Prop) [Decidable P] : (if P then some false else some true : Option Bool) = some (decide (¬ P)) := by
  by_cases c : P
  · rw [if_pos c, decide_eq_false (fun h => h c)]
  · rw [if_neg c, decide_eq_true c]
