theorem ori_bs : ∀ a0 a1 a2 a3 a4 a5 b0 b1 b2 b3 b4 b5 : Bool, ori (bs (fun i => if i = 0 then a0 else if i = 1 then a1 else if i = 2 then a2 else if i = 3 then a3 else if i = 4 then a4 else a5) 6) (bs (fun i => if i = 0 then b0 else if i = 1 then b1 else if i = 2 then b2 else if i = 3 then b3 else if i = 4 then b4 else b5) 6) = bs (fun i => if i = 0 then a0 || b0 else if i = 1 then a1 || b1 else if i = 2 then a2 || b2 else if i = 3 then a3 || b3 else if i = 4 then a4 || b4 else a5 || b5) 6 := by decide +kernel
theorem six (q : Int → Bool) : bs q 6 = bs (fun i => if i = 0 then q 0 else if i = 1 then q 1 else if i = 2 then q 2 else if i = 3 then q 3 else if i = 4 then q 4 else q 5) 6 := bs_cong 6 fun j h0 h1 => by
  have : j = 0 ∨ j = 1 ∨ j = 2 ∨ j = 3 ∨ j = 4 ∨ j = 5 := by omega
  rcases this with e | e | e | e | e | e <;> subst e <;> rfl
theorem ori_six (q q' : Int → Bool) : ori (bs q 6) (bs q' 6) = bs (fun i => q i || q' i) 6 := by
  rw [six q, six q', ori_bs, six fun i => q i || q' i]
def andi (a b : Int) : Int := ((a.toNat &&& b.toNat : Nat) : Int)
theorem I_and {a b : Int} (h : 0 ≤ a) (h' : a < 2147483648) (g : 0 ≤ b) (g' : b < 2147483648) : I a &&& I b = I (andi a b) := by
  rw [I_nI h, I_nI g, andi]
  show Int32.ofNat _ &&& Int32.ofNat _ = Int32.ofNat _
  rw [← Int32.toBitVec_inj, Int32.toBitVec_and]
  show BitVec.ofNat 32 _ &&& BitVec.ofNat 32 _ = BitVec.ofNat 32 _
  rw [BitVec.ofNat_and]
theorem andi_bs : ∀ a0 a1 a2 a3 a4 a5 b0 b1 b2 b3 b4 b5 : Bool, andi (bs (fun i => if i = 0 then a0 else if i = 1 then a1 else if i = 2 then a2 else if i = 3 then a3 else if i = 4 then a4 else a5) 6) (bs (fun i => if i = 0 then b0 else if i = 1 then b1 else if i = 2 then b2 else if i = 3 then b3 else if i = 4 then b4 else b5) 6) = bs (fun i => if i = 0 then a0 && b0 else if i = 1 then a1 && b1 else if i = 2 then a2 && b2 else if i = 3 then a3 && b3 else if i = 4 then a4 && b4 else a5 && b5) 6 := by decide +kernel
theorem andi_six (q q' : Int → Bool) : andi (bs q 6) (bs q' 6) = bs (fun i => q i && q' i) 6 := by
  rw [six q, six q', andi_bs, six fun i => q i && q' i]
theorem bc_dec : ∀ n : Fin 256, fJ6_bitCount_0f7a4 (0, fun _ => none) (I (n.val : Int)) = some (I (cn (fun i => decide (bi (n.val : Int) i = 1)) 8 0)) := by decide +kernel
theorem bitCount_of {h : AH} {n : Int} (h0 : 0 ≤ n) (h1 : n < 256) : fJ6_bitCount_0f7a4 h (I n) = some (I (cn (fun i => decide (bi n i = 1)) 8 0)) := by
  have := bc_dec ⟨n.toNat, by omega⟩
  simp only [Int.toNat_of_nonneg h0] at this
  exact this
theorem bc_six (q : Int → Bool) : cn (fun i => decide (bi (bs q 6) i = 1)) 8 0 = cn q 6 0 := by
  have r := bs_rng q 6
  have e : ∀ i : Int, 0 ≤ i → i < 6 → decide (bi (bs q 6) i = 1) = q i := fun i h0 h1 => by
    rw [bs_bi' q 6 h0 (by omega)]
    cases q i <;> rfl
  rw [show (8 : Nat) = 6 + 2 from rfl, cn_add, cn_none 2, Int.add_zero]
  · exact cn_cong _ _ fun j h0 h1 => e j h0 (by omega)
  · intro j h0 h1
    refine decide_eq_false ?_
    have : bi (bs q 6) j = 0 := by
      unfold bi
      rw [Int.ediv_eq_zero_of_lt r.1]
      · rfl
      · have p : (2 : Nat) ^ 6 ≤ 2 ^ j.toNat := Nat.pow_le_pow_right (by omega) (by omega)
        have e2 : ((2 ^ j.toNat : Nat) : Int) = 2 ^ j.toNat := by rw [Int.natCast_pow]; rfl
        omega
    omega
section
variable {h h' : AH} {w : Nat} {r : Int → Int} {c : Nat → Int → Int}
theorem WD.chL (W : WD h w r c) {p : Int} (h0 : 0 ≤ p) (h1 : p < r 4) : ∀ (f : Nat) (m i : Int), 0 ≤ i → i ≤ r 1 → r 1 - i < f → -2 ≤ m → m < i → f7_cheapestTooYoung_12 h w (I (yo r p)) f (I m) (I i) = some (I (fo (fun k b => if bi (yo r p) k = 1 ∧ (b < 0 ∨ r (10 + 2 * k + 1) < r (10 + 2 * b + 1)) then k else b) (r 1 - i).toNat i m)) := by
  intro f
  have b := W.ri.1
  have y := yo_rng W.ri p
  induction f with
  | zero => intro m i h0 h1; omega
  | succ f ih =>
    intro m i i0 i1 i2 m0 m1
    by_cases g : i < r 1
    · have st := W.ri.2.1 i i0 g
      have ih1 := ih i (i + 1) (by omega) (by omega) (by omega) (by omega) (by omega)
      have ih2 := ih m (i + 1) (by omega) (by omega) (by omega) (by omega) (by omega)
      rw [fo_suc _ g]
      by_cases k1 : bi (yo r p) i = 1
      · by_cases k2 : m < 0
        · rw [if_pos ⟨k1, .inl k2⟩, ← ih1]
          simp (disch := omega) only [f7_cheapestTooYoung_12, f7_cheapestTooYoung_55, W.f1, W.st.size, hasBit_of, Option.bind_some, I_lit, I_neg, I_add, I_sub, I_mul, I_lt, I_le, I_eq, if_pos, if_neg, if_true, if_false, decide_eq_true_eq]
        · have sm := W.ri.2.1 m (by omega) (by omega)
          by_cases k3 : r (10 + 2 * i + 1) < r (10 + 2 * m + 1)
          · rw [if_pos ⟨k1, .inr k3⟩, ← ih1]
            simp (disch := omega) only [f7_cheapestTooYoung_12, f7_cheapestTooYoung_55, W.f1, W.st.size, hasBit_of, W.sAt, Option.bind_some, I_lit, I_neg, I_add, I_sub, I_mul, I_lt, I_le, I_eq, if_pos, if_neg, if_true, if_false, decide_eq_true_eq]
          · rw [if_neg (fun z => z.2.elim k2 k3), ← ih2]
            simp (disch := omega) only [f7_cheapestTooYoung_12, f7_cheapestTooYoung_55, W.f1, W.st.size, hasBit_of, W.sAt, Option.bind_some, I_lit, I_neg, I_add, I_sub, I_mul, I_lt, I_le, I_eq, if_pos, if_neg, if_true, if_false, decide_eq_true_eq, Bool.false_eq_true]
      · rw [if_neg (fun z => k1 z.1), ← ih2]
        by_cases k2 : m < 0
        · simp (disch := omega) only [f7_cheapestTooYoung_12, f7_cheapestTooYoung_55, W.f1, W.st.size, hasBit_of, Option.bind_some, I_lit, I_neg, I_add, I_sub, I_mul, I_lt, I_le, I_eq, if_pos, if_neg, if_true, if_false, decide_eq_true_eq]
        · have sm := W.ri.2.1 m (by omega) (by omega)
          simp (disch := omega) only [f7_cheapestTooYoung_12, f7_cheapestTooYoung_55, W.f1, W.st.size, hasBit_of, W.sAt, Option.bind_some, I_lit, I_neg, I_add, I_sub, I_mul, I_lt, I_le, I_eq, if_pos, if_neg, if_true, if_false, decide_eq_true_eq, ite_self]
    · rw [fo_end _ g]
      simp (disch := omega) only [f7_cheapestTooYoung_12, W.f1, W.st.size, Option.bind_some, I_lit, I_neg, I_add, I_sub, I_mul, I_lt, I_le, I_eq, if_pos, if_neg, if_true, if_false, decide_eq_true_eq]
theorem WD.cheapest (W : WD h w r c) {p : Int} (h0 : 0 ≤ p) (h1 : p < r 4) : f7_cheapestTooYoung h w (I p) = some (I (ch r p)) := by
  have b := W.ri.1
  have fu := FU_big
  have := W.chL h0 h1 FU (-2) 0 (by omega) (by omega) (by omega) (by omega) (by omega)
  rw [Int.sub_zero] at this
  unfold ch
  rw [← this]
  simp (disch := omega) only [f7_cheapestTooYoung, W.o, W.young, Option.bind_some, I_lit, I_neg, I_add, I_sub, I_mul, I_lt, I_le, I_eq, if_pos, if_neg, if_true, if_false, decide_eq_true_eq]
theorem WD.liL (W : WD h w r c) {p : Int} (h0 : 0 ≤ p) (h1 : p < 90) : ∀ (f : Nat) (x : Int × Int) (i : Int), 0 ≤ i → i ≤ 6 → 6 - i < f → 0 ≤ x.2 → x.2 ≤ 400 → f7_likeliestSource_8 h w (I p) f (I x.1) (I x.2) (I i) = some (I (fo (fun s x => if x.2 < sw r p s then (s, sw r p s) else x) (6 - i).toNat i x).1) := by
  intro f
  have b := W.ri.1
  induction f with
  | zero => intro x i h0 h1; omega
  | succ f ih =>
    intro x i i0 i1 i2 m0 m1
    by_cases g : i < 6
    · have n := pq_nn r p fun d l => sh r d l i
      have sw1 : sw r p i = pq r p fun d l => sh r d l i := rfl
      rw [fo_suc _ g]
      simp (disch := omega) only [f7_likeliestSource_8, W.sharedWith, Option.bind_some, I_lit, I_neg, I_add, I_sub, I_mul, I_lt, I_le, I_eq, if_pos, if_neg, if_true, if_false, decide_eq_true_eq]
      rw [← sw1] at n ⊢
      by_cases k : x.2 < sw r p i
      · rw [if_neg (by omega), if_pos k, ← ih (i, sw r p i) (i + 1) (by omega) (by omega) (by omega) (by omega) (by simp only []; omega)]
      · rw [if_pos (by omega), if_neg k, ← ih x (i + 1) (by omega) (by omega) (by omega) (by omega) (by omega)]
    · rw [fo_end _ g]
      simp (disch := omega) only [f7_likeliestSource_8, Option.bind_some, I_lit, I_neg, I_add, I_sub, I_mul, I_lt, I_le, I_eq, if_pos, if_neg, if_true, if_false, decide_eq_true_eq]
theorem WD.likely (W : WD h w r c) {p : Int} (h0 : 0 ≤ p) (h1 : p < 90) : f7_likeliestSource h w (I p) = some (I (li r p).1) := by
  have fu := FU_big
  have := W.liL h0 h1 FU (-2, 0) 0 (by omega) (by omega) (by omega) (by simp) (by simp)
  unfold li
  rw [show (6 - 0 : Int).toNat = 6 from rfl] at this
  rw [← this]
  simp (disch := omega) only [f7_likeliestSource, W.o, Option.bind_some, I_lit, I_neg, I_add, I_sub, I_mul, I_lt, I_le, I_eq, if_pos, if_neg, if_true, if_false, decide_eq_true_eq]
theorem WD.soL (W : WD h w r c) {e : Int} (he : e ≤ r 5) (q0 : Int → Bool) : ∀ (f : Nat) (q : Int → Bool) (i : Int), 0 ≤ i → i ≤ e → e - i < f → f7_sourcesOf_15 h w (I e) f (I (bs q 6)) (I i) = some (I (bs (fun s => q s || decide (0 < cn (fun i => sh r (c 6 i % 10000) (c 7 i) s) (e - i).toNat i)) 6)) := by
  intro f
  have b := W.ri.1
  induction f with
  | zero => intro q i h0 h1; omega
  | succ f ih =>
    intro q i i0 i1 i2
    have r1 := bs_rng q 6
    by_cases g : i < e
    · have r2 := bs_rng (sh r (c 6 i % 10000) (c 7 i)) 6
      simp (disch := omega) only [f7_sourcesOf_15, W.sources, I_or, ori_six, Option.bind_some, I_lit, I_neg, I_add, I_sub, I_mul, I_lt, I_le, I_eq, if_pos, if_neg, if_true, if_false, decide_eq_true_eq]
      rw [ih _ (i + 1) (by omega) (by omega) (by omega)]
      congr 2
      refine bs_cong 6 fun s _ _ => ?_
      rw [cn_suc _ g]
      have nn := cn_nn (fun i => sh r (c 6 i % 10000) (c 7 i) s) (e - (i + 1)).toNat (i + 1)
      generalize cn (fun i => sh r (c 6 i % 10000) (c 7 i) s) (e - (i + 1)).toNat (i + 1) = z at nn ⊢
      cases k : sh r (c 6 i % 10000) (c 7 i) s
      · simp
      · simp; right; omega
    · simp (disch := omega) only [f7_sourcesOf_15, cn_end _ g, Option.bind_some, I_lit, I_neg, I_add, I_sub, I_mul, I_lt, I_le, I_eq, if_pos, if_neg, if_true, if_false, decide_eq_true_eq]
      simp
theorem WD.srcOf (W : WD h w r c) {p : Int} (h0 : 0 ≤ p) (h1 : p < 90) : f7_sourcesOf h w (I p) = some (I (bs (fun s => decide (0 < sw r p s)) 6)) := by
  have a := W.fpr p
  have b := W.ri.1
  have fu := FU_big
  have := W.soL (e := fp r c (p + 1)) a.2.2 (fun _ => false) FU (fun _ => false) (fp r c p) (by omega) (by omega) (by omega)
  rw [bs_no 6 (fun _ _ _ => rfl)] at this
  simp (disch := omega) only [f7_sourcesOf, W.o, W.pEnd, W.pFirst, Option.bind_some, I_lit, I_neg, I_add, I_sub, I_mul, I_lt, I_le, I_eq, if_pos, if_neg, if_true, if_false, decide_eq_true_eq, this]
  congr 2
  refine bs_cong 6 fun s _ _ => ?_
  rw [W.count p fun d l => sh r d l s]
  rfl
theorem isFrom_of {h : AH} {a b x : Int} (h0 : -2147483648 ≤ x) (h1 : x < 2147483648) (a0 : -2147483648 ≤ a) (a1 : a < 2147483648) (b0 : -2147483648 ≤ b) (b1 : b < 2147483648) : f8_isFrom h (I x) (I a) (I b) = some (decide (a ≤ x ∧ x ≤ b)) := by
  simp (disch := omega) only [f8_isFrom, Option.bind_some, I_lit, I_neg, I_add, I_sub, I_mul, I_lt, I_le, I_eq, if_pos, if_neg, if_true, if_false, decide_eq_true_eq]
  grind
theorem WD.knL (W : WD h w r c) {e a b : Int} (he : e ≤ r 5) (a0 : 0 ≤ a) (a1 : a ≤ 9999) (b0 : 0 ≤ b) (b1 : b ≤ 9999) : ∀ (f : Nat) (i : Int), 0 ≤ i → i ≤ e → e - i < f → f7_knewWrongDay_35 h w (I a) (I b) (I e) f (I i) = some (decide (0 < cn (fun i => decide (a ≤ c 6 i % 10000 ∧ c 6 i % 10000 ≤ b) && wr r (c 6 i % 10000) (c 7 i)) (e - i).toNat i)) := by
  intro f
  have bb := W.ri.1
  induction f with
  | zero => intro i h0 h1; omega
  | succ f ih =>
    intro i i0 i1 i2
    by_cases g : i < e
    · have rg := W.pgr (i := i) i0 (by omega)
      have nn := cn_nn (fun i => decide (a ≤ c 6 i % 10000 ∧ c 6 i % 10000 ≤ b) && wr r (c 6 i % 10000) (c 7 i)) (e - (i + 1)).toNat (i + 1)
      have ih' := ih (i + 1) (by omega) (by omega) (by omega)
      rw [cn_suc _ g]
      simp (disch := omega) only [f7_knewWrongDay_35, W.day, W.wrong, isFrom_of, Option.bind_some, I_lit, I_neg, I_add, I_sub, I_mul, I_lt, I_le, I_eq, if_pos, if_neg, if_true, if_false, decide_eq_true_eq, ih']
      generalize cn (fun i => decide (a ≤ c 6 i % 10000 ∧ c 6 i % 10000 ≤ b) && wr r (c 6 i % 10000) (c 7 i)) (e - (i + 1)).toNat (i + 1) = z at nn ⊢
      by_cases k1 : a ≤ c 6 i % 10000 ∧ c 6 i % 10000 ≤ b
      · cases k2 : wr r (c 6 i % 10000) (c 7 i)
        · simp [k1]
        · simp [k1]; omega
      · rw [if_neg k1]; simp [k1]
    · simp (disch := omega) only [f7_knewWrongDay_35, cn_end _ g, Option.bind_some, I_lit, I_neg, I_add, I_sub, I_mul, I_lt, I_le, I_eq, if_pos, if_neg, if_true, if_false, decide_eq_true_eq]
      rfl
theorem WD.knew (W : WD h w r c) {e p : Int} (e0 : 0 ≤ e) (e1 : e < r 8) (h0 : 0 ≤ p) (h1 : p < 90) : f7_knewWrongDay h w (I e) (I p) = some (kn r e p) := by
  have a := W.fpr p
  have b := W.ri.1
  have fu := FU_big
  have x := W.ri.2.2.2.2.2.2.2.2.2.2 e e0 e1
  have := W.knL (e := fp r c (p + 1)) (a := r (5030 + 5 * e)) (b := r (5030 + 5 * e + 1)) a.2.2 (by omega) (by omega) (by omega) (by omega) FU (fp r c p) (by omega) (by omega) (by omega)
  rw [W.count p fun d l => decide (r (5030 + 5 * e) ≤ d ∧ d ≤ r (5030 + 5 * e + 1)) && wr r d l] at this
  unfold kn pq
  rw [← this]
  simp (disch := omega) only [f7_knewWrongDay, W.o, W.f8, W.eAt, W.pEnd, W.pFirst, Option.bind_some, I_lit, I_neg, I_add, I_sub, I_mul, I_lt, I_le, I_eq, if_pos, if_neg, if_true, if_false, decide_eq_true_eq, Int.add_zero]
theorem WD.unL (W : WD h w r c) {p wk : Int} (h0 : 0 ≤ p) (h1 : p < 90) (k0 : 0 ≤ wk) (k1 : wk ≤ 519) : ∀ (f : Nat) (i : Int), 0 ≤ i → i ≤ r 8 → r 8 - i < f → f7_unaskedUpTo_5 h w (I p) (I wk) f (I (bs (uq r p wk) i.toNat)) (I i) = some (I (bs (uq r p wk) (r 8).toNat)) := by
  intro f
  have b := W.ri.1
  induction f with
  | zero => intro i h0 h1; omega
  | succ f ih =>
    intro i i0 i1 i2
    by_cases g : i < r 8
    · have x := W.ri.2.2.2.2.2.2.2.2.2.2 i i0 g
      have ih' := ih (i + 1) (by omega) (by omega) (by omega)
      by_cases c1 : r (5030 + 5 * i + 4) < 0 ∨ wk < r (5030 + 5 * i + 4)
      · by_cases c2 : kn r i p = true
        · have q : uq r p wk i = true := by simp [uq, c1, c2]
          rw [← ih', ← bs_or i0 (by omega) q]
          by_cases c3 : r (5030 + 5 * i + 4) = -1
          · simp (disch := omega) only [f7_unaskedUpTo_5, f7_unaskedUpTo_46, W.f8, W.pe.size, W.eAt, W.knew, c2, Option.bind_some, I_lit, I_neg, I_add, I_sub, I_mul, I_lt, I_le, I_eq, if_pos, if_neg, if_true, if_false, decide_eq_true_eq, Bool.false_eq_true]
          · simp (disch := omega) only [f7_unaskedUpTo_5, f7_unaskedUpTo_46, W.f8, W.pe.size, W.eAt, W.knew, c2, Option.bind_some, I_lit, I_neg, I_add, I_sub, I_mul, I_lt, I_le, I_eq, if_pos, if_neg, if_true, if_false, decide_eq_true_eq, Bool.false_eq_true]
        · rw [Bool.not_eq_true] at c2
          have q : uq r p wk i = false := by simp [uq, c2]
          rw [← ih', bs_skip i0 q]
          by_cases c3 : r (5030 + 5 * i + 4) = -1
          · simp (disch := omega) only [f7_unaskedUpTo_5, f7_unaskedUpTo_46, W.f8, W.pe.size, W.eAt, W.knew, c2, Option.bind_some, I_lit, I_neg, I_add, I_sub, I_mul, I_lt, I_le, I_eq, if_pos, if_neg, if_true, if_false, decide_eq_true_eq, Bool.false_eq_true]
          · simp (disch := omega) only [f7_unaskedUpTo_5, f7_unaskedUpTo_46, W.f8, W.pe.size, W.eAt, W.knew, c2, Option.bind_some, I_lit, I_neg, I_add, I_sub, I_mul, I_lt, I_le, I_eq, if_pos, if_neg, if_true, if_false, decide_eq_true_eq, Bool.false_eq_true]
      · have q : uq r p wk i = false := by simp [uq, c1]
        rw [← ih', bs_skip i0 q]
        simp (disch := omega) only [f7_unaskedUpTo_5, f7_unaskedUpTo_46, W.f8, W.pe.size, W.eAt, Option.bind_some, I_lit, I_neg, I_add, I_sub, I_mul, I_lt, I_le, I_eq, if_pos, if_neg, if_true, if_false, decide_eq_true_eq, Bool.false_eq_true]
    · have : i = r 8 := by omega
      subst this
      simp (disch := omega) only [f7_unaskedUpTo_5, W.f8, W.pe.size, Option.bind_some, I_lit, I_neg, I_add, I_sub, I_mul, I_lt, I_le, I_eq, if_pos, if_neg, if_true, if_false, decide_eq_true_eq]
theorem WD.unasked (W : WD h w r c) {p wk : Int} (h0 : 0 ≤ p) (h1 : p < 90) (k0 : 0 ≤ wk) (k1 : wk ≤ 519) : f7_unaskedUpTo h w (I p) (I wk) = some (I (bs (uq r p wk) (r 8).toNat)) := by
  have b := W.ri.1
  have fu := FU_big
  have := W.unL h0 h1 k0 k1 FU 0 (by omega) (by omega) (by omega)
  rw [← this]
  simp (disch := omega) only [f7_unaskedUpTo, W.o, Option.bind_some, I_lit, I_neg, I_add, I_sub, I_mul, I_lt, I_le, I_eq, if_pos, if_neg, if_true, if_false, decide_eq_true_eq]
  rfl
theorem WD.gaL (W : WD h w r c) {e wk : Int} (h0 : 0 ≤ e) (h1 : e < r 8) (k0 : 0 ≤ wk) (k1 : wk ≤ 519) : ∀ (f : Nat) (m i : Int), 0 ≤ i → i ≤ r 4 → r 4 - i < f → f7_gainUpTo_16 h w (I e) (I wk) (I (r (5030 + 5 * e + 3))) f (I m) (I i) = some (I ((m + cn (fun p => decide (r (1330 + 10 * p) = 0) && decide (r (5030 + 5 * e + 3) ≤ r (1330 + 10 * p + 8) ∧ r (1330 + 10 * p + 8) ≤ wk)) (r 4 - i).toNat i) * r (5030 + 5 * e + 2))) := by
  intro f
  have b := W.ri.1
  have x := W.ri.2.2.2.2.2.2.2.2.2.2 e h0 h1
  induction f with
  | zero => intro m i h0 h1; omega
  | succ f ih =>
    intro m i i0 i1 i2
    by_cases g : i < r 4
    · have y := (W.ri.2.2.2.2.1 i i0 g).2.2.2.2.1
      have ih1 := ih (m + 1) (i + 1) (by omega) (by omega) (by omega)
      have ih2 := ih m (i + 1) (by omega) (by omega) (by omega)
      rw [cn_suc _ g]
      simp (disch := omega) only [f7_gainUpTo_16, W.f4, W.pi.size, W.isVol, W.pAt, isFrom_of, Option.bind_some, I_lit, I_neg, I_add, I_sub, I_mul, I_lt, I_le, I_eq, if_pos, if_neg, if_true, if_false, decide_eq_true_eq, ih1, ih2]
      by_cases c1 : r (1330 + 10 * i) = 0
      · by_cases c2 : r (5030 + 5 * e + 3) ≤ r (1330 + 10 * i + 8) ∧ r (1330 + 10 * i + 8) ≤ wk
        · rw [if_pos c1, if_pos c2, if_pos (by simp [c1, c2]), Int.add_assoc]
        · rw [if_pos c1, if_neg c2, if_neg (by simp [c2]), Int.zero_add]
      · rw [if_neg c1, if_neg (by simp [c1]), Int.zero_add]
    · simp (disch := omega) only [f7_gainUpTo_16, W.f4, W.f8, W.pi.size, W.eAt, cn_end _ g, Option.bind_some, I_lit, I_neg, I_add, I_sub, I_mul, I_lt, I_le, I_eq, if_pos, if_neg, if_true, if_false, decide_eq_true_eq, Int.add_zero]
theorem WD.gain (W : WD h w r c) {e wk : Int} (h0 : 0 ≤ e) (h1 : e < r 8) (k0 : 0 ≤ wk) (k1 : wk ≤ 519) : f7_gainUpTo h w (I e) (I wk) = some (I (ga r e wk)) := by
  have b := W.ri.1
  have fu := FU_big
  have := W.gaL h0 h1 k0 k1 FU 0 0 (by omega) (by omega) (by omega)
  rw [Int.sub_zero, Int.zero_add] at this
  unfold ga
  rw [← this]
  simp (disch := omega) only [f7_gainUpTo, W.o, W.f8, W.eAt, Option.bind_some, I_lit, I_neg, I_add, I_sub, I_mul, I_lt, I_le, I_eq, if_pos, if_neg, if_true, if_false, decide_eq_true_eq]
end
