section
variable {h h' : AH} {w : Nat} {r : Int → Int} {c : Nat → Int → Int}
theorem WD.ldEq (W : WD h w r c) {p M : Int} (i : isLd r p M) : M = ld r p := by
  have j := ld_is r p W.ri.1.2.2.2.2.2.2.2.2.2.2.1 fun k h0 h1 => (W.ri.2.2.2.2.2.2.1 k h0 h1).2.2.1
  have := isLd_le i j
  have := isLd_le j i
  omega
theorem WD.inSeg (W : WD h w r c) {p i : Int} (h0 : fp r c p ≤ i) (h1 : i < fp r c (p + 1)) : p * 10000 ≤ c 6 i ∧ c 6 i < (p + 1) * 10000 := by
  have a := W.fpr p
  exact ⟨(W.pg.ffs (p * 10000)).2.2.2 i h0 (by omega), (W.pg.ffs ((p + 1) * 10000)).2.2.1 i (by omega) h1⟩
theorem WD.ld0 (W : WD h w r c) {p : Int} (g : ¬ fp r c p < fp r c (p + 1)) : ld r p = 0 := by
  have a := W.fpr p
  symm
  refine W.ldEq ⟨by omega, ?_, .inl rfl⟩
  unfold pq
  rw [← W.count p fun d _ => decide (0 < d)]
  exact cn_end _ g
theorem WD.ld1 (W : WD h w r c) {p : Int} (g : fp r c p < fp r c (p + 1)) : ld r p = c 6 (fp r c (p + 1) - 1) % 10000 := by
  have a := W.fpr p
  symm
  have s := W.inSeg (p := p) (i := fp r c (p + 1) - 1) (by omega) (by omega)
  refine W.ldEq ⟨by omega, ?_, .inr ?_⟩
  · unfold pq
    rw [← W.count p fun d _ => decide (c 6 (fp r c (p + 1) - 1) % 10000 < d)]
    refine cn_none _ _ fun j h0 h1 => decide_eq_false ?_
    have s1 := W.inSeg (p := p) (i := j) (by omega) (by omega)
    by_cases e : j = fp r c (p + 1) - 1
    · subst e; omega
    · have := W.pg.2.2.2.1 j (fp r c (p + 1) - 1) (by omega) (by omega) (by omega)
      omega
  · unfold pq
    rw [← W.count p fun d _ => decide (d = c 6 (fp r c (p + 1) - 1) % 10000)]
    exact (cn_pos _ _).2 ⟨fp r c (p + 1) - 1, by omega, by omega, decide_eq_true rfl⟩
theorem WD.age (W : WD h w r c) {p : Int} (h0 : 0 ≤ p) (h1 : p < 90) : f7_ageOf h w (I p) = some (I (ag r p)) := by
  have a := W.fpr p
  have b := W.ri.1
  unfold ag
  by_cases g : fp r c p < fp r c (p + 1)
  · have k := W.pgr (i := fp r c (p + 1) - 1) (by omega) (by omega)
    rw [W.ld1 g]
    simp (disch := omega) only [f7_ageOf, W.o, W.pEnd, W.pFirst, W.day, Option.bind_some, I_lit, I_neg, I_add, I_sub, I_mul, I_lt, I_le, I_eq, if_pos, if_neg, if_true, if_false, decide_eq_true_eq, I_div]
  · rw [W.ld0 g]
    simp (disch := omega) only [f7_ageOf, W.o, W.pEnd, W.pFirst, Option.bind_some, I_lit, I_neg, I_add, I_sub, I_mul, I_lt, I_le, I_eq, if_pos, if_neg, if_true, if_false, decide_eq_true_eq]
    rfl
theorem WD.yoL (W : WD h w r c) {p : Int} (h0 : 0 ≤ p) (h1 : p < r 4) : ∀ (f : Nat) (i : Int), 0 ≤ i → i ≤ r 1 → r 1 - i < f → f7_tooYoung_23 h w (I (r (1330 + 10 * p + 6))) (I (ag r p)) f (I (bs (yq r p) i.toNat)) (I i) = some (I (yo r p)) := by
  intro f
  have b := W.ri.1
  have s := st_rng W.ri h0 h1
  have a := ag_rng W.ri p
  induction f with
  | zero => intro i h0 h1; omega
  | succ f ih =>
    intro i i0 i1 i2
    by_cases g : i < r 1
    · have st := W.ri.2.1 i i0 g
      have ih' := ih (i + 1) (by omega) (by omega) (by omega)
      simp (disch := omega) only [f7_tooYoung_23, W.f1, W.st.size, hasBit_of, W.sAt0, Option.bind_some, I_lit, I_neg, I_add, I_sub, I_mul, I_lt, I_le, I_eq, if_pos, if_neg, if_true, if_false, decide_eq_true_eq]
      by_cases k : yq r p i = true
      · rw [← bs_or i0 (by omega) k] at ih'
        simp only [yq, Bool.and_eq_true, decide_eq_true_eq] at k
        rw [if_pos k.1, if_neg (by omega), ih']
      · rw [Bool.not_eq_true] at k
        rw [bs_skip i0 k] at ih'
        simp only [yq, Bool.and_eq_false_iff, decide_eq_false_iff_not] at k
        by_cases k1 : bi (r (1330 + 10 * p + 6)) i = 1
        · rw [if_pos k1, if_pos (by omega), ih']
        · rw [if_neg k1, ih']
    · have : i = r 1 := by omega
      subst this
      simp (disch := omega) only [f7_tooYoung_23, W.f1, W.st.size, Option.bind_some, I_lit, I_neg, I_add, I_sub, I_mul, I_lt, I_le, I_eq, if_pos, if_neg, if_true, if_false, decide_eq_true_eq]
      rfl
theorem WD.young (W : WD h w r c) {p : Int} (h0 : 0 ≤ p) (h1 : p < r 4) : f7_tooYoung h w (I p) = some (I (yo r p)) := by
  have b := W.ri.1
  have fu := FU_big
  have := W.yoL h0 h1 FU 0 (by omega) (by omega) (by omega)
  rw [← this]
  simp (disch := omega) only [f7_tooYoung, W.o, W.f4, W.pAt, W.age, Option.bind_some, I_lit, I_neg, I_add, I_sub, I_mul, I_lt, I_le, I_eq, if_pos, if_neg, if_true, if_false, decide_eq_true_eq]
  rfl
theorem WD.laL (W : WD h w r c) {p : Int} (h0 : 0 ≤ p) (h1 : p < r 4) : ∀ (f : Nat) (m i : Int), 0 ≤ i → i ≤ r 1 → r 1 - i < f → 0 ≤ m → m ≤ 1999 → f7_late_23 h w (I (r (1330 + 10 * p + 6))) (I (ag r p)) f (I m) (I i) = some (I (fo (fun i m => if bi (r (1330 + 10 * p + 6)) i = 1 ∧ m < r (10 + 2 * i) - ag r p then r (10 + 2 * i) - ag r p else m) (r 1 - i).toNat i m)) := by
  intro f
  have b := W.ri.1
  have s := st_rng W.ri h0 h1
  have a := ag_rng W.ri p
  induction f with
  | zero => intro m i h0 h1; omega
  | succ f ih =>
    intro m i i0 i1 i2 m0 m1
    by_cases g : i < r 1
    · have st := W.ri.2.1 i i0 g
      rw [fo_suc _ g]
      simp (disch := omega) only [f7_late_23, W.f1, W.st.size, hasBit_of, W.sAt0, Option.bind_some, I_lit, I_neg, I_add, I_sub, I_mul, I_lt, I_le, I_eq, if_pos, if_neg, if_true, if_false, decide_eq_true_eq]
      by_cases k1 : bi (r (1330 + 10 * p + 6)) i = 1
      · by_cases k2 : m < r (10 + 2 * i) - ag r p
        · rw [if_pos k1, if_pos k2, if_pos ⟨k1, k2⟩, ih _ _ (by omega) (by omega) (by omega) (by omega) (by omega)]
        · rw [if_pos k1, if_neg k2, if_neg (fun z => k2 z.2), ih _ _ (by omega) (by omega) (by omega) (by omega) (by omega)]
      · rw [if_neg k1, if_neg (fun z => k1 z.1), ih _ _ (by omega) (by omega) (by omega) (by omega) (by omega)]
    · rw [fo_end _ g]
      simp (disch := omega) only [f7_late_23, W.f1, W.st.size, Option.bind_some, I_lit, I_neg, I_add, I_sub, I_mul, I_lt, I_le, I_eq, if_pos, if_neg, if_true, if_false, decide_eq_true_eq]
theorem WD.late (W : WD h w r c) {p : Int} (h0 : 0 ≤ p) (h1 : p < r 4) : f7_late h w (I p) = some (I (la r p)) := by
  have b := W.ri.1
  have fu := FU_big
  have := W.laL h0 h1 FU 0 0 (by omega) (by omega) (by omega) (by omega) (by omega)
  rw [Int.sub_zero] at this
  unfold la
  rw [← this]
  simp (disch := omega) only [f7_late, W.o, W.f4, W.pAt, W.age, Option.bind_some, I_lit, I_neg, I_add, I_sub, I_mul, I_lt, I_le, I_eq, if_pos, if_neg, if_true, if_false, decide_eq_true_eq]
theorem WD.apL (W : WD h w r c) {p q : Int} (h0 : 0 ≤ p) (h1 : p < r 4) (g0 : 0 ≤ q) (g1 : q < r 4) : ∀ (f : Nat) (s i : Int), 1 ≤ i → i ≤ 6 → 6 - i < f → f7_apart_5 h w (I p) (I q) f (I s) (I i) = some (I (fo (fun k s => s + (if r (1330 + 10 * p + k) - r (1330 + 10 * q + k) < 0 then -(r (1330 + 10 * p + k) - r (1330 + 10 * q + k)) else r (1330 + 10 * p + k) - r (1330 + 10 * q + k))) (6 - i).toNat i s)) := by
  intro f
  induction f with
  | zero => intro s i h0 h1; omega
  | succ f ih =>
    intro s i i0 i1 i2
    by_cases g : i < 6
    · have x := (W.ri.2.2.2.2.1 p h0 h1).2.1 i (by omega) (by omega)
      have y := (W.ri.2.2.2.2.1 q g0 g1).2.1 i (by omega) (by omega)
      rw [fo_suc _ g]
      simp (disch := omega) only [f7_apart_5, W.f4, W.pAt, Option.bind_some, I_lit, I_neg, I_add, I_sub, I_mul, I_lt, I_le, I_eq, if_pos, if_neg, if_true, if_false, decide_eq_true_eq]
      by_cases k : r (1330 + 10 * p + i) - r (1330 + 10 * q + i) < 0
      · rw [if_neg (by omega), if_pos k, I_add, ih _ _ (by omega) (by omega) (by omega), Int.zero_sub]
      · rw [if_pos (by omega), if_neg k, I_add, ih _ _ (by omega) (by omega) (by omega)]
    · rw [fo_end _ g]
      simp (disch := omega) only [f7_apart_5, Option.bind_some, I_lit, I_neg, I_add, I_sub, I_mul, I_lt, I_le, I_eq, if_pos, if_neg, if_true, if_false, decide_eq_true_eq]
theorem WD.apart (W : WD h w r c) {p q : Int} (h0 : 0 ≤ p) (h1 : p < r 4) (g0 : 0 ≤ q) (g1 : q < r 4) : f7_apart h w (I p) (I q) = some (I (ap r p q)) := by
  have fu := FU_big
  have := W.apL h0 h1 g0 g1 FU 0 1 (by omega) (by omega) (by omega)
  simp (disch := omega) only [f7_apart, W.o, Option.bind_some, I_lit, I_neg, I_add, I_sub, I_mul, I_lt, I_le, I_eq, if_pos, if_neg, if_true, if_false, decide_eq_true_eq]
  exact this
theorem WD.isVol (W : WD h w r c) {p : Int} (h0 : 0 ≤ p) (h1 : p < r 4) : f7_isVolume h w (I p) = some (decide (r (1330 + 10 * p) = 0)) := by
  have x := (W.ri.2.2.2.2.1 p h0 h1).1
  simp (disch := omega) only [f7_isVolume, W.o, W.f4, W.pAt0, Option.bind_some, I_lit, I_neg, I_add, I_sub, I_mul, I_lt, I_le, I_eq, if_pos, if_neg, if_true, if_false, decide_eq_true_eq]
  grind
theorem WD.voL (W : WD h w r c) : ∀ (f : Nat) (s i : Int), 0 ≤ i → i ≤ r 4 → r 4 - i < f → f7_volumes_4 h w f (I s) (I i) = some (I (s + cn (fun p => decide (r (1330 + 10 * p) = 0)) (r 4 - i).toNat i)) := by
  intro f
  have b := W.ri.1
  induction f with
  | zero => intro s i h0 h1; omega
  | succ f ih =>
    intro s i i0 i1 i2
    by_cases g : i < r 4
    · simp (disch := omega) only [f7_volumes_4, W.f4, W.pi.size, W.isVol, cn_suc _ g, Option.bind_some, I_lit, I_neg, I_add, I_sub, I_mul, I_lt, I_le, I_eq, if_pos, if_neg, if_true, if_false, decide_eq_true_eq]
      by_cases k : r (1330 + 10 * i) = 0
      · rw [if_pos k, if_pos k, ih _ _ (by omega) (by omega) (by omega), Int.add_assoc]
      · rw [if_neg k, if_neg k, ih _ _ (by omega) (by omega) (by omega), Int.zero_add]
    · rw [cn_end _ g]
      simp (disch := omega) only [f7_volumes_4, W.f4, W.pi.size, Option.bind_some, I_lit, I_neg, I_add, I_sub, I_mul, I_lt, I_le, I_eq, if_pos, if_neg, if_true, if_false, decide_eq_true_eq, Int.add_zero]
theorem WD.volumes (W : WD h w r c) : f7_volumes h w = some (I (vo r)) := by
  have b := W.ri.1
  have fu := FU_big
  have := W.voL FU 0 0 (by omega) (by omega) (by omega)
  rw [Int.sub_zero, Int.zero_add] at this
  unfold vo
  rw [← this]
  simp (disch := omega) only [f7_volumes, W.o, Option.bind_some, I_lit, I_neg, I_add, I_sub, I_mul, I_lt, I_le, I_eq, if_pos, if_neg, if_true, if_false, decide_eq_true_eq]
theorem WD.unlike (W : WD h w r c) {p q : Int} (h0 : -2147483648 ≤ p) (h1 : p < 2147483648) (g0 : -2147483648 ≤ q) (g1 : q < 2147483648) : f7_areUnlike h w (I p) (I q) = some (decide (0 ≤ p ∧ p < r 4 ∧ 0 ≤ q ∧ q < r 4 ∧ p ≠ q)) := by
  simp (disch := omega) only [f7_areUnlike, W.o, W.f4, W.pi.has, Option.bind_some, I_lit, I_neg, I_add, I_sub, I_mul, I_lt, I_le, I_eq, if_pos, if_neg, if_true, if_false, decide_eq_true_eq]
  by_cases a : 0 ≤ p ∧ p < r 4
  · by_cases b : 0 ≤ q ∧ q < r 4
    · rw [if_pos a, if_pos b]
      by_cases e : p = q
      · rw [if_pos e, decide_eq_false (by omega)]
      · rw [if_neg e, decide_eq_true (by omega)]
    · rw [if_pos a, if_neg b, decide_eq_false (by omega)]
  · rw [if_neg a, decide_eq_false (by omega)]
theorem WD.close (W : WD h w r c) {p : Int} (h0 : 0 ≤ p) (h1 : p < r 4) : f7_isKeptClose h w (I p) = some (decide (r 0 < r (1330 + 10 * p + 9))) := by
  have x := (W.ri.2.2.2.2.1 p h0 h1).2.2.2.2.2
  have b := W.ri.1
  simp (disch := omega) only [f7_isKeptClose, W.o, W.f0, W.f4, W.pAt, Option.bind_some, I_lit, I_neg, I_add, I_sub, I_mul, I_lt, I_le, I_eq, if_pos, if_neg, if_true, if_false, decide_eq_true_eq]
  grind
end
