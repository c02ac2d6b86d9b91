/-! the reference's tokens -/
def RF (h : AH) (m : Nat) (v : Nat → Int) (se : Int64) (g : Nat → Int → Int) (gl : Nat → Int → Int64) (T : Int → Int) : Prop := MO h m v se g gl ∧ TS T (g 2) (v 2) ∧ 0 ≤ v 16 ∧ v 16 ≤ v 2 ∧ v 2 ≤ 400
theorem sbt_of {b : Int} (h0 : 0 ≤ b) (h1 : b ≤ 255) : sbt b % 256 = b ∧ -128 ≤ sbt b ∧ sbt b ≤ 127 ∧ ((0 ≤ sbt b ∧ sbt b = b) ∨ (sbt b < 0 ∧ 128 ≤ b)) := by
  unfold sbt
  by_cases c : b < 128
  · rw [if_pos c]; omega
  · rw [if_neg c]; omega
theorem J_pack {x b : Int} (h0 : 0 ≤ x) (h1 : x < 281474976710656) (b0 : 0 ≤ b) (b1 : b < 256) : (J x <<< ((I 8).toInt64 &&& 63)) ||| J b = J (256 * x + b) := by
  have e : ((I 8).toInt64 &&& 63) = (8 : Int64) := by decide
  have tb : ∀ y : Int, 0 ≤ y → y < 18446744073709551616 → (J y).toBitVec.toNat = y.toNat := fun y y0 y1 => by
    show (BitVec.ofInt 64 y).toNat = y.toNat
    rw [BitVec.toNat_ofInt]
    have e : ((2 ^ 64 : Nat) : Int) = 18446744073709551616 := rfl
    rw [e]
    congr 1
    omega
  rw [e]
  apply Int64.toBitVec_inj.mp
  apply BitVec.eq_of_toNat_eq
  rw [tb (256 * x + b) (by omega) (by omega), Int64.toBitVec_or, BitVec.toNat_or, tb b b0 (by omega)]
  have sh : (J x <<< (8 : Int64)).toBitVec = (J x).toBitVec <<< 8 := rfl
  rw [sh, BitVec.toNat_shiftLeft, tb x h0 (by omega), Nat.mod_eq_of_lt (by rw [Nat.shiftLeft_eq]; omega), ← Nat.shiftLeft_add_eq_or_of_lt (by omega), Nat.shiftLeft_eq]
  omega
section
variable {h h' : AH} {m : Nat} {v : Nat → Int} {se : Int64} {g : Nat → Int → Int} {gl : Nat → Int → Int64} {T : Int → Int}
theorem RF.b (R : RF h m v se g gl T) : ∀ i, 0 ≤ i → i < v 2 → 0 ≤ T i ∧ T i ≤ 255 := fun i i0 i1 => (R.2.1 i i0 i1).2
theorem RF.byte (R : RF h m v se g gl T) {i : Int} (i0 : 0 ≤ i) (i1 : i < v 2) : aI 2 h (m + 2) (I i) = some (I (sbt (T i))) := by
  rw [R.1.r2 i0 (by have := R.2.2.2.2; omega), (R.2.1 i i0 i1).1]
theorem RF.letter (R : RF h m v se g gl T) {i : Int} (i0 : 0 ≤ i) (i1 : i < 2147483648) : f9_isLetter h m (I i) = some (decide (isl T (v 2) i)) := by
  have n4 := R.2.2.2.2
  have n0 : 0 ≤ v 2 := by have := R.2.2.1; have := R.2.2.2.1; omega
  have l1 : (I (v 2) ≤ I i) = (v 2 ≤ i) := I_le (by omega) (by omega) (by omega) (by omega)
  rw [f9_isLetter, R.1.o, Option.bind_some, R.1.f2, Option.bind_some]
  simp only [I_lit]
  by_cases c : i < v 2
  · have b := R.b i i0 c
    have sb := sbt_of b.1 b.2
    have l2 : (I (sbt (T i)) < I 97) = (sbt (T i) < 97) := I_lt (by omega) (by omega) (by omega) (by omega)
    have l3 : (I 122 < I (sbt (T i))) = (122 < sbt (T i)) := I_lt (by omega) (by omega) (by omega) (by omega)
    rw [if_neg (by rw [l1]; omega), R.1.f1, Option.bind_some, R.byte i0 c, Option.bind_some]
    by_cases d : sbt (T i) < 97
    · rw [if_pos (l2 ▸ d), decide_eq_false (fun z => by omega)]
    · rw [if_neg (fun z => d (l2 ▸ z)), Option.bind_some, R.byte i0 c, Option.bind_some]
      by_cases e : 122 < sbt (T i)
      · rw [if_pos (l3 ▸ e), decide_eq_false (fun z => by omega)]
      · rw [if_neg (fun z => e (l3 ▸ z)), decide_eq_true ⟨c, by omega⟩]
  · rw [if_pos (by rw [l1]; omega), decide_eq_false (fun z => c z.1)]
theorem RF.digit (R : RF h m v se g gl T) {i : Int} (i0 : 0 ≤ i) (i1 : i < 2147483648) : f9_isDigit h m (I i) = some (decide (isd T (v 2) i)) := by
  have n4 := R.2.2.2.2
  have n0 : 0 ≤ v 2 := by have := R.2.2.1; have := R.2.2.2.1; omega
  have l1 : (I (v 2) ≤ I i) = (v 2 ≤ i) := I_le (by omega) (by omega) (by omega) (by omega)
  rw [f9_isDigit, R.1.o, Option.bind_some, R.1.f2, Option.bind_some]
  simp only [I_lit]
  by_cases c : i < v 2
  · have b := R.b i i0 c
    have sb := sbt_of b.1 b.2
    have l2 : (I (sbt (T i)) < I 48) = (sbt (T i) < 48) := I_lt (by omega) (by omega) (by omega) (by omega)
    have l3 : (I 57 < I (sbt (T i))) = (57 < sbt (T i)) := I_lt (by omega) (by omega) (by omega) (by omega)
    rw [if_neg (by rw [l1]; omega), R.1.f1, Option.bind_some, R.byte i0 c, Option.bind_some]
    by_cases d : sbt (T i) < 48
    · rw [if_pos (l2 ▸ d), decide_eq_false (fun z => by omega)]
    · rw [if_neg (fun z => d (l2 ▸ z)), Option.bind_some, R.byte i0 c, Option.bind_some]
      by_cases e : 57 < sbt (T i)
      · rw [if_pos (l3 ▸ e), decide_eq_false (fun z => by omega)]
      · rw [if_neg (fun z => e (l3 ▸ z)), decide_eq_true ⟨c, by omega⟩]
  · rw [if_pos (by rw [l1]; omega), decide_eq_false (fun z => c z.1)]
theorem RF.to (R : RF h m v se g gl T) (x : Int) (x0 : 0 ≤ x) (x1 : x ≤ v 2) : ∃ h', fS 9 16 h m (.int (I x)) = some h' ∧ RF h' m (us v 16 x) se g gl T ∧ Fr m (m + 24) h h' := by
  obtain ⟨h1, e1, M1, F1⟩ := R.1.s16 x
  exact ⟨h1, e1, ⟨M1, R.2.1, x0, x1, R.2.2.2.2⟩, F1⟩
theorem RF.see0 : ∀ (f : Nat) (h : AH) (v : Nat → Int), RF h m v se g gl T → v 2 - v 16 < f → ∃ h', f9_see_0 m f h = f9_see_38 h' m ∧ RF h' m (us v 16 (skp (fun i => decide (T i = 32)) (v 2) f (v 16))) se g gl T ∧ Fr m (m + 24) h h'
  | 0, h, v, R, hf => by have := R.2.2.2.1; omega
  | f + 1, h, v, R, hf => by
    have a0 := R.2.2.1
    have a1 := R.2.2.2.1
    have a2 := R.2.2.2.2
    have l1 : (I (v 2) ≤ I (v 16)) = (v 2 ≤ v 16) := I_le (by omega) (by omega) (by omega) (by omega)
    rw [f9_see_0]
    simp only [I_lit]
    rw [R.1.f16, Option.bind_some, R.1.f2, Option.bind_some]
    unfold skp
    by_cases c : v 16 < v 2
    · have b := R.b _ a0 c
      have sb := sbt_of b.1 b.2
      have l2 : (I (sbt (T (v 16))) = I 32) = (sbt (T (v 16)) = 32) := I_eq (by omega) (by omega) (by omega) (by omega)
      rw [if_neg (fun z => (by rw [l1] at z; omega)), R.1.f1, Option.bind_some, Option.bind_some, R.byte a0 c, Option.bind_some]
      by_cases d : T (v 16) = 32
      · rw [if_pos (l2 ▸ (by omega)), if_pos ⟨c, decide_eq_true d⟩, Option.bind_some, I_add]
        obtain ⟨h1, e1, R1, F1⟩ := R.to (v 16 + 1) (by omega) (by omega)
        rw [e1, Option.bind_some]
        have e : us v 16 (v 16 + 1) 2 = v 2 := us_ne (by omega)
        have e' : us v 16 (v 16 + 1) 16 = v 16 + 1 := us_eq
        obtain ⟨h2, e2, R2, F2⟩ := RF.see0 f h1 _ R1 (by rw [e, e']; omega)
        rw [e, e', us_us] at R2
        exact ⟨h2, e2, R2, F1.trans F2⟩
      · rw [if_neg (fun z => (by rw [l2] at z; omega)), if_neg (fun z => d (of_decide_eq_true z.2)), us_same]
        exact ⟨h, rfl, R, Fr.refl _ _ _⟩
    · rw [if_pos (by rw [l1]; omega), if_neg (fun z => c z.1), us_same]
      exact ⟨h, rfl, R, Fr.refl _ _ _⟩
theorem RF.see (R : RF h m v se g gl T) {s : Int} (es : bl T (v 2) (v 16) = s) : ∃ h', f9_see h m = some (I (byt T (v 2) s), h') ∧ RF h' m (us v 16 s) se g gl T ∧ Fr m (m + 24) h h' := by
  have fu := FU_big
  have a0 := R.2.2.1
  have a1 := R.2.2.2.1
  have a2 := R.2.2.2.2
  obtain ⟨h1, e1, R1, F1⟩ := RF.see0 FU h v R (by omega)
  have R1' : RF h1 m (us v 16 (bl T (v 2) (v 16))) se g gl T := R1
  have br := bl_rng (T := T) a1
  rw [es] at R1' br
  refine ⟨h1, ?_, R1', F1⟩
  have q2 : us v 16 s 2 = v 2 := us_ne (by omega)
  have l1 : (I (v 2) ≤ I s) = (v 2 ≤ s) := I_le (by omega) (by omega) (by omega) (by omega)
  rw [f9_see, R.1.o, Option.bind_some, e1, f9_see_38, R1'.1.f16, Option.bind_some, R1'.1.f2, Option.bind_some, us_eq, q2]
  simp only [I_lit, I_neg]
  unfold byt
  by_cases c : s < v 2
  · have b := R.b s (by omega) c
    have y := R1'.byte (i := s) (by omega) (by rw [q2]; exact c)
    rw [if_neg (by rw [l1]; omega), R1'.1.f1, Option.bind_some, Option.bind_some, y, Option.bind_some, I_and255, (sbt_of b.1 b.2).1, if_pos c]
  · rw [if_pos (by rw [l1]; omega), if_neg c]
theorem RF.wordLoop (R : RF h m v se g gl T) {s e W : Int} (es : v 16 = s) (se_ : s ≤ e) (en : e ≤ v 2) (hl : ∀ k, s ≤ k → k < e → 97 ≤ T k ∧ T k ≤ 122) (he : ¬ isl T (v 2) e) (W0 : 0 < W) (W1 : W < 9223372036854775808) : ∀ (d q F : Nat) (x : Int64), s + q + d = e → d < F → (q < 8 → x = J (pkf T s q)) → f9_isWord_10 h m (J W) F x (I (q : Int)) = some (decide (P8 T s e = W), h)
  | _, _, 0, _, _, hf, _ => by omega
  | 0, q, F + 1, x, h0, hf, hx => by
    have a0 := R.2.2.1
    have a2 := R.2.2.2.2
    have l1 : (I (q : Int) ≤ I 0) = ((q : Int) ≤ 0) := I_le (by omega) (by omega) (by omega) (by omega)
    have l2 : (I 8 ≤ I (q : Int)) = ((8 : Int) ≤ q) := I_le (by omega) (by omega) (by omega) (by omega)
    rw [f9_isWord_10]
    simp only [I_lit]
    rw [R.1.f16, Option.bind_some, I_add, es, R.letter (by omega) (by omega), Option.bind_some, show s + q = e by omega, decide_eq_false he, if_neg (by simp)]
    by_cases c : q = 0
    · have p8 : P8 T s e = 0 := by unfold P8; rw [if_neg (by omega)]
      rw [if_pos (by rw [l1]; omega), p8, decide_eq_false (by omega)]
    · rw [if_neg (by rw [l1]; omega)]
      by_cases d : q < 8
      · have n : (e - s).toNat = q := by omega
        have pr := pkf_nn (f := T) (s := s) q (fun i hi => by have := hl (s + i) (by omega) (by omega); omega)
        have c7 : (256 : Int) ^ q ≤ 256 ^ 7 := ipow256 (by omega)
        have p8 : P8 T s e = pkf T s q := by unfold P8; rw [if_pos (by omega), n]
        rw [if_neg (by rw [l2]; omega), hx d, p8]
        have l3 : (J (pkf T s q) = J W) = (pkf T s q = W) := J_eq (by omega) (by omega) (by omega) (by omega)
        by_cases y : pkf T s q = W
        · rw [if_pos (l3 ▸ y), decide_eq_true y]
        · rw [if_neg (fun z => y (l3 ▸ z)), decide_eq_false y]
      · have p8 : P8 T s e = 0 := by unfold P8; rw [if_neg (by omega)]
        rw [if_pos (by rw [l2]; omega), p8, decide_eq_false (by omega)]
  | d + 1, q, F + 1, x, h0, hf, hx => by
    have a0 := R.2.2.1
    have a2 := R.2.2.2.2
    have y := hl (s + q) (by omega) (by omega)
    have l2 : (I 8 ≤ I (q : Int)) = ((8 : Int) ≤ q) := I_le (by omega) (by omega) (by omega) (by omega)
    have lt : isl T (v 2) (s + q) := ⟨by omega, y⟩
    have c1 : (q : Int) + 1 = ((q + 1 : Nat) : Int) := by omega
    rw [f9_isWord_10]
    simp only [I_lit]
    rw [R.1.f16, Option.bind_some, I_add, es, R.letter (by omega) (by omega), Option.bind_some, decide_eq_true lt, if_pos rfl]
    by_cases c : q < 8
    · have bb : sbt (T (s + q)) = T (s + q) := by unfold sbt; rw [if_pos (by omega)]
      rw [if_neg (by rw [l2]; omega), R.1.f1, Option.bind_some, Option.bind_some, I_add, R.byte (by omega) (by omega), Option.bind_some, Option.bind_some, Option.bind_some, I_add, c1, bb, I_toJ (a := T (s + q)) (by omega) (by omega)]
      refine RF.wordLoop R es se_ en hl he W0 W1 d (q + 1) F _ (by omega) (by omega) (fun c8 => ?_)
      have pr := pkf_nn (f := T) (s := s) q (fun i hi => by have := hl (s + i) (by omega) (by omega); omega)
      have c7 : (256 : Int) ^ q ≤ 256 ^ 6 := ipow256 (by omega)
      rw [hx c]
      exact J_pack (x := pkf T s q) (b := T (s + q)) pr.1 (Int.lt_of_lt_of_le pr.2.2 c7) (by omega) (by omega)
    · rw [if_pos (by rw [l2]; omega), Option.bind_some, I_add, c1]
      exact RF.wordLoop R es se_ en hl he W0 W1 d (q + 1) F _ (by omega) (by omega) (fun c8 => by omega)
/-- is it this word: as the class's kind says -/
theorem RF.isW (R : RF h m v se g gl T) {s : Int} (es : bl T (v 2) (v 16) = s) {W k : Int} (hW : ∀ P : Int, (P = W) = (wkn P = k)) (W0 : 0 < W) (W1 : W < 9223372036854775808) (k1 : k ≤ 20) : ∃ h', f9_isWord h m (J W) = some (decide (kd T (v 2) s = k), h') ∧ RF h' m (us v 16 s) se g gl T ∧ Fr m (m + 24) h h' := by
  have fu := FU_big
  have a0 := R.2.2.1
  have a1 := R.2.2.2.1
  have a2 := R.2.2.2.2
  have br := bl_rng (T := T) a1
  rw [es] at br
  obtain ⟨h1, e1, R1, F1⟩ := R.see es
  refine ⟨h1, ?_, R1, F1⟩
  have q2 : us v 16 s 2 = v 2 := us_ne (by omega)
  have lr := lend_rng (T := T) br.2
  have le_ := lend_end (T := T) (i := s) (n := v 2) (by omega) br.2 a2
  have wl := RF.wordLoop R1 (s := s) (e := lend T (v 2) s) (W := W) us_eq lr.1 (by rw [q2]; exact lr.2) le_.1 (by rw [q2]; exact le_.2) W0 W1 (lend T (v 2) s - s).toNat 0 FU (J 0) (by omega) (by omega) (fun _ => rfl)
  rw [f9_isWord, R.1.o, Option.bind_some, e1, Option.bind_some, Option.bind_some]
  simp only [I_lit, J_lit]
  refine wl.trans ?_
  congr 2
  have key : (P8 T s (lend T (v 2) s) = W) = (kd T (v 2) s = k) := by
    unfold kd
    by_cases c : isl T (v 2) s
    · rw [if_neg (by intro z; have := z.2; have := c.2; omega), if_pos c, hW]
    · have ls : lend T (v 2) s = s := by
        by_cases z : s < lend T (v 2) s
        · exact absurd ⟨by omega, le_.1 s (by omega) z⟩ c
        · omega
      have p0 : P8 T s (lend T (v 2) s) = 0 := by unfold P8; rw [if_neg (by omega)]
      rw [p0]
      apply propext
      constructor
      · intro z; omega
      · intro z
        have tr := two_rng T (v 2) s
        split at z
        · omega
        · omega
  simp only [key]
theorem RF.pass0 : ∀ (f : Nat) (h : AH) (v : Nat → Int), RF h m v se g gl T → v 2 - v 16 < f → ∃ h', f9_passWord_0 m f h = some h' ∧ RF h' m (us v 16 (skp (fun k => decide (97 ≤ T k ∧ T k ≤ 122)) (v 2) f (v 16))) se g gl T ∧ Fr m (m + 24) h h'
  | 0, h, v, R, hf => by have := R.2.2.2.1; omega
  | f + 1, h, v, R, hf => by
    have a0 := R.2.2.1
    have a1 := R.2.2.2.1
    have a2 := R.2.2.2.2
    rw [f9_passWord_0]
    simp only [I_lit]
    rw [R.1.f16, Option.bind_some, R.letter a0 (by omega), Option.bind_some]
    unfold skp
    by_cases c : isl T (v 2) (v 16)
    · rw [if_pos (decide_eq_true c), if_pos ⟨c.1, decide_eq_true c.2⟩, Option.bind_some, I_add]
      obtain ⟨h1, e1, R1, F1⟩ := R.to (v 16 + 1) (by omega) (by have := c.1; omega)
      rw [e1, Option.bind_some]
      have e : us v 16 (v 16 + 1) 2 = v 2 := us_ne (by omega)
      have e' : us v 16 (v 16 + 1) 16 = v 16 + 1 := us_eq
      obtain ⟨h2, e2, R2, F2⟩ := RF.pass0 f h1 _ R1 (by rw [e, e']; omega)
      rw [e, e', us_us] at R2
      exact ⟨h2, e2, R2, F1.trans F2⟩
    · rw [if_neg (fun z => c (of_decide_eq_true z)), if_neg (fun z => c ⟨z.1, of_decide_eq_true z.2⟩), us_same]
      exact ⟨h, rfl, R, Fr.refl _ _ _⟩
theorem RF.pass (R : RF h m v se g gl T) {s : Int} (es : v 16 = s) : ∃ h', f9_passWord h m = some h' ∧ RF h' m (us v 16 (lend T (v 2) s)) se g gl T ∧ Fr m (m + 24) h h' := by
  have fu := FU_big
  have a0 := R.2.2.1
  have a2 := R.2.2.2.2
  obtain ⟨h1, e1, R1, F1⟩ := RF.pass0 FU h v R (by omega)
  rw [es] at R1
  refine ⟨h1, ?_, R1, F1⟩
  rw [f9_passWord, R.1.o, Option.bind_some, e1]
theorem RF.set (R : RF h m v se g gl T) {k : Nat} {x : Int} {h' : AH} (M : MO h' m (us v k x) se g gl) (k2 : k ≠ 2) (k16 : k ≠ 16) : RF h' m (us v k x) se g gl T := by
  refine ⟨M, ?_, ?_, ?_, ?_⟩
  · rw [us_ne (by omega)]; exact R.2.1
  · rw [us_ne (by omega)]; exact R.2.2.1
  · rw [us_ne (by omega), us_ne (by omega)]; exact R.2.2.2.1
  · rw [us_ne (by omega)]; exact R.2.2.2.2
theorem RF.setg (R : RF h m v se g gl T) {k : Nat} {x : Int → Int} {h' : AH} (M : MO h' m v se (uf g k x) gl) (k2 : k ≠ 2) : RF h' m v se (uf g k x) gl T := ⟨M, by rw [uf_ne (by omega)]; exact R.2.1, R.2.2⟩
theorem RF.fails (R : RF h m v se g gl T) (w : v 17 = 0) {k i : Int} : ∃ h', f9_fails h m (I k) (I i) = some (false, h') ∧ RF h' m (us v 17 (1 + 8 * i + k)) se g gl T ∧ Fr m (m + 24) h h' := by
  obtain ⟨h1, e1, M1, F1⟩ := R.1.s17 (1 + 8 * i + k)
  refine ⟨h1, ?_, R.set M1 (by omega) (by omega), F1⟩
  rw [f9_fails, R.1.o, Option.bind_some, R.1.f17, Option.bind_some, w]
  simp only [I_lit]
  rw [if_pos trivial, I_mul, I_add, I_add, e1, Option.bind_some]
theorem RF.numLoop {lo hi s e : Int} (s0 : 0 ≤ s) (e4 : e ≤ 400) (lo0 : 0 ≤ lo) (lo1 : lo < 1000000) (hi0 : 0 ≤ hi) (hi1 : hi < 1000000) (hd : ∀ k, s ≤ k → k < e → 48 ≤ T k ∧ T k ≤ 57) : ∀ (d q F : Nat) (h : AH) (v : Nat → Int), RF h m v se g gl T → v 16 = s + q → e ≤ v 2 → ¬ isd T (v 2) e → v 17 = 0 → s + q + d = e → d < F → ∃ h', f9_number_34 m (I lo) (I hi) (I s) F h (I (nvf T s q)) = some (decide (e - s ≤ 5 ∧ lo ≤ nvf T s (e - s).toNat ∧ nvf T s (e - s).toNat ≤ hi), h') ∧ RF h' m (if e - s ≤ 5 ∧ lo ≤ nvf T s (e - s).toNat ∧ nvf T s (e - s).toNat ≤ hi then us (us v 16 e) 18 (nvf T s (e - s).toNat) else us (us (us v 16 e) 18 (nvf T s (e - s).toNat)) 17 (1 + 8 * s + 1)) se g gl T ∧ Fr m (m + 24) h h'
  | _, _, 0, _, _, _, _, _, _, _, _, hf => by omega
  | 0, q, F + 1, h, v, R, e16, en, he, w, h0, hf => by
    have a2 := R.2.2.2.2
    have nr := nvf_lt (T := T) (s := s) q (fun i hi => hd (s + i) (by omega) (by omega))
    obtain ⟨h1, e1, M1, F1⟩ := R.1.s18 (nvf T s q)
    have R1 := R.set M1 (by omega) (by omega)
    have n : (e - s).toNat = q := by omega
    have q16 : us v 18 (nvf T s q) 16 = s + q := by rw [us_ne (by omega)]; exact e16
    have q17 : us v 18 (nvf T s q) 17 = 0 := by rw [us_ne (by omega)]; exact w
    have l5 : (I 5 < I (e - s)) = (5 < e - s) := I_lt (by omega) (by omega) (by omega) (by omega)
    have same : us v 16 e = v := by rw [← show v 16 = e by omega]; exact us_same _ _
    obtain ⟨h2, e2, R2, F2⟩ := R1.fails q17 (k := 1) (i := s)
    rw [f9_number_34]
    simp only [I_lit]
    rw [R.1.f16, Option.bind_some, e16, R.digit (by omega) (by omega), Option.bind_some, show s + q = e by omega, decide_eq_false he, if_neg (by simp), e1, Option.bind_some, R1.1.f16, Option.bind_some, q16, I_sub, show s + q - s = e - s by omega, n, same]
    by_cases c : e - s ≤ 5
    · rw [if_neg (by rw [l5]; omega), I_toJ (by omega) (by omega), I_toJ (by omega) (by omega), I_toJ (by omega) (by omega), in_of (by omega) (by omega) (by omega) (by omega) (by omega) (by omega), Option.bind_some]
      by_cases d : lo ≤ nvf T s q ∧ nvf T s q ≤ hi
      · rw [if_pos (decide_eq_true d), if_pos ⟨c, d⟩, decide_eq_true ⟨c, d⟩]
        exact ⟨h1, rfl, R1, F1⟩
      · rw [if_neg (fun z => d (of_decide_eq_true z)), if_neg (fun z => d z.2), decide_eq_false (fun z => d z.2), e2]
        exact ⟨h2, rfl, R2, F1.trans F2⟩
    · rw [if_pos (by rw [l5]; omega), if_neg (fun z => c z.1), decide_eq_false (fun z => c z.1), e2]
      exact ⟨h2, rfl, R2, F1.trans F2⟩
  | d + 1, q, F + 1, h, v, R, e16, en, he, w, h0, hf => by
    have a2 := R.2.2.2.2
    have y := hd (s + q) (by omega) (by omega)
    have dg : isd T (v 2) (s + q) := ⟨by omega, y⟩
    have bb : sbt (T (s + q)) = T (s + q) := by unfold sbt; rw [if_pos (by omega)]
    have l5 : (I 5 ≤ I (q : Int)) = ((5 : Int) ≤ q) := I_le (by omega) (by omega) (by omega) (by omega)
    obtain ⟨h1, e1, R1, F1⟩ := R.to (s + q + 1) (by omega) (by omega)
    have q2 : us v 16 (s + q + 1) 2 = v 2 := us_ne (by omega)
    obtain ⟨h2, e2, R2, F2⟩ := RF.numLoop s0 e4 lo0 lo1 hi0 hi1 hd d (q + 1) F h1 _ R1 (by rw [us_eq]; omega) (by rw [q2]; exact en) (by rw [q2]; exact he) (by rw [us_ne (by omega)]; exact w) (by omega) (by omega)
    rw [us_us] at R2
    refine ⟨h2, ?_, R2, F1.trans F2⟩
    rw [f9_number_34]
    simp only [I_lit]
    rw [R.1.f16, Option.bind_some, e16, R.digit (by omega) (by omega), Option.bind_some, decide_eq_true dg, if_pos rfl, Option.bind_some, I_sub, show s + q - s = q by omega]
    by_cases c : q < 5
    · rw [if_neg (by rw [l5]; omega), R.1.f1, Option.bind_some, Option.bind_some, R.byte (by omega) (by omega), Option.bind_some, Option.bind_some, Option.bind_some, I_add, e1, Option.bind_some, bb, I_mul, I_add, I_sub, ← e2]
      congr 2
      show _ = if q < 5 then _ else _
      rw [if_pos c]
      omega
    · rw [if_pos (by rw [l5]; omega), Option.bind_some, I_add, e1, Option.bind_some, ← e2]
      congr 2
      show _ = if q < 5 then _ else _
      rw [if_neg c]
theorem RF.number (R : RF h m v se g gl T) {s : Int} (es : bl T (v 2) (v 16) = s) (w : v 17 = 0) {lo hi : Int} (lo0 : 0 ≤ lo) (lo1 : lo < 1000000) (hi0 : 0 ≤ hi) (hi1 : hi < 1000000) : (¬ isd T (v 2) s ∧ ∃ h', f9_number h m (I lo) (I hi) = some (false, h') ∧ RF h' m (us (us v 16 s) 17 (1 + 8 * s + 0)) se g gl T ∧ Fr m (m + 24) h h') ∨ (isd T (v 2) s ∧ dend T (v 2) s - s ≤ 5 ∧ lo ≤ nvf T s (dend T (v 2) s - s).toNat ∧ nvf T s (dend T (v 2) s - s).toNat ≤ hi ∧ ∃ h', f9_number h m (I lo) (I hi) = some (true, h') ∧ RF h' m (us (us v 16 (dend T (v 2) s)) 18 (nvf T s (dend T (v 2) s - s).toNat)) se g gl T ∧ Fr m (m + 24) h h') ∨ (isd T (v 2) s ∧ ¬ (dend T (v 2) s - s ≤ 5 ∧ lo ≤ nvf T s (dend T (v 2) s - s).toNat ∧ nvf T s (dend T (v 2) s - s).toNat ≤ hi) ∧ ∃ h', f9_number h m (I lo) (I hi) = some (false, h') ∧ RF h' m (us (us (us v 16 (dend T (v 2) s)) 18 (nvf T s (dend T (v 2) s - s).toNat)) 17 (1 + 8 * s + 1)) se g gl T ∧ Fr m (m + 24) h h') := by
  have fu := FU_big
  have a0 := R.2.2.1
  have a1 := R.2.2.2.1
  have a2 := R.2.2.2.2
  have br := bl_rng (T := T) a1
  rw [es] at br
  obtain ⟨h1, e1, R1, F1⟩ := R.see es
  have q2 : us v 16 s 2 = v 2 := us_ne (by omega)
  have q17 : us v 16 s 17 = 0 := by rw [us_ne (by omega)]; exact w
  rw [f9_number, R.1.o, Option.bind_some, e1, Option.bind_some, R1.1.f16, Option.bind_some, us_eq, R1.digit (by omega) (by omega), Option.bind_some, q2]
  simp only [I_lit]
  by_cases c : isd T (v 2) s
  · have dr := dend_rng (T := T) br.2
    have de := dend_end (T := T) (i := s) (n := v 2) (by omega) br.2 a2
    obtain ⟨h2, e2, R2, F2⟩ := RF.numLoop (lo := lo) (hi := hi) (s := s) (e := dend T (v 2) s) (by omega) (by omega) lo0 lo1 hi0 hi1 de.1 (dend T (v 2) s - s).toNat 0 FU h1 _ R1 (by rw [us_eq]; omega) (by rw [q2]; exact dr.2) (by rw [q2]; exact de.2) q17 (by omega) (by omega)
    have e2' : f9_number_34 m (I lo) (I hi) (I s) FU h1 (I 0) = _ := e2
    rw [if_pos (decide_eq_true c), Option.bind_some, e2']
    by_cases d : dend T (v 2) s - s ≤ 5 ∧ lo ≤ nvf T s (dend T (v 2) s - s).toNat ∧ nvf T s (dend T (v 2) s - s).toNat ≤ hi
    · rw [if_pos d, us_us] at R2
      rw [decide_eq_true d]
      exact .inr (.inl ⟨c, d.1, d.2.1, d.2.2, h2, rfl, R2, F1.trans F2⟩)
    · rw [if_neg d, us_us] at R2
      rw [decide_eq_false d]
      exact .inr (.inr ⟨c, d, h2, rfl, R2, F1.trans F2⟩)
  · obtain ⟨h2, e2, R2, F2⟩ := R1.fails q17 (k := 0) (i := s)
    rw [if_neg (fun z => c (of_decide_eq_true z)), Option.bind_some, e2]
    exact .inl ⟨c, h2, rfl, R2, F1.trans F2⟩
end
