/-! draws -/
def dr (x : Int) : Int := (x * 1103515245 + 12345) % 2147483648
theorem dr_rng (x : Int) : 0 ≤ dr x ∧ dr x < 2147483648 := by unfold dr; omega
theorem J_and31 {a : Int} (h : 0 ≤ a) (h' : a < 9223372036854775808) : J a &&& J 2147483647 = J (a % 2147483648) := by
  apply Int64.toBitVec_inj.mp
  apply BitVec.eq_of_toNat_eq
  have hm : (J 2147483647).toBitVec.toNat = 2 ^ 31 - 1 := by decide +kernel
  rw [Int64.toBitVec_and, BitVec.toNat_and, hm, Nat.and_two_pow_sub_one_eq_mod]
  show (BitVec.ofInt 64 a).toNat % 2 ^ 31 = (BitVec.ofInt 64 (a % 2147483648)).toNat
  rw [BitVec.toNat_ofInt, BitVec.toNat_ofInt]
  have e : ((2 ^ 64 : Nat) : Int) = 18446744073709551616 := rfl
  rw [e]
  omega
theorem drawn_of {h : AH} {x : Int} (h0 : 0 ≤ x) (h1 : x < 2147483648) : f8_drawn h (I x) = some (I (dr x)) := by
  simp (disch := omega) only [f8_drawn, I_toJ, J_lit, J_mul, J_add, J_and31, J_toI]
  rfl
theorem drawn9_of {h : AH} {x : Int} (h0 : 0 ≤ x) (h1 : x < 2147483648) : f9_drawn h (J x) = some (J (dr x)) := by
  simp (disch := omega) only [f9_drawn, J_lit, J_mul, J_add, J_eq, J_div, J_sub, if_neg, Option.bind_some, sub_ed]
  rfl
theorem I_shr16 {a : Int} (h : 0 ≤ a) (h' : a < 2147483648) : I a >>> (I 16 &&& I 31) = I (a / 65536) := by
  rw [I_shr h h' (by omega) (by omega)]
  rfl
theorem perMille_of {h : AH} {x : Int} (h0 : 0 ≤ x) (h1 : x < 2147483648) : f8_perMille h (I x) = some (I (x / 65536 % 1000)) := by
  simp (disch := omega) only [f8_perMille, Option.bind_some, I_lit, I_neg, I_add, I_sub, I_mul, I_lt, I_le, I_eq, if_pos, if_neg, if_true, if_false, decide_eq_true_eq, I_shr16, I_div, sub_ed]
/-! A MAKER of the class -/
def MK (h : AH) (a : Nat) (u : Nat → Int) (sr : Int → Int) : Prop := OB h a 0 [.int (I (u 0)), .int (I (u 1)), .int (I (u 2)), .ref (a + 1), .int (I (u 4))] ∧ AI h (a + 1) 0 12 sr
/-- what holds of a MAKER's numbers: pace, slips, stuffs, his SOURCES -/
def MI (u : Nat → Int) (sr : Int → Int) : Prop := (1 ≤ u 0 ∧ u 0 ≤ 99 ∧ 0 ≤ u 1 ∧ u 1 ≤ 1000 ∧ 0 ≤ u 2 ∧ u 2 ≤ 1023 ∧ 0 ≤ u 4 ∧ u 4 ≤ 12) ∧ ∀ k, 0 ≤ k → k < u 4 → 0 ≤ sr k ∧ sr k ≤ 5
def fsr (F : Int → Int) (n i : Int) : Int := fst (fun i => decide (F i ≠ -1)) F (n - i).toNat i
theorem fsr_rng {F : Int → Int} {n : Int} (hF : ∀ i, -1 ≤ F i ∧ F i ≤ 99) : -1 ≤ fsr F n 0 ∧ fsr F n 0 ≤ 99 := by
  unfold fsr
  rcases fst_cases (fun i => decide (F i ≠ -1)) F (n - 0).toNat 0 with ⟨e, -⟩ | ⟨j, -, -, -, -, e⟩
  · rw [e]; omega
  · rw [e]; exact hF j
theorem fsr_cong {F G : Int → Int} {n : Int} (hF : ∀ i, 0 ≤ i → i < n → F i = G i) : fsr F n 0 = fsr G n 0 := by
  unfold fsr
  exact fst_cong _ _ fun j j0 j1 => by
    have := hF j j0 (by omega)
    simp only [this]
    exact ⟨trivial, trivial⟩
/-- the PLACE that is no slip; that of a slip -/
def plN (r : Int → Int) (n : Int) (sr : Int → Int) (d : Int) : Int := if Tl r d = -1 then fsr (fun i => Fl r (sr i) d) n 0 else Tl r d
def plS (r : Int → Int) (n : Int) (sr : Int → Int) (d x : Int) : Int := if 0 < n then Fl r (sr (x / 65536 % n)) d else -1
def cwr (r : Int → Int) (n : Int) (sr : Int → Int) (d l : Int) : Bool := decide (Tl r d = l) || decide (0 < cn (fun i => decide (Fl r (sr i) d = l)) n.toNat 0)
def sbs (st hs : Int) : Bool := decide ((I st &&& (I hs ^^^ I (-1))) = I 0)
def cmk (r : Int → Int) (hs n : Int) (sr : Int → Int) (p : Int) : Bool := sbs (r (1330 + 10 * p + 6)) hs && decide (pq r p (fun d l => !(cwr r n sr d l)) = 0)
theorem pof_rng {h : AH} {p : Nat} {cap n : Int} {K Q : Int → Int} (P : PL h p cap n K Q) (key : Int) : -1 ≤ pof K Q n key ∧ pof K Q n key ≤ 99 := by
  unfold pof
  split
  · next g =>
    simp only [kh, decide_eq_true_eq] at g
    have := P.2.2.2.2.1 _ (P.ffs key).1 g.1
    omega
  · omega
section
variable {h h' : AH} {a w : Nat} {u : Nat → Int} {sr : Int → Int} {r : Int → Int} {c : Nat → Int → Int}
theorem MK.o (K : MK h a u sr) : hObj 0 h a = some [.int (I (u 0)), .int (I (u 1)), .int (I (u 2)), .ref (a + 1), .int (I (u 4))] := K.1.o
theorem MK.f0 (K : MK h a u sr) : fI 0 0 h a = some (I (u 0)) := K.1.i 0 rfl
theorem MK.f1 (K : MK h a u sr) : fI 0 1 h a = some (I (u 1)) := K.1.i 1 rfl
theorem MK.f2 (K : MK h a u sr) : fI 0 2 h a = some (I (u 2)) := K.1.i 2 rfl
theorem MK.f3 (K : MK h a u sr) : fR 0 3 h a = some (a + 1) := K.1.r 3 rfl
theorem MK.f4 (K : MK h a u sr) : fI 0 4 h a = some (I (u 4)) := K.1.i 4 rfl
theorem MK.fr (K : MK h a u sr) {lo hi : Nat} (f : Fr lo hi h h') (d : a + 2 ≤ lo ∨ hi ≤ a) : MK h' a u sr := ⟨K.1.at (f.2 _ (by omega)), K.2.at (f.2 _ (by omega))⟩
theorem MK.from (K : MK h a u sr) (X : MI u sr) (W : WD h w r c) {i d : Int} (i0 : 0 ≤ i) (i1 : i < u 4) (d0 : 0 ≤ d) (d1 : d ≤ 20000) : f0_placeFrom h a w (I i) (I d) = some (I (pof (c 3) (c 4) (r 3) (sr i * 10000 + d))) := by
  have b := X.1
  have x := X.2 i i0 i1
  simp (disch := omega) only [f0_placeFrom, K.o, K.f3, K.f4, K.2.n, K.2.g, W.f3, W.fa.placeOf, Option.bind_some, I_lit, I_neg, I_add, I_sub, I_mul, I_lt, I_le, I_eq, if_pos, if_neg, if_true, if_false, decide_eq_true_eq]
theorem MK.plL (K : MK h a u sr) (X : MI u sr) (W : WD h w r c) {d : Int} (d0 : 0 ≤ d) (d1 : d ≤ 20000) : ∀ (f : Nat) (l i : Int), 0 ≤ i → i ≤ u 4 → u 4 - i < f → -1 ≤ l → l ≤ 99 → f0_placeFor_45 h a w (I d) f (I l) (I i) = some (I (if l = -1 then fsr (fun i => pof (c 3) (c 4) (r 3) (sr i * 10000 + d)) (u 4) i else l)) := by
  intro f
  have b := X.1
  induction f with
  | zero => intro l i h0 h1; omega
  | succ f ih =>
    intro l i i0 i1 i2 l0 l1
    by_cases g : i < u 4
    · have t := pof_rng W.fa (sr i * 10000 + d)
      by_cases k : l = -1
      · have ih' := ih (pof (c 3) (c 4) (r 3) (sr i * 10000 + d)) (i + 1) (by omega) (by omega) (by omega) t.1 t.2
        subst k
        rw [if_pos rfl]
        unfold fsr at ih' ⊢
        rw [fst_suc _ _ g]
        simp (disch := omega) only [f0_placeFor_45, K.f4, K.from X W, Option.bind_some, I_lit, I_neg, I_add, I_sub, I_mul, I_lt, I_le, I_eq, if_pos, if_neg, if_true, if_false, decide_eq_true_eq, ih']
        by_cases z : pof (c 3) (c 4) (r 3) (sr i * 10000 + d) = -1
        · rw [if_pos z, if_neg (by simpa using z)]
        · rw [if_neg z, if_pos (by simpa using z)]
      · rw [if_neg k]
        simp (disch := omega) only [f0_placeFor_45, K.f4, Option.bind_some, I_lit, I_neg, I_add, I_sub, I_mul, I_lt, I_le, I_eq, if_pos, if_neg, if_true, if_false, decide_eq_true_eq]
    · unfold fsr
      rw [fst_end _ _ g]
      simp (disch := omega) only [f0_placeFor_45, K.f4, Option.bind_some, I_lit, I_neg, I_add, I_sub, I_mul, I_lt, I_le, I_eq, if_pos, if_neg, if_true, if_false, decide_eq_true_eq]
      congr 2
      split <;> omega
  done
theorem MK.place (K : MK h a u sr) (X : MI u sr) (W : WD h w r c) {d x : Int} (d0 : 0 ≤ d) (d1 : d ≤ 20000) (x0 : 0 ≤ x) (x1 : x < 2147483648) (sl : Bool) : ∃ l, f0_placeFor h a w (I d) sl (I x) = some (I l) ∧ -1 ≤ l ∧ l ≤ 99 ∧ (d ≤ 9999 → l = if sl = true then plS r (u 4) sr d x else plN r (u 4) sr d) := by
  have b := X.1
  have fu := FU_big
  cases sl
  · have t := Tl_rng W.ri d
    have L := K.plL X W d0 d1 FU (Tl r d) 0 (by omega) (by omega) (by omega) t.1 t.2
    refine ⟨if Tl r d = -1 then fsr (fun i => pof (c 3) (c 4) (r 3) (sr i * 10000 + d)) (u 4) 0 else Tl r d, ?_, ?_, ?_, ?_⟩
    · simp (disch := omega) only [f0_placeFor, K.o, W.f2, W.truth, Option.bind_some, I_lit, I_neg, I_add, I_sub, I_mul, I_lt, I_le, I_eq, if_pos, if_neg, if_true, if_false, decide_eq_true_eq, Bool.false_eq_true, L]
    · have := fsr_rng (F := fun i => pof (c 3) (c 4) (r 3) (sr i * 10000 + d)) (n := u 4) (fun i => pof_rng W.fa _)
      by_cases z : Tl r d = -1
      · rw [if_pos z]; exact this.1
      · rw [if_neg z]; exact t.1
    · have := fsr_rng (F := fun i => pof (c 3) (c 4) (r 3) (sr i * 10000 + d)) (n := u 4) (fun i => pof_rng W.fa _)
      by_cases z : Tl r d = -1
      · rw [if_pos z]; exact this.2
      · rw [if_neg z]; exact t.2
    · intro d2
      rw [if_neg Bool.false_ne_true]
      unfold plN
      have := fsr_cong (F := fun i => pof (c 3) (c 4) (r 3) (sr i * 10000 + d)) (G := fun i => Fl r (sr i) d) (n := u 4) (fun j j0 j1 => by
        have := X.2 j j0 j1
        exact W.cr.2.2.2.1 (sr j) d this.1 this.2 d0 d2)
      rw [this]
  · by_cases n : 0 < u 4
    · have m0 : 0 ≤ x / 65536 % u 4 := Int.emod_nonneg _ (by omega)
      have m1 : x / 65536 % u 4 < u 4 := Int.emod_lt_of_pos _ n
      have t := pof_rng W.fa (sr (x / 65536 % u 4) * 10000 + d)
      refine ⟨pof (c 3) (c 4) (r 3) (sr (x / 65536 % u 4) * 10000 + d), ?_, t.1, t.2, fun d2 => ?_⟩
      · simp (disch := omega) only [f0_placeFor, K.o, K.f4, Option.bind_some, I_lit, I_neg, I_add, I_sub, I_mul, I_lt, I_le, I_eq, if_pos, if_neg, if_true, if_false, decide_eq_true_eq, I_shr16, I_div, sub_ed, K.from X W]
      · rw [if_pos rfl]
        unfold plS
        have := X.2 _ m0 m1
        rw [if_pos n, W.cr.2.2.2.1 _ d this.1 this.2 d0 d2]
    · refine ⟨-1, ?_, by omega, by omega, fun _ => ?_⟩
      · simp (disch := omega) only [f0_placeFor, K.o, K.f4, Option.bind_some, I_lit, I_neg, I_add, I_sub, I_mul, I_lt, I_le, I_eq, if_pos, if_neg, if_true, if_false, decide_eq_true_eq]
      · rw [if_pos rfl]
        unfold plS
        rw [if_neg n]
theorem MK.cwL (K : MK h a u sr) (X : MI u sr) (W : WD h w r c) {d l : Int} (d0 : 0 ≤ d) (d1 : d ≤ 9999) (l0 : 0 ≤ l) (l1 : l ≤ 99) : ∀ (f : Nat) (i : Int), 0 ≤ i → i ≤ u 4 → u 4 - i < f → f0_canWrite_17 h a w (I d) (I l) f (I i) = some (decide (0 < cn (fun i => decide (Fl r (sr i) d = l)) (u 4 - i).toNat i)) := by
  intro f
  have b := X.1
  induction f with
  | zero => intro i h0 h1; omega
  | succ f ih =>
    intro i i0 i1 i2
    by_cases g : i < u 4
    · have x := X.2 i i0 g
      have t := Fl_rng W.ri (sr i) d
      have ih' := ih (i + 1) (by omega) (by omega) (by omega)
      have nn := cn_nn (fun i => decide (Fl r (sr i) d = l)) (u 4 - (i + 1)).toNat (i + 1)
      have e := K.from X W i0 g d0 (by omega)
      rw [W.cr.2.2.2.1 (sr i) d x.1 x.2 d0 d1] at e
      rw [cn_suc _ g]
      by_cases k : Fl r (sr i) d = l
      · rw [if_pos (decide_eq_true k), decide_eq_true (by omega)]
        simp (disch := omega) only [f0_canWrite_17, K.f4, e, Option.bind_some, I_lit, I_neg, I_add, I_sub, I_mul, I_lt, I_le, I_eq, if_pos, if_neg, if_true, if_false, decide_eq_true_eq, k]
      · rw [if_neg (by simpa using k), Int.zero_add]
        simp (disch := omega) only [f0_canWrite_17, K.f4, e, Option.bind_some, I_lit, I_neg, I_add, I_sub, I_mul, I_lt, I_le, I_eq, if_pos, if_neg, if_true, if_false, decide_eq_true_eq, ih']
    · rw [cn_end _ g]
      simp (disch := omega) only [f0_canWrite_17, K.f4, Option.bind_some, I_lit, I_neg, I_add, I_sub, I_mul, I_lt, I_le, I_eq, if_pos, if_neg, if_true, if_false, decide_eq_true_eq]
      rfl
  done
theorem MK.canWrite (K : MK h a u sr) (X : MI u sr) (W : WD h w r c) {d l : Int} (d0 : 0 ≤ d) (d1 : d ≤ 9999) (l0 : 0 ≤ l) (l1 : l ≤ 99) : f0_canWrite h a w (I d) (I l) = some (cwr r (u 4) sr d l) := by
  have b := X.1
  have fu := FU_big
  have t := Tl_rng W.ri d
  have L := K.cwL X W d0 d1 l0 l1 FU 0 (by omega) (by omega) (by omega)
  rw [Int.sub_zero] at L
  unfold cwr
  by_cases k : Tl r d = l
  · rw [decide_eq_true k, Bool.true_or]
    simp (disch := omega) only [f0_canWrite, K.o, W.f2, W.truth, Option.bind_some, I_lit, I_neg, I_add, I_sub, I_mul, I_lt, I_le, I_eq, if_pos, if_neg, if_true, if_false, decide_eq_true_eq, k]
  · rw [decide_eq_false k, Bool.false_or]
    simp (disch := omega) only [f0_canWrite, K.o, W.f2, W.truth, Option.bind_some, I_lit, I_neg, I_add, I_sub, I_mul, I_lt, I_le, I_eq, if_pos, if_neg, if_true, if_false, decide_eq_true_eq, L]
theorem MK.cmL (K : MK h a u sr) (X : MI u sr) (W : WD h w r c) {e : Int} (he : e ≤ r 5) : ∀ (f : Nat) (i : Int), 0 ≤ i → i ≤ e → e - i < f → f0_canMake_35 h a w (I e) f (I i) = some (decide (cn (fun i => !(cwr r (u 4) sr (c 6 i % 10000) (c 7 i))) (e - i).toNat i = 0)) := by
  intro f
  have b := W.ri.1
  induction f with
  | zero => intro i h0 h1; omega
  | succ f ih =>
    intro i i0 i1 i2
    by_cases g : i < e
    · have rg := W.pgr (i := i) i0 (by omega)
      have ih' := ih (i + 1) (by omega) (by omega) (by omega)
      have nn := cn_nn (fun i => !(cwr r (u 4) sr (c 6 i % 10000) (c 7 i))) (e - (i + 1)).toNat (i + 1)
      have cw := K.canWrite X W (d := c 6 i % 10000) (l := c 7 i) (by omega) (by omega) (by omega) (by omega)
      rw [cn_suc _ g]
      cases k : cwr r (u 4) sr (c 6 i % 10000) (c 7 i)
      · rw [k] at cw
        rw [if_pos (by rfl), decide_eq_false (by omega)]
        simp (disch := omega) only [f0_canMake_35, W.day, W.f5, W.pg.placeAt, cw, Option.bind_some, I_lit, I_neg, I_add, I_sub, I_mul, I_lt, I_le, I_eq, if_pos, if_neg, if_true, if_false, decide_eq_true_eq, Bool.false_eq_true]
      · rw [k] at cw
        rw [if_neg (by simp), Int.zero_add]
        simp (disch := omega) only [f0_canMake_35, W.day, W.f5, W.pg.placeAt, cw, Option.bind_some, I_lit, I_neg, I_add, I_sub, I_mul, I_lt, I_le, I_eq, if_pos, if_neg, if_true, if_false, decide_eq_true_eq, ih']
    · rw [cn_end _ g]
      simp (disch := omega) only [f0_canMake_35, Option.bind_some, I_lit, I_neg, I_add, I_sub, I_mul, I_lt, I_le, I_eq, if_pos, if_neg, if_true, if_false, decide_eq_true_eq]
      rfl
  done
theorem MK.canMake (K : MK h a u sr) (X : MI u sr) (W : WD h w r c) {p : Int} (p0 : 0 ≤ p) (p1 : p < r 4) : f0_canMake h a w (I p) = some (cmk r (u 2) (u 4) sr p) := by
  have b := W.ri.1
  have fu := FU_big
  have f := W.fpr p
  have L := K.cmL X W (e := fp r c (p + 1)) f.2.2 FU (fp r c p) (by omega) (by omega) (by omega)
  rw [W.count p fun d l => !(cwr r (u 4) sr d l)] at L
  unfold cmk sbs
  simp only [f0_canMake, K.o, W.f4, Option.bind_some, K.f2, I_lit, I_neg]
  rw [W.pAt p0 p1 (by omega) (by omega), Option.bind_some]
  by_cases k : (I (r (1330 + 10 * p + 6)) &&& (I (u 2) ^^^ I (-1))) = I 0
  · rw [if_pos k, decide_eq_true k, Bool.true_and, W.pEnd (by omega) (by omega), Option.bind_some, W.pFirst (by omega) (by omega), Option.bind_some, L]
    rfl
  · rw [if_neg k, decide_eq_false k, Bool.false_and]
end
