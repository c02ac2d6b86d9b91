/-! READERS of the class: CHANCE, a row of them -/
def RDx (h : AH) (a : Nat) (u : Nat → Int) (cd : Int → Int) : Prop := ∃ v sk, RD h a v cd sk ∧ ∀ j, j ≠ 5 → v j = u j
theorem RDx.fr {h h' : AH} {a : Nat} {u : Nat → Int} {cd : Int → Int} (D : RDx h a u cd) {lo hi : Nat} (f : Fr lo hi h h') (d : a + 3 ≤ lo ∨ hi ≤ a) : RDx h' a u cd := by
  obtain ⟨v, sk, D, e⟩ := D
  exact ⟨v, sk, D.fr f d, e⟩
/-- what a READER's text is, on both sides -/
def TXR (u : Nat → Int) (cd sg cl : Int → Int) (nc : Int) : Prop := TX cd (u 3) sg cl nc ∧ (∀ j, 0 ≤ j → j < u 3 → -2147483647 ≤ cd j ∧ cd j < 2147483648) ∧ 1 ≤ u 0 ∧ u 0 ≤ 99 ∧ 1 ≤ u 1 ∧ u 1 ≤ 999
def cvl (r : Int → Int) (p b : Int) (sg cl : Int → Int) (nc : Int) : Int := ctv (fun k => J (wd r p b k)) sg cl nc.toNat 0
theorem RDx.chance {h : AH} {a : Nat} {u : Nat → Int} {cd sg cl : Int → Int} {nc : Int} (D : RDx h a u cd) (T : TXR u cd sg cl nc) {r : Int → Int} (R : RI r) {p b : Int} (p0 : 0 ≤ p) (p1 : p < r 4) (b0 : 0 ≤ b) (b1 : b < r 4) {w : Nat} {ww : Int → Int} (hw : AI h w 0 10 ww) (ew : ∀ k, 0 ≤ k → k < 10 → ww k = wd r p b k) (dw : w + 1 ≤ a ∨ a + 3 ≤ w) : ∃ h', f3_chanceBy h a w = some (I (cvl r p b sg cl nc), h') ∧ RDx h' a u cd ∧ Fr a (a + 3) h h' := by
  obtain ⟨v, sk, D, e⟩ := D
  obtain ⟨h1, v1, sk1, e1, D1, V1, F1⟩ := D.chance hw (fun k k0 k1 => by rw [ew k k0 k1]; have := wd_rng R p0 p1 b0 b1 k; omega) dw (e 3 (by omega)) T.1 T.2.1
  refine ⟨h1, ?_, ⟨v1, sk1, D1, fun j hj => by rw [V1 j hj, e j hj]⟩, F1⟩
  rw [e1]
  unfold cvl
  rw [ctv_w (wv' := fun k => J (wd r p b k)) (fun k k0 k1 => by rw [ew k k0 k1])]
section
variable {h h' : AH} {x : Nat} {r : Int → Int} {c : Nat → Int → Int} {nr nm : Int}
theorem XO.chanceOf (O : XO h x nr nm) (W : WD h (x + 1) r c) {ww : Int → Int} (hw : AI h (x + 28) 0 10 ww) {a : Nat} {u : Nat → Int} {cd sg cl : Int → Int} {nc : Int} (D : RDx h a u cd) (T : TXR u cd sg cl nc) (a0 : x + 35 ≤ a) {p b : Int} (p0 : 0 ≤ p) (p1 : p < r 4) (b0 : 0 ≤ b) (b1 : b < r 4) : ∃ h1 h' w', f8_chanceOf h x a (I p) (I b) = some (I (cvl r p b sg cl nc), h') ∧ AI h' (x + 28) 0 10 w' ∧ RDx h' a u cd ∧ Fr (x + 28) (x + 29) h h1 ∧ Fr a (a + 3) h1 h' := by
  obtain ⟨h1, w1, e1, A1, E1, F1⟩ := W.fill hw (by omega) p0 p1 b0 b1
  have D1 := D.fr F1 (by omega)
  obtain ⟨h2, e2, D2, F2⟩ := D1.chance T W.ri p0 p1 b0 b1 A1 E1 (by omega)
  have O1 := O.fr F1 (by omega)
  refine ⟨h1, h2, w1, ?_, A1.at (F2.2 _ (by omega)), D2, F1, F2⟩
  rw [f8_chanceOf, O.o, Option.bind_some, O.f0, Option.bind_some, O.f8, Option.bind_some, e1, Option.bind_some, O1.f8, Option.bind_some, e2, Option.bind_some]
theorem XO.readerAt (O : XO h x nr nm) (A : AQ h (x + 26) 5 8 (fun k => some (x + 35 + 3 * k.toNat))) (n0 : 0 ≤ nr) (n1 : nr ≤ 8) {rd : Int} (m0 : -2147483648 ≤ rd) (m1 : rd < 2147483648) : f8_readerAt h x (I rd) = some (if 0 ≤ rd ∧ rd < nr then some (x + 35 + 3 * rd.toNat) else none) := by
  simp (disch := omega) only [f8_readerAt, O.o, O.f5, O.f4, A.n, isFrom_of, Option.bind_some, I_lit, I_neg, I_add, I_sub, I_mul, I_lt, I_le, I_eq, if_pos, if_neg, if_true, if_false, decide_eq_true_eq]
  by_cases z : 0 ≤ rd ∧ rd < nr
  · rw [if_pos z, if_pos (by omega), A.g z.1 (by omega), Option.bind_some]
  · rw [if_neg z, if_neg (by omega)]
end
/-! the row -/
def RO (h : AH) (a : Nat) (sz : Int) (nn ch tk co : Int → Int) (wl : Int → Int64) : Prop := OB h a 4 [.ref (a + 1), .ref (a + 2), .ref (a + 3), .ref (a + 4), .int (I sz), .ref (a + 5)] ∧ AI h (a + 1) 0 6 nn ∧ AI h (a + 2) 0 6 ch ∧ AI h (a + 3) 0 6 tk ∧ AI h (a + 4) 0 6 co ∧ AL h (a + 5) 64 wl
section
variable {h h' : AH} {a : Nat} {sz : Int} {nn ch tk co : Int → Int} {wl : Int → Int64}
theorem RO.o (P : RO h a sz nn ch tk co wl) : hObj 4 h a = some [.ref (a + 1), .ref (a + 2), .ref (a + 3), .ref (a + 4), .int (I sz), .ref (a + 5)] := P.1.o
theorem RO.f0 (P : RO h a sz nn ch tk co wl) : fR 4 0 h a = some (a + 1) := P.1.r 0 rfl
theorem RO.f1 (P : RO h a sz nn ch tk co wl) : fR 4 1 h a = some (a + 2) := P.1.r 1 rfl
theorem RO.f2 (P : RO h a sz nn ch tk co wl) : fR 4 2 h a = some (a + 3) := P.1.r 2 rfl
theorem RO.f3 (P : RO h a sz nn ch tk co wl) : fR 4 3 h a = some (a + 4) := P.1.r 3 rfl
theorem RO.f4 (P : RO h a sz nn ch tk co wl) : fI 4 4 h a = some (I sz) := P.1.i 4 rfl
theorem RO.f5 (P : RO h a sz nn ch tk co wl) : fR 4 5 h a = some (a + 5) := P.1.r 5 rfl
theorem RO.fr (P : RO h a sz nn ch tk co wl) {lo hi : Nat} (f : Fr lo hi h h') (d : a + 6 ≤ lo ∨ hi ≤ a) : RO h' a sz nn ch tk co wl := ⟨P.1.at (f.2 _ (by omega)), P.2.1.at (f.2 _ (by omega)), P.2.2.1.at (f.2 _ (by omega)), P.2.2.2.1.at (f.2 _ (by omega)), P.2.2.2.2.1.at (f.2 _ (by omega)), P.2.2.2.2.2.at (f.2 _ (by omega))⟩
theorem RO.size (P : RO h a sz nn ch tk co wl) (s : Int) : ∃ h', fS 4 4 h a (.int (I s)) = some h' ∧ RO h' a s nn ch tk co wl ∧ Fr a (a + 6) h h' := by
  obtain ⟨h1, e1, O1, F1⟩ := P.1.set 4 (.int (I s)) (by simp)
  exact ⟨h1, e1, ⟨O1, P.2.1.at (F1.2 _ (by omega)), P.2.2.1.at (F1.2 _ (by omega)), P.2.2.2.1.at (F1.2 _ (by omega)), P.2.2.2.2.1.at (F1.2 _ (by omega)), P.2.2.2.2.2.at (F1.2 _ (by omega))⟩, F1.mono (by omega) (by omega)⟩
theorem RO.clear (P : RO h a sz nn ch tk co wl) : ∃ h', f4_clear h a = some h' ∧ RO h' a 0 nn ch tk co wl ∧ Fr a (a + 6) h h' := by
  obtain ⟨h1, e1, P1, F1⟩ := P.size 0
  refine ⟨h1, ?_, P1, F1⟩
  rw [f4_clear, P.o, Option.bind_some, I_0, e1, Option.bind_some]
theorem RO.add (P : RO h a sz nn ch tk co wl) (s0 : 0 ≤ sz) (s1 : sz < 6) (n q w y : Int) : ∃ h', f4_add h a (I n) (I q) (I w) (I y) = some h' ∧ RO h' a (sz + 1) (up nn sz n) (up ch sz q) (up tk sz w) (up co sz y) wl ∧ Fr a (a + 6) h h' := by
  obtain ⟨h1, e1, A1, F1⟩ := P.2.1.set (i := sz) (v := n) s0 s1
  have P1 : RO h1 a sz (up nn sz n) ch tk co wl := ⟨P.1.at (F1.2 _ (by omega)), A1, P.2.2.1.at (F1.2 _ (by omega)), P.2.2.2.1.at (F1.2 _ (by omega)), P.2.2.2.2.1.at (F1.2 _ (by omega)), P.2.2.2.2.2.at (F1.2 _ (by omega))⟩
  obtain ⟨h2, e2, A2, F2⟩ := P1.2.2.1.set (i := sz) (v := q) s0 s1
  have P2 : RO h2 a sz (up nn sz n) (up ch sz q) tk co wl := ⟨P1.1.at (F2.2 _ (by omega)), P1.2.1.at (F2.2 _ (by omega)), A2, P1.2.2.2.1.at (F2.2 _ (by omega)), P1.2.2.2.2.1.at (F2.2 _ (by omega)), P1.2.2.2.2.2.at (F2.2 _ (by omega))⟩
  obtain ⟨h3, e3, A3, F3⟩ := P2.2.2.2.1.set (i := sz) (v := w) s0 s1
  have P3 : RO h3 a sz (up nn sz n) (up ch sz q) (up tk sz w) co wl := ⟨P2.1.at (F3.2 _ (by omega)), P2.2.1.at (F3.2 _ (by omega)), P2.2.2.1.at (F3.2 _ (by omega)), A3, P2.2.2.2.2.1.at (F3.2 _ (by omega)), P2.2.2.2.2.2.at (F3.2 _ (by omega))⟩
  obtain ⟨h4, e4, A4, F4⟩ := P3.2.2.2.2.1.set (i := sz) (v := y) s0 s1
  have P4 : RO h4 a sz (up nn sz n) (up ch sz q) (up tk sz w) (up co sz y) wl := ⟨P3.1.at (F4.2 _ (by omega)), P3.2.1.at (F4.2 _ (by omega)), P3.2.2.1.at (F4.2 _ (by omega)), P3.2.2.2.1.at (F4.2 _ (by omega)), A4, P3.2.2.2.2.2.at (F4.2 _ (by omega))⟩
  obtain ⟨h5, e5, P5, F5⟩ := P4.size (sz + 1)
  refine ⟨h5, ?_, P5, ((((F1.mono (by omega) (by omega)).trans (F2.mono (by omega) (by omega))).trans (F3.mono (by omega) (by omega))).trans (F4.mono (by omega) (by omega))).trans F5⟩
  simp (disch := omega) only [f4_add, P.o, P.f4, P.f0, e1, P1.f1, P1.f4, e2, P2.f2, P2.f4, e3, P3.f3, P3.f4, e4, P4.f4, e5, Option.bind_some, I_lit, I_neg, I_add, I_sub, I_mul, I_lt, I_le, I_eq, if_pos, if_neg, if_true, if_false, decide_eq_true_eq]
/-- that all of a part say yes, in thousandths; what they cost -/
def pA (ch : Int → Int) (q : Int) : Nat → Int → Int
  | 0, _ => 1
  | k + 1, i => (if bi q i = 1 then ch i else 1000) * pA ch q k (i + 1)
def pC (co : Int → Int) (q : Int) : Nat → Int → Int
  | 0, _ => 0
  | k + 1, i => (if bi q i = 1 then co i else 0) + pC co q k (i + 1)
theorem pA_rng {ch : Int → Int} {N : Int} (hc : ∀ i, 0 ≤ i → i < N → 0 ≤ ch i ∧ ch i ≤ 1000) (q : Int) : ∀ (k : Nat) (i : Int), 0 ≤ i → i + k ≤ N → 0 ≤ pA ch q k i ∧ pA ch q k i ≤ 1000 ^ k := by
  intro k
  induction k with
  | zero => intro i _ _; simp [pA]
  | succ k ih =>
    intro i i0 i1
    have a := ih (i + 1) (by omega) (by omega)
    have b := hc i i0 (by omega)
    simp only [pA]
    have p : (0 : Int) ≤ 1000 ^ k := Int.le_of_lt (Int.pow_pos (by omega))
    have f : ∀ z : Int, 0 ≤ z → z ≤ 1000 → 0 ≤ z * pA ch q k (i + 1) ∧ z * pA ch q k (i + 1) ≤ 1000 ^ (k + 1) := fun z z0 z1 => by
      refine ⟨Int.mul_nonneg z0 a.1, ?_⟩
      rw [Int.pow_succ']
      exact Int.mul_le_mul z1 a.2 a.1 (by omega)
    split
    · exact f _ b.1 b.2
    · exact f _ (by omega) (by omega)
theorem RO.allL (P : RO h a sz nn ch tk co wl) (hc : ∀ i, 0 ≤ i → i < sz → 0 ≤ ch i ∧ ch i ≤ 1000) (s0 : 0 ≤ sz) (s1 : sz ≤ 6) {q : Int} (q0 : 0 ≤ q) (q1 : q < 64) : ∀ (f : Nat) (v i : Int), 0 ≤ i → i ≤ sz → sz - i < f → f4_chanceOfAll_5 h a (I q) f (J v) (I i) = some (J (v * pA ch q (sz - i).toNat i)) := by
  intro f
  induction f with
  | zero => intro v i h0 h1; omega
  | succ f ih =>
    intro v i i0 i1 i2
    by_cases g : i < sz
    · have c := hc i i0 g
      have e : (sz - i).toNat = (sz - (i + 1)).toNat + 1 := by omega
      rw [e]
      simp only [pA]
      by_cases z : bi q i = 1
      · have ih' := ih (v * ch i) (i + 1) (by omega) (by omega) (by omega)
        rw [if_pos z, ← Int.mul_assoc]
        simp (disch := omega) only [f4_chanceOfAll_5, P.f4, hasBit_of, z, P.f1, P.2.2.1.g, Option.bind_some, I_lit, I_neg, I_add, I_sub, I_mul, I_lt, I_le, I_eq, if_pos, if_neg, if_true, if_false, decide_eq_true_eq, J_lit, J_neg, J_add, J_sub, J_mul, J_lt, J_le, J_eq, I_toJ, in_of, ih']
      · have ih' := ih (v * 1000) (i + 1) (by omega) (by omega) (by omega)
        rw [if_neg z, ← Int.mul_assoc]
        simp (disch := omega) only [f4_chanceOfAll_5, P.f4, hasBit_of, Option.bind_some, I_lit, I_neg, I_add, I_sub, I_mul, I_lt, I_le, I_eq, if_pos, if_neg, if_true, if_false, decide_eq_true_eq, J_lit, J_neg, J_add, J_sub, J_mul, J_lt, J_le, J_eq, I_toJ, in_of, ih']
    · have e : (sz - i).toNat = 0 := by omega
      rw [e]
      simp (disch := omega) only [f4_chanceOfAll_5, P.f4, pA, Int.mul_one, Option.bind_some, I_lit, I_neg, I_add, I_sub, I_mul, I_lt, I_le, I_eq, if_pos, if_neg, if_true, if_false, decide_eq_true_eq]
  done
theorem RO.coL (P : RO h a sz nn ch tk co wl) (s0 : 0 ≤ sz) (s1 : sz ≤ 6) {q : Int} (q0 : 0 ≤ q) (q1 : q < 64) : ∀ (f : Nat) (v i : Int), 0 ≤ i → i ≤ sz → sz - i < f → f4_coinsOf_4 h a (I q) f (I v) (I i) = some (I (v + pC co q (sz - i).toNat i)) := by
  intro f
  induction f with
  | zero => intro v i h0 h1; omega
  | succ f ih =>
    intro v i i0 i1 i2
    by_cases g : i < sz
    · have e : (sz - i).toNat = (sz - (i + 1)).toNat + 1 := by omega
      rw [e]
      simp only [pC]
      by_cases z : bi q i = 1
      · have ih' := ih (v + co i) (i + 1) (by omega) (by omega) (by omega)
        rw [if_pos z, ← Int.add_assoc]
        simp (disch := omega) only [f4_coinsOf_4, P.f4, hasBit_of, z, P.f3, P.2.2.2.2.1.g, Option.bind_some, I_lit, I_neg, I_add, I_sub, I_mul, I_lt, I_le, I_eq, if_pos, if_neg, if_true, if_false, decide_eq_true_eq, ih']
      · have ih' := ih (v + 0) (i + 1) (by omega) (by omega) (by omega)
        rw [if_neg z, ← Int.add_assoc]
        simp (disch := omega) only [f4_coinsOf_4, P.f4, hasBit_of, Option.bind_some, I_lit, I_neg, I_add, I_sub, I_mul, I_lt, I_le, I_eq, if_pos, if_neg, if_true, if_false, decide_eq_true_eq, ih']
    · have e : (sz - i).toNat = 0 := by omega
      rw [e]
      simp (disch := omega) only [f4_coinsOf_4, P.f4, pC, Int.add_zero, Option.bind_some, I_lit, I_neg, I_add, I_sub, I_mul, I_lt, I_le, I_eq, if_pos, if_neg, if_true, if_false, decide_eq_true_eq]
  done
theorem RO.all (P : RO h a sz nn ch tk co wl) (hc : ∀ i, 0 ≤ i → i < sz → 0 ≤ ch i ∧ ch i ≤ 1000) (s0 : 0 ≤ sz) (s1 : sz ≤ 6) {q : Int} (q0 : 0 ≤ q) (q1 : q < 64) : f4_chanceOfAll h a (I q) = some (J (pA ch q sz.toNat 0)) := by
  have fu := FU_big
  have L := P.allL hc s0 s1 q0 q1 FU 1 0 (by omega) s0 (by omega)
  rw [Int.sub_zero, Int.one_mul] at L
  rw [f4_chanceOfAll, P.o, Option.bind_some, Option.bind_some, J_lit, I_0]
  exact L
theorem RO.coins (P : RO h a sz nn ch tk co wl) (s0 : 0 ≤ sz) (s1 : sz ≤ 6) {q : Int} (q0 : 0 ≤ q) (q1 : q < 64) : f4_coinsOf h a (I q) = some (I (pC co q sz.toNat 0)) := by
  have fu := FU_big
  have L := P.coL s0 s1 q0 q1 FU 0 0 (by omega) s0 (by omega)
  rw [Int.sub_zero, Int.zero_add] at L
  rw [f4_coinsOf, P.o, Option.bind_some, I_0]
  exact L
end
