/-! the READERS of a set, in the row; SUREST -/
def Lst (q : Int) : Nat → List Int
  | 0 => []
  | k + 1 => Lst q k ++ (if bi q k = 1 then [(k : Int)] else [])
theorem Lst_len (q : Int) : ∀ (a b : Nat), (Lst q a).length ≤ (Lst q (a + b)).length := by
  intro a b
  induction b with
  | zero => exact Nat.le_refl _
  | succ b ih =>
    rw [show a + (b + 1) = a + b + 1 by omega, Lst, List.length_append]
    omega
theorem Lst_cn (q : Int) : ∀ k : Nat, ((Lst q k).length : Int) = cn (fun i => decide (bi q i = 1)) k 0 := by
  intro k
  induction k with
  | zero => rfl
  | succ k ih =>
    rw [Lst, List.length_append, cn_last, show (0 : Int) + (k : Nat) = (k : Int) by omega, ← ih]
    by_cases z : bi q k = 1
    · rw [if_pos z, if_pos (decide_eq_true z)]; simp
    · rw [if_neg z, if_neg (by simpa using z)]; simp
/-- the row holds the READERS of L: chance cf, weeks tf, coins of_ of each -/
def RLs (L : List Int) (cf tf cof : Int → Int) (sz : Int) (nn ch tk co : Int → Int) : Prop := sz = L.length ∧ ∀ j, 0 ≤ j → j < sz → nn j = L.getD j.toNat 0 ∧ ch j = cf (L.getD j.toNat 0) ∧ tk j = tf (L.getD j.toNat 0) ∧ co j = cof (L.getD j.toNat 0)
theorem RLs.add {L : List Int} {cf tf cof : Int → Int} {sz : Int} {nn ch tk co : Int → Int} (s : RLs L cf tf cof sz nn ch tk co) (k : Int) : RLs (L ++ [k]) cf tf cof (sz + 1) (up nn sz k) (up ch sz (cf k)) (up tk sz (tf k)) (up co sz (cof k)) := by
  obtain ⟨e, s⟩ := s
  refine ⟨by rw [List.length_append, List.length_singleton, e]; rfl, fun j j0 j1 => ?_⟩
  by_cases z : j = sz
  · rw [z, up_eq, up_eq, up_eq, up_eq, e]
    have : (L ++ [k]).getD ((L.length : Int).toNat) 0 = k := by
      rw [Int.toNat_natCast, List.getD_eq_getElem?_getD, List.getElem?_append_right (Nat.le_refl _)]
      simp
    rw [this]
    exact ⟨rfl, rfl, rfl, rfl⟩
  · rw [up_ne z, up_ne z, up_ne z, up_ne z]
    have := s j j0 (by omega)
    have e2 : (L ++ [k]).getD j.toNat 0 = L.getD j.toNat 0 := by
      rw [List.getD_eq_getElem?_getD, List.getD_eq_getElem?_getD, List.getElem?_append_left (by omega)]
    rw [e2]
    exact this
section
variable {x : Nat} {r : Int → Int} {c : Nat → Int → Int} {nr nm : Int} {ru : Int → Nat → Int} {rc sg cl : Int → Int → Int} {nc : Int → Int}
theorem XO.rowL {ww : Int → Int} {p b : Int} (R : RI r) (p0 : 0 ≤ p) (p1 : p < r 4) (b0 : 0 ≤ b) (b1 : b < r 4) (n0 : 0 ≤ nr) (n1 : nr ≤ 8) (hT : ∀ k, 0 ≤ k → k < nr → TXR (ru k) (rc k) (sg k) (cl k) (nc k)) (ew : ∀ k, 0 ≤ k → k < 10 → ww k = wd r p b k) {q : Int} (q0 : 0 ≤ q) (q1 : q < 256) (hq : (Lst q nr.toNat).length ≤ 6) : ∀ (f : Nat) (h : AH) (sz : Int) (nn ch tk co : Int → Int) (wl : Int → Int64) (i : Int), XO h x nr nm → AQ h (x + 26) 5 8 (fun k => some (x + 35 + 3 * k.toNat)) → AI h (x + 28) 0 10 ww → (∀ k, 0 ≤ k → k < 8 → RDx h (x + 35 + 3 * k.toNat) (ru k) (rc k)) → RO h (x + 29) sz nn ch tk co wl → RLs (Lst q i.toNat) (fun k => cvl r p b (sg k) (cl k) (nc k)) (fun k => ru k 0) (fun k => ru k 1) sz nn ch tk co → 0 ≤ i → i ≤ nr → nr - i < f → ∃ h' sz' nn' ch' tk' co', f8_fillRow_23 x (I q) f h (I i) = some h' ∧ AI h' (x + 28) 0 10 ww ∧ (∀ k, 0 ≤ k → k < 8 → RDx h' (x + 35 + 3 * k.toNat) (ru k) (rc k)) ∧ RO h' (x + 29) sz' nn' ch' tk' co' wl ∧ RLs (Lst q nr.toNat) (fun k => cvl r p b (sg k) (cl k) (nc k)) (fun k => ru k 0) (fun k => ru k 1) sz' nn' ch' tk' co' ∧ Fr (x + 29) (x + 59) h h' := by
  intro f
  induction f with
  | zero => intro h sz nn ch tk co wl i O A hw F P L h0 h1; omega
  | succ f ih =>
    intro h sz nn ch tk co wl i O A hw F P L i0 i1 i2
    by_cases g : i < nr
    · have e1 : (i + 1).toNat = i.toNat + 1 := by omega
      have ei : ((i.toNat : Nat) : Int) = i := by omega
      have ag := A.g i0 (by omega)
      by_cases z : bi q i = 1
      · have eL : Lst q (i + 1).toNat = Lst q i.toNat ++ [i] := by rw [e1, Lst, ei, if_pos z]
        obtain ⟨h1, ee1, D1, F1⟩ := (F i i0 (by omega)).chance (hT i i0 g) R p0 p1 b0 b1 hw ew (by omega)
        have P1 := P.fr F1 (by omega)
        have ls := Lst_len q (i + 1).toNat (nr - (i + 1)).toNat
        rw [show (i + 1).toNat + (nr - (i + 1)).toNat = nr.toNat by omega, eL, List.length_append, List.length_singleton] at ls
        have sz6 : 0 ≤ sz ∧ sz < 6 := by rw [L.1]; omega
        obtain ⟨h2, ee2, P2, F2⟩ := P1.add sz6.1 sz6.2 i (cvl r p b (sg i) (cl i) (nc i)) (ru i 0) (ru i 1)
        have L2 := L.add i
        rw [← eL] at L2
        have F12 : Fr (x + 29) (x + 59) h h2 := (F1.mono (by omega) (by omega)).trans (F2.mono (by omega) (by omega))
        obtain ⟨h3, sz3, nn3, ch3, tk3, co3, e3, W3, R3, P3, L3, F3⟩ := ih h2 _ _ _ _ _ wl (i + 1) (O.fr F12 (by omega)) (A.at (F12.2 _ (by omega))) (hw.at (F12.2 _ (by omega))) (fun k k0 k1 => by
          by_cases ck : k = i
          · subst ck; exact D1.fr F2 (by omega)
          · exact ((F k k0 k1).fr F1 (by omega)).fr F2 (by omega)) P2 L2 (by omega) (by omega) (by omega)
        refine ⟨h3, sz3, nn3, ch3, tk3, co3, ?_, W3, R3, P3, L3, F12.trans F3⟩
        obtain ⟨v1, sk1, E1, V1⟩ := D1
        have t0 : fI 3 0 h1 (x + 35 + 3 * i.toNat) = some (I (ru i 0)) := by rw [E1.f0, V1 0 (by omega)]
        have t1 : fI 3 1 h1 (x + 35 + 3 * i.toNat) = some (I (ru i 1)) := by rw [E1.f1, V1 1 (by omega)]
        rw [← e3]
        simp (disch := omega) only [f8_fillRow_23, O.f5, O.f4, A.n, ag, hasBit_of, z, oM, O.f9, O.f8, ee1, t0, t1, ee2, Option.bind_some, I_lit, I_neg, I_add, I_sub, I_mul, I_lt, I_le, I_eq, if_pos, if_neg, if_true, if_false, decide_eq_true_eq]
      · have eL : Lst q (i + 1).toNat = Lst q i.toNat := by rw [e1, Lst, ei, if_neg z, List.append_nil]
        obtain ⟨h3, sz3, nn3, ch3, tk3, co3, e3, W3, R3, P3, L3, F3⟩ := ih h sz nn ch tk co wl (i + 1) O A hw F P (by rw [eL]; exact L) (by omega) (by omega) (by omega)
        refine ⟨h3, sz3, nn3, ch3, tk3, co3, ?_, W3, R3, P3, L3, F3⟩
        rw [← e3]
        simp (disch := omega) only [f8_fillRow_23, O.f5, O.f4, A.n, ag, hasBit_of, Option.bind_some, I_lit, I_neg, I_add, I_sub, I_mul, I_lt, I_le, I_eq, if_pos, if_neg, if_true, if_false, decide_eq_true_eq]
    · have ei : i = nr := by omega
      subst ei
      refine ⟨h, sz, nn, ch, tk, co, ?_, hw, F, P, L, Fr.refl _ _ _⟩
      simp (disch := omega) only [f8_fillRow_23, O.f5, Option.bind_some, I_lit, I_neg, I_add, I_sub, I_mul, I_lt, I_le, I_eq, if_pos, if_neg, if_true, if_false, decide_eq_true_eq]
  done
end
/-- the set chosen: of all parts that the purse pays -/
def bsS (ch co : Int → Int) (n : Nat) (purse : Int) (m : Nat) (i b : Int) : Int := fo (fun q b => if pC co q n 0 ≤ purse ∧ (pA ch q n 0 < pA ch b n 0 ∨ pA ch q n 0 = pA ch b n 0 ∧ pC co q n 0 < pC co b n 0) then q else b) m i b
theorem pC_rng {co : Int → Int} {N : Int} (hc : ∀ i, 0 ≤ i → i < N → 0 ≤ co i ∧ co i ≤ 999) (q : Int) : ∀ (k : Nat) (i : Int), 0 ≤ i → i + k ≤ N → 0 ≤ pC co q k i ∧ pC co q k i ≤ 999 * k := by
  intro k
  induction k with
  | zero => intro i _ _; simp [pC]
  | succ k ih =>
    intro i i0 i1
    have a := ih (i + 1) (by omega) (by omega)
    have b := hc i i0 (by omega)
    simp only [pC]
    split <;> omega
theorem p1000 {k : Nat} (h : k ≤ 6) : (1000 : Int) ^ k ≤ 1000000000000000000 := by
  have : (1000 : Nat) ^ k ≤ 1000 ^ 6 := Nat.pow_le_pow_right (by omega) h
  have e : ((1000 ^ k : Nat) : Int) = 1000 ^ k := by rw [Int.natCast_pow]; rfl
  omega
section
variable {h h' : AH} {a : Nat} {sz : Int} {nn ch tk co : Int → Int} {wl : Int → Int64}
theorem p2sz {sz : Int} (s0 : 0 ≤ sz) (s1 : sz ≤ 6) : 1 ≤ (2 : Int) ^ sz.toNat ∧ (2 : Int) ^ sz.toNat ≤ 64 := by
  have e : (2 : Nat) ^ sz.toNat ≤ 2 ^ 6 := Nat.pow_le_pow_right (by omega) (by omega)
  have e1 : 0 < (2 : Nat) ^ sz.toNat := Nat.pow_pos (by omega)
  have e2 : ((2 ^ sz.toNat : Nat) : Int) = 2 ^ sz.toNat := by rw [Int.natCast_pow]; rfl
  omega
theorem RO.suL (P : RO h a sz nn ch tk co wl) (hc : ∀ i, 0 ≤ i → i < sz → 0 ≤ ch i ∧ ch i ≤ 1000) (ho : ∀ i, 0 ≤ i → i < sz → 0 ≤ co i ∧ co i ≤ 999) (s0 : 0 ≤ sz) (s1 : sz ≤ 6) {purse : Int} (u0 : 0 ≤ purse) (u1 : purse ≤ 9999) : ∀ (f : Nat) (b i : Int), 1 ≤ i → i ≤ 2 ^ sz.toNat → 2 ^ sz.toNat - i < f → 0 ≤ b → b < i → f4_surestFor_11 h a (I purse) f (I b) (J (pA ch b sz.toNat 0)) (I i) = some (I (bsS ch co sz.toNat purse ((2 : Int) ^ sz.toNat - i).toNat i b)) := by
  have pz := p2sz s0 s1
  intro f
  induction f with
  | zero => intro b i h0 h1; omega
  | succ f ih =>
    intro b i i0 i1 i2 b0 b1
    unfold bsS
    by_cases g : i < 2 ^ sz.toNat
    · have c1 := P.coins s0 s1 (q := i) (by omega) (by omega)
      have c2 := P.coins s0 s1 (q := b) (by omega) (by omega)
      have a1 := P.all hc s0 s1 (q := i) (by omega) (by omega)
      have r1 := pA_rng hc i sz.toNat 0 (by omega) (by omega)
      have r2 := pA_rng hc b sz.toNat 0 (by omega) (by omega)
      have r3 := pC_rng ho i sz.toNat 0 (by omega) (by omega)
      have r4 := pC_rng ho b sz.toNat 0 (by omega) (by omega)
      have pp := p1000 (k := sz.toNat) (by omega)
      have ih1 := ih i (i + 1) (by omega) (by omega) (by omega) (by omega) (by omega)
      have ih2 := ih b (i + 1) (by omega) (by omega) (by omega) b0 (by omega)
      unfold bsS at ih1 ih2
      rw [fo_suc _ g]
      generalize pA ch i sz.toNat 0 = A1 at *
      generalize pA ch b sz.toNat 0 = A2 at *
      generalize pC co i sz.toNat 0 = C1 at *
      generalize pC co b sz.toNat 0 = C2 at *
      by_cases q1 : C1 ≤ purse
      · by_cases q2 : A1 < A2
        · rw [if_pos ⟨q1, .inl q2⟩]
          simp (disch := omega) only [f4_surestFor_11, f4_surestFor_67, P.f4, I_shl1, c1, a1, Option.bind_some, I_lit, I_neg, I_add, I_sub, I_mul, I_lt, I_le, I_eq, if_pos, if_neg, if_true, if_false, decide_eq_true_eq, J_lit, J_neg, J_add, J_sub, J_mul, J_lt, J_le, J_eq, I_toJ, in_of, ih1]
        · by_cases q3 : A1 = A2
          · by_cases q4 : C1 < C2
            · rw [if_pos ⟨q1, .inr ⟨q3, q4⟩⟩]
              simp (disch := omega) only [f4_surestFor_11, f4_surestFor_67, P.f4, I_shl1, c1, c2, a1, Option.bind_some, I_lit, I_neg, I_add, I_sub, I_mul, I_lt, I_le, I_eq, if_pos, if_neg, if_true, if_false, decide_eq_true_eq, J_lit, J_neg, J_add, J_sub, J_mul, J_lt, J_le, J_eq, I_toJ, in_of, ih1]
            · rw [if_neg (by omega)]
              simp (disch := omega) only [f4_surestFor_11, f4_surestFor_67, P.f4, I_shl1, c1, c2, a1, Option.bind_some, I_lit, I_neg, I_add, I_sub, I_mul, I_lt, I_le, I_eq, if_pos, if_neg, if_true, if_false, decide_eq_true_eq, J_lit, J_neg, J_add, J_sub, J_mul, J_lt, J_le, J_eq, I_toJ, in_of, ih2, Bool.false_eq_true]
          · rw [if_neg (by omega)]
            simp (disch := omega) only [f4_surestFor_11, f4_surestFor_67, P.f4, I_shl1, c1, a1, Option.bind_some, I_lit, I_neg, I_add, I_sub, I_mul, I_lt, I_le, I_eq, if_pos, if_neg, if_true, if_false, decide_eq_true_eq, J_lit, J_neg, J_add, J_sub, J_mul, J_lt, J_le, J_eq, I_toJ, in_of, ih2, Bool.false_eq_true]
      · rw [if_neg (by omega)]
        by_cases q2 : A1 < A2
        · simp (disch := omega) only [f4_surestFor_11, f4_surestFor_67, P.f4, I_shl1, c1, a1, Option.bind_some, I_lit, I_neg, I_add, I_sub, I_mul, I_lt, I_le, I_eq, if_pos, if_neg, if_true, if_false, decide_eq_true_eq, J_lit, J_neg, J_add, J_sub, J_mul, J_lt, J_le, J_eq, I_toJ, in_of, ih2]
        · by_cases q3 : A1 = A2
          · by_cases q4 : C2 ≤ C1
            · simp (disch := omega) only [f4_surestFor_11, f4_surestFor_67, P.f4, I_shl1, c1, c2, a1, Option.bind_some, I_lit, I_neg, I_add, I_sub, I_mul, I_lt, I_le, I_eq, if_pos, if_neg, if_true, if_false, decide_eq_true_eq, J_lit, J_neg, J_add, J_sub, J_mul, J_lt, J_le, J_eq, I_toJ, in_of, ih2]
            · simp (disch := omega) only [f4_surestFor_11, f4_surestFor_67, P.f4, I_shl1, c1, c2, a1, Option.bind_some, I_lit, I_neg, I_add, I_sub, I_mul, I_lt, I_le, I_eq, if_pos, if_neg, if_true, if_false, decide_eq_true_eq, J_lit, J_neg, J_add, J_sub, J_mul, J_lt, J_le, J_eq, I_toJ, in_of, ih2]
          · simp (disch := omega) only [f4_surestFor_11, f4_surestFor_67, P.f4, I_shl1, c1, a1, Option.bind_some, I_lit, I_neg, I_add, I_sub, I_mul, I_lt, I_le, I_eq, if_pos, if_neg, if_true, if_false, decide_eq_true_eq, J_lit, J_neg, J_add, J_sub, J_mul, J_lt, J_le, J_eq, I_toJ, in_of, ih2]
    · rw [fo_end _ g]
      simp (disch := omega) only [f4_surestFor_11, P.f4, I_shl1, Option.bind_some, I_lit, I_neg, I_add, I_sub, I_mul, I_lt, I_le, I_eq, if_pos, if_neg, if_true, if_false, decide_eq_true_eq]
  done
theorem RO.surest (P : RO h a sz nn ch tk co wl) (hc : ∀ i, 0 ≤ i → i < sz → 0 ≤ ch i ∧ ch i ≤ 1000) (ho : ∀ i, 0 ≤ i → i < sz → 0 ≤ co i ∧ co i ≤ 999) (s0 : 0 ≤ sz) (s1 : sz ≤ 6) {purse : Int} (u0 : 0 ≤ purse) (u1 : purse ≤ 9999) : f4_surestFor h a (I purse) = some (I (bsS ch co sz.toNat purse ((2 : Int) ^ sz.toNat - 1).toNat 1 0)) := by
  have pz := p2sz s0 s1
  have fu := FU_big
  have L := P.suL hc ho s0 s1 u0 u1 FU 0 1 (by omega) (by omega) (by omega) (by omega) (by omega)
  have a0 := P.all hc s0 s1 (q := 0) (by omega) (by omega)
  rw [f4_surestFor, P.o, Option.bind_some, I_0, a0, Option.bind_some, I_1]
  exact L
end
