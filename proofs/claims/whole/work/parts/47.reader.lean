/-! A READER of the class at work -/
def RD (h : AH) (a : Nat) (u : Nat → Int) (cd : Int → Int) (sk : Int → Int64) : Prop := OB h a 3 [.int (I (u 0)), .int (I (u 1)), .ref (a + 1), .int (I (u 3)), .ref (a + 2), .int (I (u 5))] ∧ AI h (a + 1) 0 400 cd ∧ AL h (a + 2) 60 sk
def heldv (x : Int64) : Int := if x < 0 then 0 else if 1000 < x then 1000 else x.toInt
def hd0 (L : List Int64) : Int64 := L.headD 0
section
variable {h h' : AH} {a : Nat} {u : Nat → Int} {cd : Int → Int} {sk : Int → Int64}
theorem RD.o (D : RD h a u cd sk) : hObj 3 h a = some [.int (I (u 0)), .int (I (u 1)), .ref (a + 1), .int (I (u 3)), .ref (a + 2), .int (I (u 5))] := D.1.o
theorem RD.f0 (D : RD h a u cd sk) : fI 3 0 h a = some (I (u 0)) := D.1.i 0 rfl
theorem RD.f1 (D : RD h a u cd sk) : fI 3 1 h a = some (I (u 1)) := D.1.i 1 rfl
theorem RD.f2 (D : RD h a u cd sk) : fR 3 2 h a = some (a + 1) := D.1.r 2 rfl
theorem RD.f3 (D : RD h a u cd sk) : fI 3 3 h a = some (I (u 3)) := D.1.i 3 rfl
theorem RD.f4 (D : RD h a u cd sk) : fR 3 4 h a = some (a + 2) := D.1.r 4 rfl
theorem RD.f5 (D : RD h a u cd sk) : fI 3 5 h a = some (I (u 5)) := D.1.i 5 rfl
theorem RD.fr (D : RD h a u cd sk) {lo hi : Nat} (f : Fr lo hi h h') (d : a + 3 ≤ lo ∨ hi ≤ a) : RD h' a u cd sk := ⟨D.1.at (f.2 _ (by omega)), D.2.1.at (f.2 _ (by omega)), D.2.2.at (f.2 _ (by omega))⟩
theorem RD.setF (D : RD h a u cd sk) {k : Nat} {x : Value} {u' : Nat → Int} (e : [.int (I (u 0)), .int (I (u 1)), .ref (a + 1), .int (I (u 3)), .ref (a + 2), .int (I (u 5))].set k x = [.int (I (u' 0)), .int (I (u' 1)), .ref (a + 1), .int (I (u' 3)), .ref (a + 2), .int (I (u' 5))]) (hk : k < 6) : ∃ h', fS 3 k h a x = some h' ∧ RD h' a u' cd sk ∧ Fr a (a + 3) h h' := by
  obtain ⟨h', e1, O1, F1⟩ := D.1.set k x hk
  rw [e] at O1
  exact ⟨h', e1, ⟨O1, D.2.1.at (F1.2 _ (by omega)), D.2.2.at (F1.2 _ (by omega))⟩, F1.mono (by omega) (by omega)⟩
theorem RD.s0 (D : RD h a u cd sk) (x : Int) : ∃ h', fS 3 0 h a (.int (I x)) = some h' ∧ RD h' a (us u 0 x) cd sk ∧ Fr a (a + 3) h h' := D.setF rfl (by omega)
theorem RD.s1 (D : RD h a u cd sk) (x : Int) : ∃ h', fS 3 1 h a (.int (I x)) = some h' ∧ RD h' a (us u 1 x) cd sk ∧ Fr a (a + 3) h h' := D.setF rfl (by omega)
theorem RD.s3 (D : RD h a u cd sk) (x : Int) : ∃ h', fS 3 3 h a (.int (I x)) = some h' ∧ RD h' a (us u 3 x) cd sk ∧ Fr a (a + 3) h h' := D.setF rfl (by omega)
theorem RD.s5 (D : RD h a u cd sk) (x : Int) : ∃ h', fS 3 5 h a (.int (I x)) = some h' ∧ RD h' a (us u 5 x) cd sk ∧ Fr a (a + 3) h h' := D.setF rfl (by omega)
theorem RD.push (D : RD h a u cd sk) {n : Int} (v : Int64) (e : u 5 = n) (h0 : 0 ≤ n) (h1 : n < 60) : ∃ h', f3_push h a v = some h' ∧ RD h' a (us u 5 (n + 1)) cd (ul sk n v) ∧ Fr a (a + 3) h h' := by
  obtain ⟨h1, e1, A1, F1⟩ := D.2.2.set v h0 h1
  have D1 : RD h1 a u cd (ul sk n v) := ⟨D.1.at (F1.2 _ (by omega)), D.2.1.at (F1.2 _ (by omega)), A1⟩
  obtain ⟨h2, e2, D2, F2⟩ := D1.s5 (n + 1)
  refine ⟨h2, ?_, D2, (F1.mono (by omega) (by omega)).trans F2⟩
  simp (disch := omega) only [f3_push, D.o, D.f5, D.f4, D.2.2.n, e, Option.bind_some, I_lit, I_neg, I_add, I_sub, I_mul, I_lt, I_le, I_eq, if_pos, if_neg, if_true, if_false, decide_eq_true_eq, e1, D1.f5, e2]
theorem RD.pop (D : RD h a u cd sk) {n : Int} (e : u 5 = n) (h0 : 0 < n) (h1 : n ≤ 60) : ∃ h', f3_pop h a = some (sk (n - 1), h') ∧ RD h' a (us u 5 (n - 1)) cd sk ∧ Fr a (a + 3) h h' := by
  obtain ⟨h2, e2, D2, F2⟩ := D.s5 (n - 1)
  refine ⟨h2, ?_, D2, F2⟩
  simp (disch := omega) only [f3_pop, D.o, D.f5, D.f4, D.2.2.n, e, Option.bind_some, I_lit, I_neg, I_add, I_sub, I_mul, I_lt, I_le, I_eq, if_pos, if_neg, if_true, if_false, decide_eq_true_eq, e2, D2.f5, D2.f4, D2.2.2.g, us_eq]
theorem joined_of {h : AH} {c : Int} {x y : Int64} (hc : (c = 18 ∨ c = 19) ∨ (22 ≤ c ∧ c ≤ 26) ∨ 27 ≤ c ∧ c ≤ 29) : f3_joined h (I c) x y = some (jo c x y) := by
  have : c = 18 ∨ c = 19 ∨ c = 22 ∨ c = 23 ∨ c = 24 ∨ c = 25 ∨ c = 26 ∨ c = 27 ∨ c = 28 ∨ c = 29 := by omega
  unfold jo
  rcases this with e | e | e | e | e | e | e | e | e | e <;> subst e <;> simp (disch := omega) only [f3_joined, f3_bit, Option.bind_some, I_lit, I_neg, I_add, I_sub, I_mul, I_lt, I_le, I_eq, if_pos, if_neg, if_true, if_false, decide_eq_true_eq, Bool.false_eq_true]
  · by_cases k : y ≤ x
    · rw [if_pos k, if_neg (Int64.not_lt.mpr k)]
    · rw [if_neg k, if_pos (Int64.not_le.mp k)]
  · by_cases k : y < x
    · rw [if_pos k, if_neg (Int64.not_le.mpr k)]
    · rw [if_neg k, if_pos (Int64.not_lt.mp k)]
  · by_cases k : x = y
    · rw [if_pos k, if_pos k]
    · rw [if_neg k, if_neg k]
  · by_cases k : x < y
    · rw [if_pos k, if_neg (Int64.not_le.mpr k)]
    · rw [if_neg k, if_pos (Int64.not_lt.mp k)]
  · by_cases k : x ≤ y
    · rw [if_pos k, if_neg (Int64.not_lt.mpr k)]
    · rw [if_neg k, if_pos (Int64.not_le.mp k)]
theorem us_us (v : Nat → Int) (k : Nat) (x y : Int) : us (us v k x) k y = us v k y := by
  funext j
  unfold us
  by_cases c : j = k
  · rw [if_pos c, if_pos c]
  · rw [if_neg c, if_neg c, if_neg c]
theorem us_same (v : Nat → Int) (k : Nat) : us v k (v k) = v := by
  funext j
  unfold us
  by_cases c : j = k
  · rw [if_pos c, c]
  · rw [if_neg c]
/-- one code: the list behind it -/
theorem RD.step (D : RD h a u cd sk) {w : Nat} {ww : Int → Int} (hw : AI h w 0 10 ww) (wr : ∀ k, 0 ≤ k → k < 10 → -2147483648 ≤ ww k ∧ ww k < 2147483648) {L : List Int64} (hl : u 5 = L.length) (ht : ho sk L) {c : Int} (c0 : -2147483647 ≤ c) (c1 : c < 2147483648) {B B' : List Bool} (k : tk c B = some B') (t : ty B L) (hn : (L.length : Int) + (if decide (c < 10) = true then 1 else 0) ≤ 60) : ∃ h' sk', f3_step h a (I c) w = some h' ∧ RD h' a (us u 5 (sp (fun k => J (ww k)) c L).length) cd sk' ∧ ho sk' (sp (fun k => J (ww k)) c L) ∧ Fr a (a + 3) h h' := by
  rcases tk_cases k with ⟨q, e⟩ | ⟨q, Y, e1, e2⟩ | q
  · rw [if_pos (by simpa using q)] at hn
    by_cases c2 : c < 0
    · obtain ⟨h1, e1, D1, F1⟩ := D.push (J (-1 - c)) hl (by omega) (by omega)
      refine ⟨h1, ul sk L.length (J (-1 - c)), ?_, ?_, ?_, F1⟩
      · simp (disch := omega) only [f3_step, D.o, Option.bind_some, I_lit, I_neg, I_add, I_sub, I_mul, I_lt, I_le, I_eq, if_pos, if_neg, if_true, if_false, decide_eq_true_eq, I_toJ, e1]
      · unfold sp
        rw [if_pos c2]
        exact D1
      · unfold sp
        rw [if_pos c2]
        exact ho_push ht
    · have w' := wr c (by omega) q
      obtain ⟨h1, e1, D1, F1⟩ := D.push (J (ww c)) hl (by omega) (by omega)
      refine ⟨h1, ul sk L.length (J (ww c)), ?_, ?_, ?_, F1⟩
      · simp (disch := omega) only [f3_step, D.o, hw.n, hw.g, Option.bind_some, I_lit, I_neg, I_add, I_sub, I_mul, I_lt, I_le, I_eq, if_pos, if_neg, if_true, if_false, decide_eq_true_eq, I_toJ, e1]
      · unfold sp
        rw [if_neg c2, if_pos q]
        exact D1
      · unfold sp
        rw [if_neg c2, if_pos q]
        exact ho_push ht
  · subst e1
    obtain ⟨x, M, e, hx, t2⟩ := ty_cons t
    subst e
    rw [if_neg (by rw [q]; simp)] at hn
    simp only [List.length_cons] at hl hn
    obtain ⟨h1, e1, D1, F1⟩ := D.pop hl (by omega) (by omega)
    obtain ⟨h2, e2, D2, F2⟩ := D1.push (n := M.length) (if x = 0 then 1 else 0) (by rw [us_eq]; omega) (by omega) (by omega)
    have ex : sk ((M.length + 1 : Nat) - 1 : Int) = x := by
      rw [show ((M.length + 1 : Nat) - 1 : Int) = (M.length : Int) by omega]; exact ht.1
    rw [ex] at e1
    have es : sp (fun k => J (ww k)) c (x :: M) = (if x = 0 then 1 else 0) :: M := by
      unfold sp; rw [if_neg (by omega), if_neg (by omega), if_pos q]
    rw [es]
    refine ⟨h2, _, ?_, ?_, ho_push ht.2, F1.trans F2⟩
    · by_cases x0 : x = 0
      · rw [if_pos x0] at e2
        subst x0
        simp (disch := omega) only [f3_step, f3_bit, D.o, q, e1, Option.bind_some, I_lit, I_neg, I_add, I_sub, I_mul, I_lt, I_le, I_eq, if_pos, if_neg, if_true, if_false, decide_eq_true_eq, e2]
      · rw [if_neg x0] at e2
        simp (disch := omega) only [f3_step, f3_bit, D.o, q, e1, Option.bind_some, I_lit, I_neg, I_add, I_sub, I_mul, I_lt, I_le, I_eq, if_pos, if_neg, if_true, if_false, decide_eq_true_eq, if_neg x0, Bool.false_eq_true, e2]
    · rw [us_us] at D2
      exact D2
  · have hc : ((c = 18 ∨ c = 19) ∨ (22 ≤ c ∧ c ≤ 26) ∨ 27 ≤ c ∧ c ≤ 29) ∧ ∃ b1 b2 Y, B = b1 :: b2 :: Y := by
      rcases q with ⟨q, Y, e1, e2⟩ | ⟨q, Y, e1, e2⟩ | ⟨q, Y, e1, e2⟩
      · exact ⟨.inl q, _, _, _, e1⟩
      · exact ⟨.inr (.inl q), _, _, _, e1⟩
      · exact ⟨.inr (.inr q), _, _, _, e1⟩
    obtain ⟨hc, b1, b2, Y, e1⟩ := hc
    subst e1
    obtain ⟨y, M1, e, -, t2⟩ := ty_cons t
    obtain ⟨x, M, e2, -, t3⟩ := ty_cons t2
    subst e e2
    rw [if_neg (by simp; omega)] at hn
    simp only [List.length_cons] at hl hn
    obtain ⟨h1, e1, D1, F1⟩ := D.pop hl (by omega) (by omega)
    obtain ⟨h2, e2, D2, F2⟩ := D1.pop (n := M.length + 1) (by rw [us_eq]; omega) (by omega) (by omega)
    obtain ⟨h3, e3, D3, F3⟩ := D2.push (n := M.length) (jo c x y) (by rw [us_eq]; omega) (by omega) (by omega)
    have ey : sk ((M.length + 1 + 1 : Nat) - 1 : Int) = y := by
      rw [show ((M.length + 1 + 1 : Nat) - 1 : Int) = ((M.length + 1 : Nat) : Int) by omega]; exact ht.1
    have ex : sk ((M.length : Int) + 1 - 1) = x := by
      rw [show ((M.length : Int) + 1 - 1) = (M.length : Int) by omega]; exact ht.2.1
    rw [ey] at e1
    rw [ex] at e2
    have es : sp (fun k => J (ww k)) c (y :: x :: M) = jo c x y :: M := by
      unfold sp; rw [if_neg (by omega), if_neg (by omega), if_neg (by omega)]
    rw [es]
    refine ⟨h3, _, ?_, ?_, ho_push ht.2.2, (F1.trans F2).trans F3⟩
    · simp (disch := omega) only [f3_step, D.o, e1, e2, joined_of hc, Option.bind_some, I_lit, I_neg, I_add, I_sub, I_mul, I_lt, I_le, I_eq, if_pos, if_neg, if_true, if_false, decide_eq_true_eq, e3]
    · rw [us_us, us_us] at D3
      exact D3
/-- codes one after the other, within the loop that says yes -/
theorem RD.run {w : Nat} {ww : Int → Int} (wr : ∀ k, 0 ≤ k → k < 10 → -2147483648 ≤ ww k ∧ ww k < 2147483648) (dw : w + 1 ≤ a ∨ a + 3 ≤ w) {sz : Int} (s1 : sz ≤ 400) (cr : ∀ j, 0 ≤ j → j < sz → -2147483647 ≤ cd j ∧ cd j < 2147483648) : ∀ (n : Nat) (f : Nat) (h : AH) (u : Nat → Int) (sk : Int → Int64) (i : Int) (L : List Int64) (B B' : List Bool), AI h w 0 10 ww → RD h a u cd sk → u 3 = sz → u 5 = L.length → ho sk L → ty B L → rt cd n i B = some B' → 0 ≤ i → i + n ≤ sz → (L.length : Int) + cn (fun j => decide (cd j < 10)) n i ≤ 60 → ∃ h' u' sk', f3_chanceBy_7 a w (f + n) h (I i) = f3_chanceBy_7 a w f h' (I (i + n)) ∧ AI h' w 0 10 ww ∧ RD h' a u' cd sk' ∧ (∀ j, j ≠ 5 → u' j = u j) ∧ u' 5 = (rn (fun k => J (ww k)) cd n i L).length ∧ ho sk' (rn (fun k => J (ww k)) cd n i L) ∧ Fr a (a + 3) h h' := by
  intro n
  induction n with
  | zero =>
    intro f h u sk i L B B' hw D e3 e5 hh t k i0 i1 hn
    exact ⟨h, u, sk, by simp, hw, D, fun _ _ => rfl, e5, hh, Fr.refl _ _ _⟩
  | succ n ih =>
    intro f h u sk i L B B' hw D e3 e5 hh t k i0 i1 hn
    simp only [rt] at k
    simp only [cn] at hn
    have nn := cn_nn (fun j => decide (cd j < 10)) n (i + 1)
    cases e : tk (cd i) B with
    | none => rw [e] at k; cases k
    | some B1 =>
      rw [e] at k
      simp only [Option.bind_some] at k
      have c' := cr i i0 (by omega)
      have sl := sp_len (wv := fun k => J (ww k)) e t
      have q0 : (L.length : Int) + (if decide (cd i < 10) = true then 1 else 0) ≤ 60 := by
        generalize (if decide (cd i < 10) = true then (1 : Int) else 0) = z at hn ⊢
        omega
      have q1 : ((sp (fun k => J (ww k)) (cd i) L).length : Int) + cn (fun j => decide (cd j < 10)) n (i + 1) ≤ 60 := by
        generalize (if decide (cd i < 10) = true then (1 : Int) else 0) = z at hn sl
        omega
      obtain ⟨h1, sk1, e1, D1, H1, F1⟩ := D.step hw wr e5 hh c'.1 c'.2 e t q0
      have hw1 := hw.at (F1.2 w (by omega))
      obtain ⟨h2, u2, sk2, e2, W2, D2, U2, V2, H2, F2⟩ := ih f h1 _ sk1 (i + 1) _ B1 B' hw1 D1 (by rw [us_ne (by omega)]; exact e3) us_eq H1 (sp_ty e t) k (by omega) (by omega) q1
      refine ⟨h2, u2, sk2, ?_, W2, D2, fun j hj => by rw [U2 j hj, us_ne hj], V2, H2, F1.trans F2⟩
      rw [show i + ((n + 1 : Nat) : Int) = i + 1 + n by omega, ← e2, show f + (n + 1) = f + n + 1 by omega]
      have c10 : cd i ≠ 10 := by
        rcases tk_cases e with ⟨q, -⟩ | ⟨q, -⟩ | ⟨q, -⟩ | ⟨q, -⟩ | ⟨q, -⟩ <;> omega
      have c17 : cd i ≠ 17 := by
        rcases tk_cases e with ⟨q, -⟩ | ⟨q, -⟩ | ⟨q, -⟩ | ⟨q, -⟩ | ⟨q, -⟩ <;> omega
      simp (disch := omega) only [f3_chanceBy_7, D.f3, D.f2, D.2.1.n, D.2.1.g, e3, Option.bind_some, I_lit, I_neg, I_add, I_sub, I_mul, I_lt, I_le, I_eq, if_pos, if_neg, if_true, if_false, decide_eq_true_eq, e1]
end
