/-! image, back of the class -/
section
variable {h h' : AH} {x : Nat} {r : Int → Int} {c : Nat → Int → Int} {nr nm : Int} {q : Int → Option Nat}
theorem XO.imageA (O : XO h x nr nm) (W : WD h (x + 1) r c) (A : AQ h (x + 21) 4 4 q) {k : Int} (k0 : 0 ≤ k) (k1 : k ≤ 3) {a : Nat} (ha : q k = some a) (a0 : x + 22 ≤ a) {rk : Int → Int} {ck : Nat → Int → Int} (Wa : WD h a rk ck) : ∃ h' c', f8_image h x (I k) = some (I (r 0), h') ∧ WD h' a r c' ∧ Fr a (a + 20) h h' := by
  obtain ⟨h1, c1, e1, W1, F1⟩ := Wa.copy W (by omega)
  refine ⟨h1, c1, ?_, W1, F1⟩
  have O1 := O.fr F1 (by omega)
  have B1 := W.fr F1 (by omega)
  have ag := A.g k0 (by omega)
  rw [ha] at ag
  rw [f8_image]
  simp only [I_lit, I_neg]
  rw [O.o, Option.bind_some, O.f1, Option.bind_some, A.n (by decide), Option.bind_some, I_sub, isFrom_of (x := k) (a := 0) (b := 4 - 1) (by omega) (by omega) (by omega) (by omega) (by omega) (by omega), Option.bind_some, if_pos (decide_eq_true ⟨k0, by omega⟩), Option.bind_some, ag, Option.bind_some]
  simp only [oM]
  rw [Option.bind_some, ag, Option.bind_some, O.f0, Option.bind_some, Option.bind_some, e1, Option.bind_some, O1.f0, Option.bind_some, B1.f0, Option.bind_some]
theorem XO.imageB (O : XO h x nr nm) (W : WD h (x + 1) r c) (A : AQ h (x + 21) 4 4 q) {k : Int} (k0 : 0 ≤ k) (k1 : k ≤ 3) (ha : q k = none) {o : Nat} (ho : h.1 = o) (o0 : x + 22 ≤ o) : ∃ h' c', f8_image h x (I k) = some (I (r 0), h') ∧ WD h' o r c' ∧ AQ h' (x + 21) 4 4 (uo q k (some o)) ∧ h'.1 = o + 20 ∧ ∀ z, z < o → z ≠ x + 21 → h'.2 z = h.2 z := by
  obtain ⟨h1, e1, W1, s1, b1⟩ := WD.init ho
  have A1 := A.at (b1 (x + 21) (by omega))
  obtain ⟨h2, e2, A2, F2⟩ := A1.set (ci := 7) (i := k) o W1.o k0 (by omega)
  have O1 : XO h1 x nr nm := OB.at O (b1 x (by omega))
  have O2 := O1.fr F2 (by omega)
  have keep : ∀ z, z < o → z ≠ x + 21 → h2.2 z = h.2 z := fun z z0 z1 => by rw [F2.2 z (by omega), b1 z z0]
  have W2 : WD h2 (x + 1) r c := ⟨W.1.at (keep _ (by omega) (by omega)), ⟨W.st.1.at (keep _ (by omega) (by omega)), W.st.2.1.at (keep _ (by omega) (by omega)), W.st.2.2⟩, ⟨W.tr.1.at (keep _ (by omega) (by omega)), W.tr.2.1.at (keep _ (by omega) (by omega)), W.tr.2.2.1.at (keep _ (by omega) (by omega)), W.tr.2.2.2⟩, ⟨W.fa.1.at (keep _ (by omega) (by omega)), W.fa.2.1.at (keep _ (by omega) (by omega)), W.fa.2.2.1.at (keep _ (by omega) (by omega)), W.fa.2.2.2⟩, ⟨W.pi.1.at (keep _ (by omega) (by omega)), W.pi.2.1.at (keep _ (by omega) (by omega)), W.pi.2.2⟩, ⟨W.pg.1.at (keep _ (by omega) (by omega)), W.pg.2.1.at (keep _ (by omega) (by omega)), W.pg.2.2.1.at (keep _ (by omega) (by omega)), W.pg.2.2.2⟩, ⟨W.lo.1.at (keep _ (by omega) (by omega)), W.lo.2.1.at (keep _ (by omega) (by omega)), W.lo.2.2⟩, ⟨W.te.1.at (keep _ (by omega) (by omega)), W.te.2.1.at (keep _ (by omega) (by omega)), W.te.2.2⟩, ⟨W.pe.1.at (keep _ (by omega) (by omega)), W.pe.2.1.at (keep _ (by omega) (by omega)), W.pe.2.2⟩, W.cr⟩
  have V2 : WD h2 o (fun _ => 0) (fun _ _ => 0) := W1.fr F2 (by omega)
  obtain ⟨h3, c3, e3, W3, F3⟩ := V2.copy W2 (by omega)
  have O3 := O2.fr F3 (by omega)
  have B3 := W2.fr F3 (by omega)
  refine ⟨h3, c3, ?_, W3, A2.at (F3.2 _ (by omega)), by rw [F3.1, F2.1, s1], fun z z0 z1 => by rw [F3.2 z (by omega), keep z z0 z1]⟩
  have ag := A.g k0 (by omega)
  rw [ha] at ag
  have ag2 := A2.g k0 (by omega)
  rw [uo_eq] at ag2
  have no : nO 7 [.int 0, .null, .null, .null, .null, .null, .null, .null, .null] h = some (o, hN h (.inr (7, [.int 0, .null, .null, .null, .null, .null, .null, .null, .null]))) := nO_of ho
  rw [f8_image]
  simp only [I_lit, I_neg]
  simp only [← I_0]
  rw [O.o, Option.bind_some, O.f1, Option.bind_some, A.n (by decide), Option.bind_some, I_sub, I_0, isFrom_of (x := k) (a := 0) (b := 4 - 1) (by omega) (by omega) (by omega) (by omega) (by omega) (by omega), Option.bind_some, if_pos (decide_eq_true ⟨k0, by omega⟩), Option.bind_some, ag, Option.bind_some]
  simp only [oM]
  simp only [← I_0]
  rw [Option.bind_some, no, Option.bind_some]
  dsimp only
  rw [e1, Option.bind_some, e2, Option.bind_some, O2.f1, Option.bind_some, ag2, Option.bind_some, O2.f0, Option.bind_some, Option.bind_some, e3, Option.bind_some, O3.f0, Option.bind_some, B3.f0, Option.bind_some]
theorem XO.imageN (O : XO h x nr nm) (A : AQ h (x + 21) 4 4 q) {k : Int} (k0 : -2147483648 ≤ k) (k1 : k < 2147483648) (no : ¬ (0 ≤ k ∧ k ≤ 3)) : f8_image h x (I k) = some (I (-1), h) := by
  rw [f8_image]
  simp only [I_lit, I_neg]
  rw [O.o, Option.bind_some, O.f1, Option.bind_some, A.n (by decide), Option.bind_some, I_sub, isFrom_of (x := k) (a := 0) (b := 4 - 1) (by omega) (by omega) (by omega) (by omega) (by omega) (by omega), Option.bind_some, if_neg (by simp; omega)]
theorem XO.back (O : XO h x nr nm) (W : WD h (x + 1) r c) (A : AQ h (x + 21) 4 4 q) {k : Int} (k0 : 0 ≤ k) (k1 : k ≤ 3) {a : Nat} (ha : q k = some a) (a0 : x + 22 ≤ a) {rk : Int → Int} {ck : Nat → Int → Int} (Wa : WD h a rk ck) : ∃ h' c', f8_back h x (I k) = some (I (rk 0), h') ∧ WD h' (x + 1) rk c' ∧ Fr (x + 1) (x + 21) h h' := by
  obtain ⟨h1, c1, e1, W1, F1⟩ := W.copy Wa (by omega)
  have F1' : Fr (x + 1) (x + 21) h h1 := F1.mono (by omega) (by omega)
  refine ⟨h1, c1, ?_, W1, F1'⟩
  have O1 := O.fr F1' (by omega)
  have ag := A.g k0 (by omega)
  rw [ha] at ag
  rw [f8_back]
  simp only [I_lit, I_neg]
  rw [O.o, Option.bind_some, O.f1, Option.bind_some, A.n (by decide), Option.bind_some, I_sub, isFrom_of (x := k) (a := 0) (b := 4 - 1) (by omega) (by omega) (by omega) (by omega) (by omega) (by omega), Option.bind_some, if_pos (decide_eq_true ⟨k0, by omega⟩), Option.bind_some, ag, Option.bind_some]
  simp only [oM]
  rw [O.f0, Option.bind_some, Option.bind_some, ag, Option.bind_some, Option.bind_some, e1, Option.bind_some, O1.f0, Option.bind_some, W1.f0, Option.bind_some]
theorem XO.backN (O : XO h x nr nm) (A : AQ h (x + 21) 4 4 q) {k : Int} (k0 : -2147483648 ≤ k) (k1 : k < 2147483648) (no : ¬ (0 ≤ k ∧ k ≤ 3) ∨ q k = none) : f8_back h x (I k) = some (I (-1), h) := by
  rw [f8_back]
  simp only [I_lit, I_neg]
  rw [O.o, Option.bind_some, O.f1, Option.bind_some, A.n (by decide), Option.bind_some, I_sub, isFrom_of (x := k) (a := 0) (b := 4 - 1) (by omega) (by omega) (by omega) (by omega) (by omega) (by omega), Option.bind_some]
  by_cases z : 0 ≤ k ∧ k ≤ 3
  · have ha := no.resolve_left (fun y => y z)
    have ag := A.g z.1 (by omega)
    rw [ha] at ag
    rw [if_pos (decide_eq_true ⟨z.1, by omega⟩), Option.bind_some, ag, Option.bind_some]
    simp only [oM]
  · rw [if_neg (by simp; omega)]
end
