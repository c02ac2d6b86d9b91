/-! the class's PARSER: its object, the signs that wait, the code that it gives a READER (gen77.py) -/
def PBL (p : Nat) (q1 q2 : Option Nat) (u : Nat → Int) : List Value := [va_rf q1, va_rf q2, .int (I (u 2)), .int (I (u 3)), .int (I (u 4)), .int (I (u 5)), .int (I (u 6)), .int (I (u 7)), .int (I (u 8)), .ref (p + 1), .int (I (u 10)), .int (I (u 11)), .int (I (u 12))]
def PB (h : AH) (p : Nat) (q1 q2 : Option Nat) (u : Nat → Int) (w : Int → Int) : Prop := OB h p 1 (PBL p q1 q2 u) ∧ AI h (p + 1) 0 400 w
theorem OB.qv {h : AH} {a ci : Nat} {fs : List Value} (e : OB h a ci fs) (k : Nat) {v : Option Nat} (hv : fs[k]? = some (va_rf v)) : fQ ci k h a = some v := by
  cases v with
  | none => exact e.q0 k hv
  | some b => exact e.q k hv
section
variable {h h' : AH} {p : Nat} {q1 q2 : Option Nat} {u : Nat → Int} {w : Int → Int}
theorem PB.o (P : PB h p q1 q2 u w) : hObj 1 h p = some (PBL p q1 q2 u) := P.1.o
theorem PB.f0 (P : PB h p q1 q2 u w) : fQ 1 0 h p = some q1 := P.1.qv 0 rfl
theorem PB.f1 (P : PB h p q1 q2 u w) : fQ 1 1 h p = some q2 := P.1.qv 1 rfl
theorem PB.f9 (P : PB h p q1 q2 u w) : fR 1 9 h p = some (p + 1) := P.1.r 9 rfl
theorem PB.f2 (P : PB h p q1 q2 u w) : fI 1 2 h p = some (I (u 2)) := P.1.i 2 rfl
theorem PB.f3 (P : PB h p q1 q2 u w) : fI 1 3 h p = some (I (u 3)) := P.1.i 3 rfl
theorem PB.f4 (P : PB h p q1 q2 u w) : fI 1 4 h p = some (I (u 4)) := P.1.i 4 rfl
theorem PB.f5 (P : PB h p q1 q2 u w) : fI 1 5 h p = some (I (u 5)) := P.1.i 5 rfl
theorem PB.f6 (P : PB h p q1 q2 u w) : fI 1 6 h p = some (I (u 6)) := P.1.i 6 rfl
theorem PB.f7 (P : PB h p q1 q2 u w) : fI 1 7 h p = some (I (u 7)) := P.1.i 7 rfl
theorem PB.f8 (P : PB h p q1 q2 u w) : fI 1 8 h p = some (I (u 8)) := P.1.i 8 rfl
theorem PB.f10 (P : PB h p q1 q2 u w) : fI 1 10 h p = some (I (u 10)) := P.1.i 10 rfl
theorem PB.f11 (P : PB h p q1 q2 u w) : fI 1 11 h p = some (I (u 11)) := P.1.i 11 rfl
theorem PB.f12 (P : PB h p q1 q2 u w) : fI 1 12 h p = some (I (u 12)) := P.1.i 12 rfl
theorem PB.fr (P : PB h p q1 q2 u w) {lo hi : Nat} (f : Fr lo hi h h') (d : p + 2 ≤ lo ∨ hi ≤ p) : PB h' p q1 q2 u w := ⟨P.1.at (f.2 _ (by omega)), P.2.at (f.2 _ (by omega))⟩
theorem PB.setF (P : PB h p q1 q2 u w) {k : Nat} {x : Value} {q1' q2' : Option Nat} {u' : Nat → Int} (e : (PBL p q1 q2 u).set k x = PBL p q1' q2' u') (hk : k < 13) : ∃ h', fS 1 k h p x = some h' ∧ PB h' p q1' q2' u' w ∧ Fr p (p + 2) h h' := by
  obtain ⟨h', e1, O1, F1⟩ := P.1.set k x hk
  rw [e] at O1
  exact ⟨h', e1, ⟨O1, P.2.at (F1.2 _ (by omega))⟩, F1.mono (by omega) (by omega)⟩
theorem PB.s0 (P : PB h p q1 q2 u w) (x : Option Nat) : ∃ h', fS 1 0 h p (va_rf x) = some h' ∧ PB h' p x q2 u w ∧ Fr p (p + 2) h h' := P.setF rfl (by omega)
theorem PB.s1 (P : PB h p q1 q2 u w) (x : Option Nat) : ∃ h', fS 1 1 h p (va_rf x) = some h' ∧ PB h' p q1 x u w ∧ Fr p (p + 2) h h' := P.setF rfl (by omega)
theorem PB.s2 (P : PB h p q1 q2 u w) (x : Int) : ∃ h', fS 1 2 h p (.int (I x)) = some h' ∧ PB h' p q1 q2 (us u 2 x) w ∧ Fr p (p + 2) h h' := P.setF rfl (by omega)
theorem PB.s3 (P : PB h p q1 q2 u w) (x : Int) : ∃ h', fS 1 3 h p (.int (I x)) = some h' ∧ PB h' p q1 q2 (us u 3 x) w ∧ Fr p (p + 2) h h' := P.setF rfl (by omega)
theorem PB.s4 (P : PB h p q1 q2 u w) (x : Int) : ∃ h', fS 1 4 h p (.int (I x)) = some h' ∧ PB h' p q1 q2 (us u 4 x) w ∧ Fr p (p + 2) h h' := P.setF rfl (by omega)
theorem PB.s5 (P : PB h p q1 q2 u w) (x : Int) : ∃ h', fS 1 5 h p (.int (I x)) = some h' ∧ PB h' p q1 q2 (us u 5 x) w ∧ Fr p (p + 2) h h' := P.setF rfl (by omega)
theorem PB.s6 (P : PB h p q1 q2 u w) (x : Int) : ∃ h', fS 1 6 h p (.int (I x)) = some h' ∧ PB h' p q1 q2 (us u 6 x) w ∧ Fr p (p + 2) h h' := P.setF rfl (by omega)
theorem PB.s7 (P : PB h p q1 q2 u w) (x : Int) : ∃ h', fS 1 7 h p (.int (I x)) = some h' ∧ PB h' p q1 q2 (us u 7 x) w ∧ Fr p (p + 2) h h' := P.setF rfl (by omega)
theorem PB.s8 (P : PB h p q1 q2 u w) (x : Int) : ∃ h', fS 1 8 h p (.int (I x)) = some h' ∧ PB h' p q1 q2 (us u 8 x) w ∧ Fr p (p + 2) h h' := P.setF rfl (by omega)
theorem PB.s10 (P : PB h p q1 q2 u w) (x : Int) : ∃ h', fS 1 10 h p (.int (I x)) = some h' ∧ PB h' p q1 q2 (us u 10 x) w ∧ Fr p (p + 2) h h' := P.setF rfl (by omega)
theorem PB.s11 (P : PB h p q1 q2 u w) (x : Int) : ∃ h', fS 1 11 h p (.int (I x)) = some h' ∧ PB h' p q1 q2 (us u 11 x) w ∧ Fr p (p + 2) h h' := P.setF rfl (by omega)
theorem PB.s12 (P : PB h p q1 q2 u w) (x : Int) : ∃ h', fS 1 12 h p (.int (I x)) = some h' ∧ PB h' p q1 q2 (us u 12 x) w ∧ Fr p (p + 2) h h' := P.setF rfl (by omega)
theorem PB.wr (P : PB h p q1 q2 u w) {i : Int} (x : Int) (h0 : 0 ≤ i) (h1 : i < 400) : ∃ h', sI 0 h (p + 1) (I i) (I x) = some h' ∧ PB h' p q1 q2 u (up w i x) ∧ Fr p (p + 2) h h' := by
  obtain ⟨h', e1, A1, F1⟩ := P.2.set (v := x) h0 h1
  exact ⟨h', e1, ⟨P.1.at (F1.2 _ (by omega)), A1⟩, F1.mono (by omega) (by omega)⟩
end
/-! where parser, tape and reader lie; nothing else is touched -/
def Fc (x r : Nat) (h h' : AH) : Prop := h'.1 = h.1 ∧ ∀ a, ¬ ((x + 22 ≤ a ∧ a < x + 26) ∨ (r ≤ a ∧ a < r + 3)) → h'.2 a = h.2 a
theorem Fc.refl (x r : Nat) (h : AH) : Fc x r h h := ⟨rfl, fun _ _ => rfl⟩
theorem Fc.trans {x r : Nat} {h h1 h2 : AH} (a : Fc x r h h1) (b : Fc x r h1 h2) : Fc x r h h2 := ⟨b.1.trans a.1, fun q hq => (b.2 q hq).trans (a.2 q hq)⟩
theorem Fr.c {x r lo hi : Nat} {h h1 : AH} (a : Fr lo hi h h1) (d : (x + 22 ≤ lo ∧ hi ≤ x + 26) ∨ (r ≤ lo ∧ hi ≤ r + 3)) : Fc x r h h1 := ⟨a.1, fun q hq => a.2 q (by omega)⟩
def KX (h : AH) (x r : Nat) (u : Nat → Int) (w : Int → Int) (t : Nat → Int) (T : Int → Int) (ru : Nat → Int) (cd : Int → Int) (sk : Int → Int64) : Prop := PB h (x + 24) (some r) none u w ∧ TP h (x + 22) t T ∧ RD h r ru cd sk ∧ x + 35 ≤ r
/-- a list as it lies in a row of ints, its top last -/
def hi (w : Int → Int) : List Int → Prop
  | [] => True
  | a :: L => w L.length = a ∧ hi w L
theorem hi_up {w : Int → Int} {n x : Int} : ∀ {L : List Int}, (L.length : Int) ≤ n → hi w L → hi (up w n x) L := by
  intro L
  induction L with
  | nil => intro _ _; trivial
  | cons a L ih =>
    intro h t
    simp only [List.length_cons] at h
    exact ⟨by rw [up_ne (by omega)]; exact t.1, ih (by omega) t.2⟩
theorem hi_push {w : Int → Int} {x : Int} {L : List Int} (t : hi w L) : hi (up w L.length x) (x :: L) := ⟨up_eq, hi_up (Int.le_refl _) t⟩
def clos (c : Int) : Int := if c = 18 then 1 else if c = 19 then 2 else if c = 20 then 3 else if c = 21 then 4 else if c = 22 then 4 else if c = 23 then 4 else if c = 24 then 4 else if c = 25 then 4 else if c = 26 then 4 else if c = 27 then 5 else if c = 28 then 5 else if c = 29 then 6 else if c = 30 then 0 else 4
def dep : List Int → Int
  | [] => 0
  | a :: L => dep L + if a = 20 ∨ a = 30 then 1 else 0
def bra : List Int → Int
  | [] => 0
  | a :: L => bra L + if a = 30 then 1 else 0
def nots : List Int → Int
  | [] => 0
  | a :: L => nots L + if a = 20 then 1 else 0
theorem dep_c (a : Int) (L : List Int) : dep (a :: L) = dep L + if a = 20 ∨ a = 30 then 1 else 0 := rfl
theorem bra_c (a : Int) (L : List Int) : bra (a :: L) = bra L + if a = 30 then 1 else 0 := rfl
theorem nots_c (a : Int) (L : List Int) : nots (a :: L) = nots L + if a = 20 then 1 else 0 := rfl
theorem dep_nn : ∀ L : List Int, 0 ≤ dep L ∧ dep L ≤ L.length
  | [] => by simp [dep]
  | a :: L => by
    have := dep_nn L
    simp only [dep, List.length_cons]
    split <;> omega
theorem bra_nn : ∀ L : List Int, 0 ≤ bra L ∧ bra L ≤ L.length
  | [] => by simp [bra]
  | a :: L => by
    have := bra_nn L
    simp only [bra, List.length_cons]
    split <;> omega
theorem closeness_of {h : AH} {c : Int} (c0 : 0 ≤ c) (c1 : c ≤ 40) : f1_closeness h (I c) = some (I (clos c)) := by
  unfold clos
  rw [f1_closeness]
  simp only [I_lit]
  iterate 13 refine kos_st (by omega) (by omega) (by omega) (by omega) ?_
  rfl
theorem clos_rng (c : Int) : 0 ≤ clos c ∧ clos c ≤ 6 := by
  unfold clos
  repeat' split
  all_goals omega
section
variable {h h' : AH} {x r : Nat} {u : Nat → Int} {w : Int → Int} {t : Nat → Int} {T : Int → Int} {ru : Nat → Int} {cd : Int → Int} {sk : Int → Int64}
theorem KX.ofP (K : KX h x r u w t T ru cd sk) {u' : Nat → Int} {w' : Int → Int} (P : PB h' (x + 24) (some r) none u' w') (F : Fr (x + 24) (x + 24 + 2) h h') : KX h' x r u' w' t T ru cd sk ∧ Fc x r h h' := ⟨⟨P, K.2.1.fr F (by omega), K.2.2.1.fr F (by have := K.2.2.2; omega), K.2.2.2⟩, F.c (by omega)⟩
theorem KX.ofT (K : KX h x r u w t T ru cd sk) {t' : Nat → Int} (P : TP h' (x + 22) t' T) (F : Fr (x + 22) (x + 22 + 2) h h') : KX h' x r u w t' T ru cd sk ∧ Fc x r h h' := ⟨⟨K.1.fr F (by omega), P, K.2.2.1.fr F (by have := K.2.2.2; omega), K.2.2.2⟩, F.c (by omega)⟩
theorem KX.ofR (K : KX h x r u w t T ru cd sk) {ru' : Nat → Int} {cd' : Int → Int} {sk' : Int → Int64} (D : RD h' r ru' cd' sk') (F : Fr r (r + 3) h h') : KX h' x r u w t T ru' cd' sk' ∧ Fc x r h h' := ⟨⟨K.1.fr F (by have := K.2.2.2; omega), K.2.1.fr F (by have := K.2.2.2; omega), D, K.2.2.2⟩, F.c (by omega)⟩
theorem RD.add (D : RD h r ru cd sk) {n : Int} (c : Int) (e : ru 3 = n) (h0 : 0 ≤ n) (h1 : n < 400) : ∃ h', f3_addCode h r (I c) = some h' ∧ RD h' r (us ru 3 (n + 1)) (up cd n c) sk ∧ Fr r (r + 3) h h' := by
  obtain ⟨h1, e1, A1, F1⟩ := D.2.1.set (v := c) h0 h1
  have D1 : RD h1 r ru (up cd n c) sk := ⟨D.1.at (F1.2 _ (by omega)), A1, D.2.2.at (F1.2 _ (by omega))⟩
  obtain ⟨h2, e2, D2, F2⟩ := D1.s3 (n + 1)
  refine ⟨h2, ?_, D2, (F1.mono (by omega) (by omega)).trans F2⟩
  simp (disch := omega) only [f3_addCode, D.o, D.f3, D.f2, D.2.1.n, e, Option.bind_some, I_lit, I_neg, I_add, I_sub, I_mul, I_lt, I_le, I_eq, if_pos, if_neg, if_true, if_false, decide_eq_true_eq, e1, D1.f3, e2]
theorem KX.emit (K : KX h x r u w t T ru cd sk) {n : Int} (c : Int) (e : ru 3 = n) (h0 : 0 ≤ n) (h1 : n < 400) : ∃ h', f1_emit h (x + 24) (I c) = some h' ∧ KX h' x r u w t T (us ru 3 (n + 1)) (up cd n c) sk ∧ Fc x r h h' := by
  obtain ⟨h1, e1, D1, F1⟩ := K.2.2.1.add c e h0 h1
  refine ⟨h1, ?_, K.ofR D1 F1⟩
  rw [f1_emit, K.1.o, Option.bind_some, K.1.f0, Option.bind_some]
  show ((some (some r)).bind fun x8 => (x8).bind fun b12 => (f3_addCode h b12 (I c)).bind fun x12 => some x12) = some h1
  rw [Option.bind_some, Option.bind_some, e1, Option.bind_some]
theorem KX.last (K : KX h x r u w t T ru cd sk) {a : Int} {W : List Int} (e : u 10 = ((a :: W).length : Int)) (hw : hi w (a :: W)) (l : ((a :: W).length : Int) ≤ 400) : f1_lastWaiting h (x + 24) = some (I a) := by
  simp only [List.length_cons] at e l
  have ea : w W.length = a := hw.1
  simp (disch := omega) only [f1_lastWaiting, K.1.o, K.1.f10, K.1.f9, K.1.2.n, e, Option.bind_some, I_lit, I_neg, I_add, I_sub, I_mul, I_lt, I_le, I_eq, if_pos, if_neg, if_true, if_false, decide_eq_true_eq]
  rw [show ((W.length + 1 : Nat) : Int) - 1 = (W.length : Int) by omega]
  simp (disch := omega) only [K.1.2.g, Option.bind_some, I_lit, I_neg, I_add, I_sub, I_mul, I_lt, I_le, I_eq, if_pos, if_neg, if_true, if_false, decide_eq_true_eq, ea]
theorem KX.putOff (K : KX h x r u w t T ru cd sk) {a : Int} {W : List Int} (e : u 10 = (W.length : Int)) (hw : hi w W) (l : (W.length : Int) < 400) : ∃ h', f1_putOff h (x + 24) (I a) = some h' ∧ KX h' x r (us u 10 ((a :: W).length : Int)) (up w W.length a) t T ru cd sk ∧ hi (up w W.length a) (a :: W) ∧ Fc x r h h' := by
  obtain ⟨h1, e1, P1, F1⟩ := K.1.wr (i := W.length) a (by omega) l
  obtain ⟨h2, e2, P2, F2⟩ := P1.s10 ((W.length : Int) + 1)
  have k := K.ofP P2 (F1.trans F2)
  refine ⟨h2, ?_, by rw [List.length_cons, show ((W.length + 1 : Nat) : Int) = (W.length : Int) + 1 by omega]; exact k.1, hi_push hw, k.2⟩
  simp (disch := omega) only [f1_putOff, K.1.o, K.1.f10, K.1.f9, K.1.2.n, e, Option.bind_some, I_lit, I_neg, I_add, I_sub, I_mul, I_lt, I_le, I_eq, if_pos, if_neg, if_true, if_false, decide_eq_true_eq, e1, P1.f10, e2]
/-- the codes that come: A's, one after the other, from n on -/
def apd (cd : Int → Int) (n : Int) : List Int → Int → Int
  | [] => cd
  | a :: A => apd (up cd n a) (n + 1) A
theorem apd_lt {j : Int} : ∀ {A : List Int} {cd : Int → Int} {n : Int}, j < n → apd cd n A j = cd j
  | [], _, _, _ => rfl
  | a :: A, cd, n, h => by
    unfold apd
    rw [apd_lt (by omega), up_ne (by omega)]
theorem apd_at : ∀ {A : List Int} {cd : Int → Int} {n : Int} {i : Nat} {y : Int}, A[i]? = some y → apd cd n A (n + i) = y
  | [], _, _, _, _, h => by simp at h
  | a :: A, cd, n, 0, y, h => by
    unfold apd
    simp at h
    rw [apd_lt (by omega), show n + ((0 : Nat) : Int) = n by omega, up_eq, h]
  | a :: A, cd, n, i + 1, y, h => by
    unfold apd
    have h' : A[i]? = some y := by simpa using h
    rw [show n + ((i + 1 : Nat) : Int) = n + 1 + i by omega]
    exact apd_at h'
theorem KX.down {l : Int} (l0 : 0 ≤ l) (l1 : l ≤ 6) {B : List Int} (hB : ∀ b B', B = b :: B' → clos b < l) (rB : ∀ b ∈ B, 0 ≤ b ∧ b ≤ 40) : ∀ (A : List Int) (f : Nat) (h : AH) (u : Nat → Int) (w : Int → Int) (ru : Nat → Int) (cd : Int → Int) (n : Int), KX h x r u w t T ru cd sk → (∀ a ∈ A, 0 ≤ a ∧ a ≤ 40 ∧ l ≤ clos a) → u 10 = ((A ++ B).length : Int) → hi w (A ++ B) → ru 3 = n → 0 ≤ n → n + (A ++ B).length ≤ 400 → A.length < f → ∃ h' u' ru', f1_emitDownTo_0 (x + 24) (I l) f h = some h' ∧ KX h' x r u' w t T ru' (apd cd n A) sk ∧ (∀ k, k ≠ 10 → k ≠ 11 → u' k = u k) ∧ u' 10 = (B.length : Int) ∧ u' 11 = u 11 - nots A ∧ (∀ k, k ≠ 3 → ru' k = ru k) ∧ ru' 3 = n + A.length ∧ hi w B ∧ Fc x r h h'
  | _, 0, _, _, _, _, _, _, _, _, _, _, _, _, _, hf => by omega
  | [], f + 1, h, u, w, ru, cd, n, K, hA, e, hw, en, n0, n1, hf => by
    refine ⟨h, u, ru, ?_, K, fun _ _ _ => rfl, by simpa using e, by simp [nots], fun _ _ => rfl, by simpa using en, hw, Fc.refl _ _ _⟩
    simp only [List.nil_append] at e hw n1
    rw [f1_emitDownTo_0, K.1.f10, Option.bind_some, e]
    simp only [I_lit]
    have l3 : (I (B.length : Int) ≤ I 0) = ((B.length : Int) ≤ 0) := I_le (by omega) (by omega) (by omega) (by omega)
    cases B with
    | nil => rw [if_pos (by rw [l3]; simp)]
    | cons b B =>
      have cb := hB b B rfl
      have rb := rB b (by simp)
      have cr := clos_rng b
      have l4 : (I (clos b) < I l) = (clos b < l) := I_lt (by omega) (by omega) (by omega) (by omega)
      rw [if_neg (by rw [l3]; simp only [List.length_cons]; omega), K.last e hw (by omega), Option.bind_some, closeness_of rb.1 rb.2, Option.bind_some, if_pos (by rw [l4]; exact cb)]
  | a :: A, f + 1, h, u, w, ru, cd, n, K, hA, e, hw, en, n0, n1, hf => by
    have ra := hA a (by simp)
    have cr := clos_rng a
    simp only [List.cons_append] at e hw n1
    have n2 := n1
    simp only [List.length_cons] at n2 hf
    have e' : u 10 = ((A ++ B).length : Int) + 1 := by rw [e, List.length_cons]; omega
    have l3 : (I (u 10) ≤ I 0) = (u 10 ≤ 0) := I_le (by omega) (by omega) (by omega) (by omega)
    have l4 : (I (clos a) < I l) = (clos a < l) := I_lt (by omega) (by omega) (by omega) (by omega)
    have l5 : (I a = I 20) = (a = 20) := I_eq (by omega) (by omega) (by omega) (by omega)
    have la := K.last e hw (by omega)
    rw [f1_emitDownTo_0, K.1.f10, Option.bind_some]
    simp only [I_lit]
    rw [if_neg (by rw [l3]; omega), la, Option.bind_some, closeness_of ra.1 ra.2.1, Option.bind_some, if_neg (by rw [l4]; omega), Option.bind_some]
    by_cases c : a = 20
    · obtain ⟨h1, e1, P1, F1⟩ := K.1.s11 (u 11 - 1)
      have K1 := K.ofP P1 F1
      have la1 := K1.1.last (a := a) (W := A ++ B) (by rw [us_ne (by omega)]; exact e) hw (by omega)
      obtain ⟨h2, e2, K2, F2⟩ := K1.1.emit a en n0 (by omega)
      obtain ⟨h3, e3, P3, F3⟩ := K2.1.s10 ((A ++ B).length : Int)
      have K3 := K2.ofP P3 F3
      obtain ⟨h4, u4, ru4, e4, K4, U4, V4, D4, R4, S4, H4, F4⟩ := KX.down l0 l1 hB rB A f h3 _ w _ _ (n + 1) K3.1 (fun b hb => hA b (by simp [hb])) us_eq hw.2 us_eq (by omega) (by omega) (by omega)
      refine ⟨h4, u4, ru4, ?_, K4, fun k k0 k1 => by rw [U4 k k0 k1, us_ne k0, us_ne k1], V4, ?_, fun k k0 => by rw [R4 k k0, us_ne k0], by rw [S4, List.length_cons]; omega, H4, ((K1.2.trans F2).trans K3.2).trans F4⟩
      · rw [if_pos (by rw [l5]; exact c), K.1.f11, Option.bind_some, I_sub, e1, Option.bind_some, la1, Option.bind_some, e2, Option.bind_some, K2.1.f10, Option.bind_some, us_ne (by omega), e', I_sub, show ((A ++ B).length : Int) + 1 - 1 = ((A ++ B).length : Int) by omega, e3, Option.bind_some, e4]
      · rw [D4, us_ne (by omega), us_eq]
        rw [nots_c, if_pos c]
        omega
    · obtain ⟨h2, e2, K2, F2⟩ := K.emit a en n0 (by omega)
      obtain ⟨h3, e3, P3, F3⟩ := K2.1.s10 ((A ++ B).length : Int)
      have K3 := K2.ofP P3 F3
      obtain ⟨h4, u4, ru4, e4, K4, U4, V4, D4, R4, S4, H4, F4⟩ := KX.down l0 l1 hB rB A f h3 _ w _ _ (n + 1) K3.1 (fun b hb => hA b (by simp [hb])) us_eq hw.2 us_eq (by omega) (by omega) (by omega)
      refine ⟨h4, u4, ru4, ?_, K4, fun k k0 k1 => by rw [U4 k k0 k1, us_ne k0], V4, ?_, fun k k0 => by rw [R4 k k0, us_ne k0], by rw [S4, List.length_cons]; omega, H4, (F2.trans K3.2).trans F4⟩
      · rw [if_neg (by rw [l5]; exact c), Option.bind_some, e2, Option.bind_some, K2.1.f10, Option.bind_some, e', I_sub, show ((A ++ B).length : Int) + 1 - 1 = ((A ++ B).length : Int) by omega, e3, Option.bind_some, e4]
      · rw [D4, us_ne (by omega)]
        rw [nots_c, if_neg c]
        omega
end
