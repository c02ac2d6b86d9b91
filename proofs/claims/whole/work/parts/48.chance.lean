/-! CHANCE by a text: the class's codes and the reference's signs say the same -/
def en (x : Int) : Int := if x % 16 = 0 then -1 - x / 16 else if x % 16 = 1 then x / 16 else if x % 16 = 2 then 27 else if x % 16 = 3 then 28 else if x % 16 = 4 then 29 else if x % 16 = 10 then 20 else if x % 16 = 11 then 19 else if x % 16 = 12 then 18 else 17 + x % 16
/-- a sign as the reference writes it -/
def sgk (x : Int) : Prop := 0 ≤ x ∧ x < 1600000 ∧ x % 16 ≤ 12 ∧ (x % 16 = 1 → x / 16 < 10)
def TE (cl : Int → Int) (c : Int) : Int := if c = 0 then 0 else cl (4 * (c - 1) + 3)
def eg (sg : Int → Int) : Int → Int := fun j => en (sg j)
def TX (cd : Int → Int) (sz : Int) (sg cl : Int → Int) (nc : Int) : Prop :=
  0 ≤ nc ∧ nc ≤ 12 ∧ sz = TE cl nc + nc ∧ sz ≤ 400 ∧ 0 ≤ TE cl nc ∧
  (∀ c, 0 ≤ c → c < nc → 0 ≤ cl (4 * c) ∧ cl (4 * c) = TE cl c ∧ cl (4 * c) ≤ cl (4 * c + 1) ∧ cl (4 * c + 1) ≤ cl (4 * c + 3) ∧ cl (4 * c + 3) ≤ TE cl nc ∧
    ((cl (4 * c + 2) = -1 ∧ cl (4 * c + 3) = cl (4 * c + 1)) ∨ (cl (4 * c + 2) = cl (4 * c + 1) ∧ rt (eg sg) (cl (4 * c + 3) - cl (4 * c + 1)).toNat (cl (4 * c + 1)) [] = some [true])) ∧
    rt (eg sg) (cl (4 * c + 1) - cl (4 * c)).toNat (cl (4 * c)) [] = some [false] ∧ (∀ j, cl (4 * c) ≤ j → j < cl (4 * c + 3) → cd (j + c) = eg sg j) ∧ cd (cl (4 * c + 3) + c) = (if cl (4 * c + 2) = -1 then 10 else 17)) ∧
  (∀ j, 0 ≤ j → j < TE cl nc → sgk (sg j)) ∧ cn (fun j => decide (eg sg j < 10)) (TE cl nc).toNat 0 ≤ 60
def ctv (wv : Int → Int64) (sg cl : Int → Int) : Nat → Int → Int
  | 0, _ => 500
  | n + 1, c => if cl (4 * c + 2) = -1 ∨ hd0 (rn wv (eg sg) (cl (4 * c + 3) - cl (4 * c + 1)).toNat (cl (4 * c + 1)) []) ≠ 0 then heldv (hd0 (rn wv (eg sg) (cl (4 * c + 1) - cl (4 * c)).toNat (cl (4 * c)) [])) else ctv wv sg cl n (c + 1)
theorem heldv_rng (x : Int64) : 0 ≤ heldv x ∧ heldv x ≤ 1000 := by
  unfold heldv
  by_cases a : x < 0
  · rw [if_pos a]; omega
  · rw [if_neg a]
    by_cases b : 1000 < x
    · rw [if_pos b]; omega
    · rw [if_neg b]
      have a1 : ¬ x.toInt < 0 := fun z => a (Int64.lt_iff_toInt_lt.mpr z)
      have b1 : ¬ 1000 < x.toInt := fun z => b (Int64.lt_iff_toInt_lt.mpr z)
      omega
theorem ctv_rng (wv : Int → Int64) (sg cl : Int → Int) : ∀ (n : Nat) (c : Int), 0 ≤ ctv wv sg cl n c ∧ ctv wv sg cl n c ≤ 1000 := by
  intro n
  induction n with
  | zero => intro c; simp [ctv]
  | succ n ih =>
    intro c
    simp only [ctv]
    split
    · exact heldv_rng _
    · exact ih _
theorem J_self (x : Int64) : J x.toInt = x := Int64.ofInt_toInt x
theorem held_of {h : AH} {x : Int64} : f3_held h x = some (I (heldv x)) := by
  obtain ⟨v, v0, v1, e⟩ := J_of x
  subst e
  unfold heldv
  rw [J_toInt v0 v1]
  simp (disch := omega) only [f3_held, J_lit, J_lt, Option.bind_some]
  by_cases a : v < 0
  · rw [if_pos a, if_pos (show v < 1000 by omega)]
    simp (disch := omega) only [J_lt, if_pos, J_toI]
  · rw [if_neg a]
    by_cases b : 1000 < v
    · rw [if_pos b, if_neg (show ¬ v < 1000 by omega)]
      simp (disch := omega) only [J_lt, if_neg, J_toI]
    · rw [if_neg b]
      by_cases c : v < 1000
      · rw [if_pos c]
        simp (disch := omega) only [J_lt, if_neg, J_toI]
      · rw [if_neg c]
        simp (disch := omega) only [J_lt, if_neg, J_toI]
        congr 2
        omega
theorem rn_add (wv : Int → Int64) (cd : Int → Int) : ∀ (a b : Nat) (i : Int) (L : List Int64), rn wv cd (a + b) i L = rn wv cd b (i + a) (rn wv cd a i L) := by
  intro a
  induction a with
  | zero => intro b i L; simp [rn]
  | succ a ih =>
    intro b i L
    rw [show a + 1 + b = (a + b) + 1 by omega]
    simp only [rn]
    rw [ih, show i + ((a + 1 : Nat) : Int) = i + 1 + a by omega]
theorem cn_sub {q : Int → Bool} {N : Int} {i : Int} {n : Nat} (i0 : 0 ≤ i) (h : i + n ≤ N) : cn q n i ≤ cn q N.toNat 0 := by
  have e : N.toNat = i.toNat + (n + (N - i - n).toNat) := by omega
  rw [e, cn_add, cn_add, show (0 : Int) + (i.toNat : Nat) = i by omega]
  have a := cn_nn q i.toNat 0
  have b := cn_nn q (N - i - n).toNat (i + n)
  omega
theorem cn_shift2 {q q' : Int → Bool} {s : Int} : ∀ (k : Nat) (i : Int), (∀ j, i ≤ j → j < i + k → q' (j + s) = q j) → cn q' k (i + s) = cn q k i := by
  intro k
  induction k with
  | zero => intro i _; rfl
  | succ k ih =>
    intro i hq
    simp only [cn]
    rw [hq i (by omega) (by omega), show i + s + 1 = i + 1 + s by omega, ih (i + 1) (fun j h1 h2 => hq j (by omega) (by omega))]
theorem en_rng {x : Int} (h : sgk x) : -100001 ≤ en x ∧ en x ≤ 29 := by
  obtain ⟨h0, h1, h2, h3⟩ := h
  unfold en
  split
  · omega
  · split
    · have := h3 (by omega); omega
    · split
      · omega
      · split
        · omega
        · split
          · omega
          · split
            · omega
            · split
              · omega
              · split <;> omega
section
variable {h h' : AH} {a : Nat} {u : Nat → Int} {cd : Int → Int} {sk : Int → Int64}
theorem TE_s (cl : Int → Int) {c : Int} (h : 0 ≤ c) : TE cl (c + 1) = cl (4 * c + 3) := by
  unfold TE
  rw [if_neg (by omega), show c + 1 - 1 = c by omega]
theorem RD.loop {w : Nat} {ww : Int → Int} (wr : ∀ k, 0 ≤ k → k < 10 → -2147483648 ≤ ww k ∧ ww k < 2147483648) (dw : w + 1 ≤ a ∨ a + 3 ≤ w) {sz nc : Int} {sg cl : Int → Int} (T : TX cd sz sg cl nc) (cr : ∀ j, 0 ≤ j → j < sz → -2147483647 ≤ cd j ∧ cd j < 2147483648) : ∀ (n f : Nat) (h : AH) (u : Nat → Int) (sk : Int → Int64) (c : Int), AI h w 0 10 ww → RD h a u cd sk → u 3 = sz → u 5 = 0 → 0 ≤ c → c + n = nc → sz - (TE cl c + c) < f → ∃ h' u' sk', f3_chanceBy_7 a w f h (I (TE cl c + c)) = some (I (ctv (fun k => J (ww k)) sg cl n c), h') ∧ RD h' a u' cd sk' ∧ (∀ j, j ≠ 5 → u' j = u j) ∧ Fr a (a + 3) h h' := by
  obtain ⟨t0, t1, t2, t3, t4, tc, ts, tn⟩ := T
  intro n
  induction n with
  | zero =>
    intro f h u sk c hw D e3 e5 c0 cn' hf
    have ec : c = nc := by omega
    subst ec
    refine ⟨h, u, sk, ?_, D, fun _ _ => rfl, Fr.refl _ _ _⟩
    cases f with
    | zero => omega
    | succ f =>
      simp (disch := omega) only [f3_chanceBy_7, D.f3, e3, Option.bind_some, I_lit, I_neg, I_add, I_sub, I_mul, I_lt, I_le, I_eq, if_pos, if_neg, if_true, if_false, decide_eq_true_eq, ctv]
  | succ n ih =>
    intro f h u sk c hw D e3 e5 c0 cn' hf
    obtain ⟨x0, x1, x2, x3, x4, x5, x6, x7, x8⟩ := tc c c0 (by omega)
    have rs : rt cd (cl (4 * c + 1) - cl (4 * c)).toNat (cl (4 * c) + c) [] = some [false] := by
      rw [rt_cong (cd' := eg sg) _ _ _ (fun j j0 j1 => x7 j j0 (by omega))]; exact x6
    have ns : rn (fun k => J (ww k)) cd (cl (4 * c + 1) - cl (4 * c)).toNat (cl (4 * c) + c) [] = rn (fun k => J (ww k)) (eg sg) (cl (4 * c + 1) - cl (4 * c)).toNat (cl (4 * c)) [] := rn_cong _ _ _ (fun j j0 j1 => x7 j j0 (by omega))
    have tyv := rn_ty (wv := fun k => J (ww k)) _ _ _ _ [] x6 trivial
    obtain ⟨v, M, ev, -, tM⟩ := ty_cons tyv
    rw [ty_nil tM] at ev
    rw [← x1] at hf ⊢
    have ih' := ih
    rcases x5 with ⟨y1, y2⟩ | ⟨y1, y2⟩
    · rw [if_pos y1] at x8
      have cnb : cn (fun j => decide (cd j < 10)) (cl (4 * c + 1) - cl (4 * c)).toNat (cl (4 * c) + c) = cn (fun j => decide (eg sg j < 10)) (cl (4 * c + 1) - cl (4 * c)).toNat (cl (4 * c)) := cn_shift2 _ _ (fun j j0 j1 => by rw [x7 j j0 (by omega)])
      have cns := cn_sub (q := fun j => decide (eg sg j < 10)) (N := TE cl nc) (i := cl (4 * c)) (n := (cl (4 * c + 1) - cl (4 * c)).toNat) x0 (by omega)
      obtain ⟨h1, u1, sk1, e1, W1, D1, U1, V1, H1, F1⟩ := RD.run wr dw t3 cr (cl (4 * c + 1) - cl (4 * c)).toNat (f - (cl (4 * c + 1) - cl (4 * c)).toNat) h u sk (cl (4 * c) + c) [] [] _ hw D e3 (by rw [e5]; rfl) trivial trivial rs (by omega) (by omega) (by rw [cnb]; simp only [List.length_nil]; omega)
      rw [ns, ev] at V1 H1
      obtain ⟨h2, e2, D2, F2⟩ := D1.pop (n := 1) (by rw [V1]; rfl) (by omega) (by omega)
      have ex : sk1 (1 - 1) = v := H1.1
      rw [ex] at e2
      refine ⟨h2, _, sk1, ?_, D2, fun j hj => by rw [us_ne hj, U1 j hj], F1.trans F2⟩
      rw [show f = f - (cl (4 * c + 1) - cl (4 * c)).toNat + (cl (4 * c + 1) - cl (4 * c)).toNat by omega, e1, show cl (4 * c) + c + ((cl (4 * c + 1) - cl (4 * c)).toNat : Nat) = cl (4 * c + 3) + c by omega]
      simp only [ctv]
      rw [if_pos (.inl y1), ev]
      have f1 : f - (cl (4 * c + 1) - cl (4 * c)).toNat = (f - (cl (4 * c + 1) - cl (4 * c)).toNat - 1) + 1 := by omega
      rw [f1]
      simp (disch := omega) only [f3_chanceBy_7, D1.f3, D1.f2, D1.2.1.n, D1.2.1.g, U1 3, e3, x8, Option.bind_some, I_lit, I_neg, I_add, I_sub, I_mul, I_lt, I_le, I_eq, if_pos, if_neg, if_true, if_false, decide_eq_true_eq, e2, held_of]
      rfl
    · have y3 : cl (4 * c + 2) ≠ -1 := by omega
      rw [if_neg y3] at x8
      have n12 : (cl (4 * c + 3) - cl (4 * c)).toNat = (cl (4 * c + 1) - cl (4 * c)).toNat + (cl (4 * c + 3) - cl (4 * c + 1)).toNat := by omega
      have i12 : cl (4 * c) + c + ((cl (4 * c + 1) - cl (4 * c)).toNat : Nat) = cl (4 * c + 1) + c := by omega
      have rq : rt cd (cl (4 * c + 3) - cl (4 * c + 1)).toNat (cl (4 * c + 1) + c) [] = some [true] := by
        rw [rt_cong (cd' := eg sg) _ _ _ (fun j j0 j1 => x7 j (by omega) (by omega))]; exact y2
      have nq : rn (fun k => J (ww k)) cd (cl (4 * c + 3) - cl (4 * c + 1)).toNat (cl (4 * c + 1) + c) [] = rn (fun k => J (ww k)) (eg sg) (cl (4 * c + 3) - cl (4 * c + 1)).toNat (cl (4 * c + 1)) [] := rn_cong _ _ _ (fun j j0 j1 => x7 j (by omega) (by omega))
      have tyq := rn_ty (wv := fun k => J (ww k)) _ _ _ _ [] y2 trivial
      obtain ⟨t, M2, eq_, -, tM2⟩ := ty_cons tyq
      rw [ty_nil tM2] at eq_
      have rall : rt cd (cl (4 * c + 3) - cl (4 * c)).toNat (cl (4 * c) + c) [] = some [true, false] := by
        rw [n12, rt_add, rs, Option.bind_some, i12]
        exact rt_frame (X := [false]) _ _ _ _ rq
      have nall : rn (fun k => J (ww k)) cd (cl (4 * c + 3) - cl (4 * c)).toNat (cl (4 * c) + c) [] = [t, v] := by
        rw [n12, rn_add, i12, ns, ev]
        have := rn_frame (wv := fun k => J (ww k)) (X := [v]) _ _ _ _ [] rq trivial
        rw [List.nil_append] at this
        rw [this, nq, eq_]
        rfl
      have cnb : cn (fun j => decide (cd j < 10)) (cl (4 * c + 3) - cl (4 * c)).toNat (cl (4 * c) + c) = cn (fun j => decide (eg sg j < 10)) (cl (4 * c + 3) - cl (4 * c)).toNat (cl (4 * c)) := cn_shift2 _ _ (fun j j0 j1 => by rw [x7 j j0 (by omega)])
      have cns := cn_sub (q := fun j => decide (eg sg j < 10)) (N := TE cl nc) (i := cl (4 * c)) (n := (cl (4 * c + 3) - cl (4 * c)).toNat) x0 (by omega)
      obtain ⟨h1, u1, sk1, e1, W1, D1, U1, V1, H1, F1⟩ := RD.run wr dw t3 cr (cl (4 * c + 3) - cl (4 * c)).toNat (f - (cl (4 * c + 3) - cl (4 * c)).toNat) h u sk (cl (4 * c) + c) [] [] _ hw D e3 (by rw [e5]; rfl) trivial trivial rall (by omega) (by omega) (by rw [cnb]; simp only [List.length_nil]; omega)
      rw [nall] at V1 H1
      obtain ⟨h2, e2, D2, F2⟩ := D1.pop (n := 2) (by rw [V1]; rfl) (by omega) (by omega)
      obtain ⟨h3, e3', D3, F3⟩ := D2.pop (n := 1) us_eq (by omega) (by omega)
      have ex : sk1 (2 - 1) = t := H1.1
      have ey : sk1 (1 - 1) = v := H1.2.1
      rw [ex] at e2
      rw [ey] at e3'
      have f1 : f - (cl (4 * c + 3) - cl (4 * c)).toNat = (f - (cl (4 * c + 3) - cl (4 * c)).toNat - 1) + 1 := by omega
      have step : f3_chanceBy_7 a w f h (I (cl (4 * c) + c)) = if t = 0 then f3_chanceBy_7 a w (f - (cl (4 * c + 3) - cl (4 * c)).toNat - 1) h3 (I (cl (4 * c + 3) + c + 1)) else some (I (heldv v), h3) := by
        rw [show f = f - (cl (4 * c + 3) - cl (4 * c)).toNat + (cl (4 * c + 3) - cl (4 * c)).toNat by omega, e1, show cl (4 * c) + c + ((cl (4 * c + 3) - cl (4 * c)).toNat : Nat) = cl (4 * c + 3) + c by omega, f1]
        have tt : ∀ z : Int64, (z = (0 : Int64)) = (z = J 0) := fun _ => rfl
        by_cases z : t = 0
        · rw [if_pos z]
          subst z
          simp (disch := omega) only [f3_chanceBy_7, D1.f3, D1.f2, D1.2.1.n, D1.2.1.g, U1 3, e3, x8, Option.bind_some, I_lit, I_neg, I_add, I_sub, I_mul, I_lt, I_le, I_eq, if_pos, if_neg, if_true, if_false, decide_eq_true_eq, e2, e3']
          congr 1
          omega
        · rw [if_neg z]
          simp (disch := omega) only [f3_chanceBy_7, D1.f3, D1.f2, D1.2.1.n, D1.2.1.g, U1 3, e3, x8, Option.bind_some, I_lit, I_neg, I_add, I_sub, I_mul, I_lt, I_le, I_eq, if_pos, if_neg, if_true, if_false, decide_eq_true_eq, e2, if_neg z, e3', held_of]
      rw [step]
      simp only [ctv]
      rw [eq_, ev]
      by_cases z : t = 0
      · rw [if_pos z, if_neg (by subst z; simp [hd0, y3])]
        obtain ⟨h4, u4, sk4, e4, D4, U4, F4⟩ := ih (f - (cl (4 * c + 3) - cl (4 * c)).toNat - 1) h3 _ sk1 (c + 1) ((W1.at (F2.2 w (by omega))).at (F3.2 w (by omega))) D3 (by rw [us_ne (by omega), us_ne (by omega), U1 3 (by omega)]; exact e3) us_eq (by omega) (by omega) (by rw [TE_s cl c0]; omega)
        rw [TE_s cl c0] at e4
        refine ⟨h4, u4, sk4, ?_, D4, fun j hj => by rw [U4 j hj, us_ne hj, us_ne hj, U1 j hj], ((F1.trans F2).trans F3).trans F4⟩
        rw [← e4, Int.add_assoc]
      · rw [if_neg z, if_pos (.inr z)]
        exact ⟨h3, _, sk1, rfl, D3, fun j hj => by rw [us_ne hj, us_ne hj, U1 j hj], (F1.trans F2).trans F3⟩
theorem RD.chance (D : RD h a u cd sk) {w : Nat} {ww : Int → Int} (hw : AI h w 0 10 ww) (wr : ∀ k, 0 ≤ k → k < 10 → -2147483648 ≤ ww k ∧ ww k < 2147483648) (dw : w + 1 ≤ a ∨ a + 3 ≤ w) {sz nc : Int} {sg cl : Int → Int} (e3 : u 3 = sz) (T : TX cd sz sg cl nc) (cr : ∀ j, 0 ≤ j → j < sz → -2147483647 ≤ cd j ∧ cd j < 2147483648) : ∃ h' u' sk', f3_chanceBy h a w = some (I (ctv (fun k => J (ww k)) sg cl nc.toNat 0), h') ∧ RD h' a u' cd sk' ∧ (∀ j, j ≠ 5 → u' j = u j) ∧ Fr a (a + 3) h h' := by
  have fu := FU_big
  have T' := T
  obtain ⟨t0, t1, t2, t3, t4, tc, ts, tn⟩ := T'
  obtain ⟨h1, e1, D1, F1⟩ := D.s5 0
  have z : TE cl 0 = 0 := if_pos rfl
  obtain ⟨h2, u2, sk2, e2, D2, U2, F2⟩ := RD.loop wr dw T cr nc.toNat FU h1 _ sk 0 (hw.at (F1.2 w (by omega))) D1 (by rw [us_ne (by omega)]; exact e3) us_eq (by omega) (by omega) (by rw [z]; omega)
  rw [z] at e2
  refine ⟨h2, u2, sk2, ?_, D2, fun j hj => by rw [U2 j hj, us_ne hj], F1.trans F2⟩
  simp (disch := omega) only [f3_chanceBy, D.o, Option.bind_some, I_lit, I_neg, I_add, I_sub, I_mul, I_lt, I_le, I_eq, if_pos, if_neg, if_true, if_false, decide_eq_true_eq, e1]
  exact e2
end
