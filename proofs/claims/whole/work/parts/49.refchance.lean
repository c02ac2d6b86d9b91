/-! CHANCE by a text: the reference -/
theorem I_and15 {a : Int} (h : 0 ≤ a) (h' : a < 2147483648) : I a &&& I 15 = I (a % 16) := by
  rw [I_nI h, pk_andN (by omega) 4 (by decide)]
  have e : a % 16 = ((a.toNat % 2 ^ 4 : Nat) : Int) := by omega
  rw [e]
  rfl
theorem I_shr4 {a : Int} (h : 0 ≤ a) (h' : a < 2147483648) : I a >>> (I 4 &&& I 31) = I (a / 16) := by
  rw [I_shr h h' (by omega) (by omega)]
  rfl
theorem one_of {h : AH} {s c : Int} {x y : Int64} (hc : (s = 2 ∧ c = 27) ∨ (s = 3 ∧ c = 28) ∨ (s = 4 ∧ c = 29) ∨ (s = 5 ∧ c = 22) ∨ (s = 6 ∧ c = 23) ∨ (s = 7 ∧ c = 24) ∨ (s = 8 ∧ c = 25) ∨ (s = 9 ∧ c = 26) ∨ (s = 11 ∧ c = 19) ∨ (s = 12 ∧ c = 18)) : f9_one h (I s) x y = some (jo c x y) := by
  unfold jo
  rcases hc with ⟨e1, e2⟩ | ⟨e1, e2⟩ | ⟨e1, e2⟩ | ⟨e1, e2⟩ | ⟨e1, e2⟩ | ⟨e1, e2⟩ | ⟨e1, e2⟩ | ⟨e1, e2⟩ | ⟨e1, e2⟩ | ⟨e1, e2⟩ <;> subst e1 e2 <;> simp (disch := omega) only [f9_one, Option.bind_some, I_lit, I_neg, I_add, I_sub, I_mul, I_lt, I_le, I_eq, if_pos, if_neg, if_true, if_false, decide_eq_true_eq]
  · by_cases k : y ≤ x
    · rw [if_pos k, if_neg (Int64.not_lt.mpr k)]
    · rw [if_neg k, if_pos (Int64.not_le.mp k)]
  · by_cases k : y < x
    · rw [if_pos k, if_neg (Int64.not_le.mpr k)]
    · rw [if_neg k, if_pos (Int64.not_lt.mp k)]
  · by_cases k : x = y
    · rw [if_pos k, if_pos k]
    · rw [if_neg k, if_neg k]
  · by_cases k : x < y
    · rw [if_pos k, if_neg (Int64.not_le.mpr k)]
    · rw [if_neg k, if_pos (Int64.not_lt.mp k)]
  · by_cases k : x ≤ y
    · rw [if_pos k, if_neg (Int64.not_lt.mpr k)]
    · rw [if_neg k, if_pos (Int64.not_le.mp k)]
theorem en_bin {x : Int} (h : sgk x) (h0 : x % 16 ≠ 0) (h1 : x % 16 ≠ 1) (h2 : x % 16 ≠ 10) : (x % 16 = 2 ∧ en x = 27) ∨ (x % 16 = 3 ∧ en x = 28) ∨ (x % 16 = 4 ∧ en x = 29) ∨ (x % 16 = 5 ∧ en x = 22) ∨ (x % 16 = 6 ∧ en x = 23) ∨ (x % 16 = 7 ∧ en x = 24) ∨ (x % 16 = 8 ∧ en x = 25) ∨ (x % 16 = 9 ∧ en x = 26) ∨ (x % 16 = 11 ∧ en x = 19) ∨ (x % 16 = 12 ∧ en x = 18) := by
  obtain ⟨g0, g1, g2, g3⟩ := h
  have hs : x % 16 = 2 ∨ x % 16 = 3 ∨ x % 16 = 4 ∨ x % 16 = 5 ∨ x % 16 = 6 ∨ x % 16 = 7 ∨ x % 16 = 8 ∨ x % 16 = 9 ∨ x % 16 = 11 ∨ x % 16 = 12 := by omega
  rcases hs with s | s | s | s | s | s | s | s | s | s
  · exact .inl ⟨s, by unfold en; rw [s]; rfl⟩
  · exact .inr (.inl ⟨s, by unfold en; rw [s]; rfl⟩)
  · exact .inr (.inr (.inl ⟨s, by unfold en; rw [s]; rfl⟩))
  · exact .inr (.inr (.inr (.inl ⟨s, by unfold en; rw [s]; rfl⟩)))
  · exact .inr (.inr (.inr (.inr (.inl ⟨s, by unfold en; rw [s]; rfl⟩))))
  · exact .inr (.inr (.inr (.inr (.inr (.inl ⟨s, by unfold en; rw [s]; rfl⟩)))))
  · exact .inr (.inr (.inr (.inr (.inr (.inr (.inl ⟨s, by unfold en; rw [s]; rfl⟩))))))
  · exact .inr (.inr (.inr (.inr (.inr (.inr (.inr (.inl ⟨s, by unfold en; rw [s]; rfl⟩)))))))
  · exact .inr (.inr (.inr (.inr (.inr (.inr (.inr (.inr (.inl ⟨s, by unfold en; rw [s]; rfl⟩))))))))
  · exact .inr (.inr (.inr (.inr (.inr (.inr (.inr (.inr (.inr (⟨s, by unfold en; rw [s]; rfl⟩)))))))))
theorem ug_ug (g : Nat → Int → Int64) (k : Nat) (x y : Int → Int64) : ug (ug g k x) k y = ug g k y := by
  funext j
  unfold ug
  by_cases c : j = k
  · rw [if_pos c, if_pos c]
  · rw [if_neg c, if_neg c, if_neg c]
section
variable {h h' : AH} {m : Nat} {v : Nat → Int} {se : Int64} {g : Nat → Int → Int} {gl : Nat → Int → Int64}
theorem MO.push (M : MO h m v se g gl) {n : Int} (x : Int64) (e : v 26 = n) (h0 : 0 ≤ n) (h1 : n < 64) : ∃ h', f9_push h m x = some h' ∧ MO h' m (us v 26 (n + 1)) se g (ug gl 15 (ul (gl 15) n x)) ∧ Fr m (m + 24) h h' := by
  obtain ⟨h1, e1, M1, F1⟩ := M.w15 (i := n) x h0 h1
  obtain ⟨h2, e2, M2, F2⟩ := M1.s26 (n + 1)
  refine ⟨h2, ?_, M2, F1.trans F2⟩
  simp (disch := omega) only [f9_push, M.o, M.f25, M.f26, e, Option.bind_some, I_lit, I_neg, I_add, I_sub, I_mul, I_lt, I_le, I_eq, if_pos, if_neg, if_true, if_false, decide_eq_true_eq, e1, M1.f26, e2]
theorem MO.pop (M : MO h m v se g gl) {n : Int} (e : v 26 = n) (h0 : 0 < n) (h1 : n ≤ 64) : ∃ h', f9_pop h m = some (gl 15 (n - 1), h') ∧ MO h' m (us v 26 (n - 1)) se g gl ∧ Fr m (m + 24) h h' := by
  obtain ⟨h2, e2, M2, F2⟩ := M.s26 (n - 1)
  refine ⟨h2, ?_, M2, F2⟩
  simp (disch := omega) only [f9_pop, M.o, M.f26, e, Option.bind_some, I_lit, I_neg, I_add, I_sub, I_mul, I_lt, I_le, I_eq, if_pos, if_neg, if_true, if_false, decide_eq_true_eq, e2, M2.f25, M2.f26, M2.r15, us_eq]
theorem MO.estep (M : MO h m v se g gl) {t i e : Int} {L : List Int64} (hl : v 26 = L.length) (ht : ho (gl 15) L) (hx : sgk (g 3 (400 * t + i))) (t0 : 0 ≤ t) (t1 : t < 14) (i0 : 0 ≤ i) (i1 : i < e) (e1 : e ≤ 400) {B B' : List Bool} (k : tk (en (g 3 (400 * t + i))) B = some B') (tb : ty B L) (hn : (L.length : Int) + (if decide (en (g 3 (400 * t + i)) < 10) = true then 1 else 0) ≤ 60) (f : Nat) : ∃ h' sk', f9_reckons_8 m (I t) (I e) (f + 1) h (I i) = f9_reckons_8 m (I t) (I e) f h' (I (i + 1)) ∧ MO h' m (us v 26 (sp (gl 16) (en (g 3 (400 * t + i))) L).length) se g (ug gl 15 sk') ∧ ho sk' (sp (gl 16) (en (g 3 (400 * t + i))) L) ∧ Fr m (m + 24) h h' := by
  have r3 := M.r3 (i := 400 * t + i) (by omega) (by omega)
  obtain ⟨x0, x1, x2, x3⟩ := hx
  have hx : sgk (g 3 (400 * t + i)) := ⟨x0, x1, x2, x3⟩
  generalize g 3 (400 * t + i) = x at *
  by_cases s0 : x % 16 = 0
  · have ee : en x = -1 - x / 16 := if_pos s0
    rw [ee] at hn ⊢
    rw [if_pos (by simp; omega)] at hn
    have es : sp (gl 16) (-1 - x / 16) L = J (x / 16) :: L := by
      unfold sp; rw [if_pos (by omega), show -1 - (-1 - x / 16) = x / 16 by omega]
    rw [es]
    obtain ⟨h1, e1, M1, F1⟩ := M.push (J (x / 16)) hl (by omega) (by omega)
    refine ⟨h1, _, ?_, M1, ho_push ht, F1⟩
    simp (disch := omega) only [f9_reckons_8, M.f3, Option.bind_some, I_lit, I_neg, I_add, I_sub, I_mul, I_lt, I_le, I_eq, if_pos, if_neg, if_true, if_false, decide_eq_true_eq, r3, I_and15, I_shr4, s0, I_toJ, e1]
  · by_cases s1 : x % 16 = 1
    · have ee : en x = x / 16 := by unfold en; rw [if_neg s0, if_pos s1]
      have x4 := x3 s1
      rw [ee] at hn ⊢
      rw [if_pos (by simp; omega)] at hn
      have es : sp (gl 16) (x / 16) L = gl 16 (x / 16) :: L := by
        unfold sp; rw [if_neg (by omega), if_pos x4]
      rw [es]
      obtain ⟨h1, e1, M1, F1⟩ := M.push (gl 16 (x / 16)) hl (by omega) (by omega)
      refine ⟨h1, _, ?_, M1, ho_push ht, F1⟩
      simp (disch := omega) only [f9_reckons_8, M.f3, Option.bind_some, I_lit, I_neg, I_add, I_sub, I_mul, I_lt, I_le, I_eq, if_pos, if_neg, if_true, if_false, decide_eq_true_eq, r3, I_and15, I_shr4, s1, M.f27, M.r16, e1]
    · by_cases s2 : x % 16 = 10
      · have ee : en x = 20 := by
          unfold en; rw [if_neg s0, if_neg s1, if_neg (by omega), if_neg (by omega), if_neg (by omega), if_pos s2]
        rw [ee] at hn k ⊢
        rcases tk_cases k with ⟨q, -⟩ | ⟨-, Y, e1, e2⟩ | ⟨q, -⟩ | ⟨q, -⟩ | ⟨q, -⟩
        · omega
        · subst e1
          obtain ⟨a, N, e, ha, t2⟩ := ty_cons tb
          subst e
          rw [if_neg (by simp)] at hn
          simp only [List.length_cons] at hl hn
          obtain ⟨h1, e1, M1, F1⟩ := M.pop hl (by omega) (by omega)
          obtain ⟨h2, e2, M2, F2⟩ := M1.push (n := N.length) (1 - a) (by rw [us_eq]; omega) (by omega) (by omega)
          have ex : gl 15 ((N.length + 1 : Nat) - 1 : Int) = a := by
            rw [show ((N.length + 1 : Nat) - 1 : Int) = (N.length : Int) by omega]; exact ht.1
          rw [ex] at e1
          have es : sp (gl 16) 20 (a :: N) = (1 - a) :: N := by
            unfold sp
            rw [if_neg (by omega), if_neg (by omega), if_pos rfl]
            rcases ha rfl with z | z <;> subst z <;> rfl
          rw [es]
          rw [us_us] at M2
          refine ⟨h2, _, ?_, M2, ho_push ht.2, F1.trans F2⟩
          simp (disch := omega) only [f9_reckons_8, M.f3, Option.bind_some, I_lit, I_neg, I_add, I_sub, I_mul, I_lt, I_le, I_eq, if_pos, if_neg, if_true, if_false, decide_eq_true_eq, r3, I_and15, I_shr4, s2, e1]
          simp only [e2, Option.bind_some]
        · omega
        · omega
        · omega
      · have eb := en_bin hx s0 s1 s2
        have hb : ∃ b1 b2 Y, B = b1 :: b2 :: Y := by
          rcases tk_cases k with ⟨q, -⟩ | ⟨q, -⟩ | ⟨-, Y, e1, -⟩ | ⟨-, Y, e1, -⟩ | ⟨-, Y, e1, -⟩
          · omega
          · omega
          · exact ⟨_, _, _, e1⟩
          · exact ⟨_, _, _, e1⟩
          · exact ⟨_, _, _, e1⟩
        obtain ⟨b1, b2, Y, e1⟩ := hb
        subst e1
        obtain ⟨y, M1', e, -, t2⟩ := ty_cons tb
        obtain ⟨z, N, e2, -, t3⟩ := ty_cons t2
        subst e e2
        rw [if_neg (by simp; omega)] at hn
        simp only [List.length_cons] at hl hn
        obtain ⟨h1, e1, M1, F1⟩ := M.pop hl (by omega) (by omega)
        obtain ⟨h2, e2, M2, F2⟩ := M1.pop (n := N.length + 1) (by rw [us_eq]; omega) (by omega) (by omega)
        obtain ⟨h3, e3, M3, F3⟩ := M2.push (n := N.length) (jo (en x) z y) (by rw [us_eq]; omega) (by omega) (by omega)
        have ey : gl 15 ((N.length + 1 + 1 : Nat) - 1 : Int) = y := by
          rw [show ((N.length + 1 + 1 : Nat) - 1 : Int) = ((N.length + 1 : Nat) : Int) by omega]; exact ht.1
        have ex : gl 15 ((N.length : Int) + 1 - 1) = z := by
          rw [show ((N.length : Int) + 1 - 1) = (N.length : Int) by omega]; exact ht.2.1
        rw [ey] at e1
        rw [ex] at e2
        have es : sp (gl 16) (en x) (y :: z :: N) = jo (en x) z y :: N := by
          unfold sp; rw [if_neg (by omega), if_neg (by omega), if_neg (by omega)]
        rw [es]
        rw [us_us, us_us] at M3
        refine ⟨h3, _, ?_, M3, ho_push ht.2.2, (F1.trans F2).trans F3⟩
        simp (disch := omega) only [f9_reckons_8, M.f3, Option.bind_some, I_lit, I_neg, I_add, I_sub, I_mul, I_lt, I_le, I_eq, if_pos, if_neg, if_true, if_false, decide_eq_true_eq, r3, I_and15, I_shr4, e1, e2, one_of eb, e3]
theorem MO.erun {t e : Int} (t0 : 0 ≤ t) (t1 : t < 14) (e1 : e ≤ 400) {wv : Int → Int64} {sg : Int → Int} (hg : ∀ j, g 3 (400 * t + j) = sg j) (hs : ∀ j, 0 ≤ j → j < e → sgk (sg j)) (b : Bool) : ∀ (n f : Nat) (h : AH) (v : Nat → Int) (gl : Nat → Int → Int64) (i : Int) (L : List Int64) (B : List Bool), MO h m v se g gl → gl 16 = wv → v 26 = L.length → ho (gl 15) L → ty B L → rt (eg sg) n i B = some [b] → 0 ≤ i → i + n = e → (L.length : Int) + cn (fun j => decide (eg sg j < 10)) n i ≤ 60 → n < f → ∃ h' v' gl', f9_reckons_8 m (I t) (I e) f h (I i) = some (hd0 (rn wv (eg sg) n i L), h') ∧ MO h' m v' se g gl' ∧ gl' 16 = wv ∧ (∀ j, j ≠ 26 → v' j = v j) ∧ Fr m (m + 24) h h' := by
  intro n
  induction n with
  | zero =>
    intro f h v gl i L B M hw hl ht tb k i0 i1 hn hf
    simp only [rt] at k
    cases k
    obtain ⟨a, N, e, -, t2⟩ := ty_cons tb
    rw [ty_nil t2] at e
    subst e
    obtain ⟨h1, e1, M1, F1⟩ := M.pop (n := 1) (by rw [hl]; rfl) (by omega) (by omega)
    have ex : gl 15 (1 - 1) = a := ht.1
    rw [ex] at e1
    refine ⟨h1, _, gl, ?_, M1, hw, fun j hj => us_ne hj, F1⟩
    cases f with
    | zero => omega
    | succ f =>
      simp (disch := omega) only [f9_reckons_8, Option.bind_some, I_lit, I_neg, I_add, I_sub, I_mul, I_lt, I_le, I_eq, if_pos, if_neg, if_true, if_false, decide_eq_true_eq, e1]
      rfl
  | succ n ih =>
    intro f h v gl i L B M hw hl ht tb k i0 i1 hn hf
    simp only [rt] at k
    simp only [cn] at hn
    have nn := cn_nn (fun j => decide (eg sg j < 10)) n (i + 1)
    cases e : tk (eg sg i) B with
    | none => rw [e] at k; cases k
    | some B1 =>
      rw [e] at k
      simp only [Option.bind_some] at k
      cases f with
      | zero => omega
      | succ f =>
        have hx := hs i i0 (by omega)
        have sl := sp_len (wv := wv) e tb
        have q0 : (L.length : Int) + (if decide (eg sg i < 10) = true then 1 else 0) ≤ 60 := by
          generalize (if decide (eg sg i < 10) = true then (1 : Int) else 0) = z at hn ⊢
          omega
        have q1 : ((sp wv (eg sg i) L).length : Int) + cn (fun j => decide (eg sg j < 10)) n (i + 1) ≤ 60 := by
          generalize (if decide (eg sg i < 10) = true then (1 : Int) else 0) = z at hn sl
          omega
        have es := M.estep hl ht (by rw [hg]; exact hx) t0 t1 i0 (by omega) e1 (by rw [hg]; exact e) tb (by rw [hg]; exact q0) f
        rw [hg, hw] at es
        obtain ⟨h1, sk1, e2, M1, H1, F1⟩ := es
        obtain ⟨h2, v2, gl2, e3, M2, W2, V2, F2⟩ := ih f h1 _ _ (i + 1) _ B1 M1 (by rw [ug_ne (by omega)]; exact hw) us_eq (by rw [ug_eq]; exact H1) (sp_ty e tb) k (by omega) (by omega) q1 (by omega)
        exact ⟨h2, v2, gl2, e2.trans e3, M2, W2, fun j hj => by rw [V2 j hj, us_ne hj], F1.trans F2⟩
theorem MO.reckons (M : MO h m v se g gl) {t b e : Int} (t0 : 0 ≤ t) (t1 : t < 14) (b0 : 0 ≤ b) (be : b ≤ e) (e1 : e ≤ 400) {sg : Int → Int} (hg : ∀ j, g 3 (400 * t + j) = sg j) (hs : ∀ j, 0 ≤ j → j < e → sgk (sg j)) {B : Bool} (k : rt (eg sg) (e - b).toNat b [] = some [B]) (hn : cn (fun j => decide (eg sg j < 10)) (e - b).toNat b ≤ 60) : ∃ h' v' gl', f9_reckons h m (I t) (I b) (I e) = some (hd0 (rn (gl 16) (eg sg) (e - b).toNat b []), h') ∧ MO h' m v' se g gl' ∧ gl' 16 = gl 16 ∧ (∀ j, j ≠ 26 → v' j = v j) ∧ Fr m (m + 24) h h' := by
  have fu := FU_big
  obtain ⟨h1, e1', M1, F1⟩ := M.s26 0
  obtain ⟨h2, v2, gl2, e2, M2, W2, V2, F2⟩ := MO.erun t0 t1 e1 hg hs B (e - b).toNat FU h1 _ gl b [] [] M1 rfl us_eq trivial trivial k b0 (by omega) (by simp only [List.length_nil]; omega) (by omega)
  refine ⟨h2, v2, gl2, ?_, M2, W2, fun j hj => by rw [V2 j hj, us_ne hj], F1.trans F2⟩
  simp (disch := omega) only [f9_reckons, M.o, Option.bind_some, I_lit, I_neg, I_add, I_sub, I_mul, I_lt, I_le, I_eq, if_pos, if_neg, if_true, if_false, decide_eq_true_eq, e1']
  exact e2
theorem heldv_of {x : Int64} {h : AH} : (if (0 : Int64) ≤ x then (if x ≤ (1000 : Int64) then some (x.toInt32, h) else some ((1000 : Int32), h)) else some ((0 : Int32), h)) = some (I (heldv x), h) := by
  obtain ⟨v, v0, v1, e⟩ := J_of x
  subst e
  unfold heldv
  rw [J_toInt v0 v1]
  simp (disch := omega) only [J_lit, I_lit, J_lt, J_le, J_toI]
  by_cases a : v < 0
  · rw [if_pos a, if_neg (show ¬ 0 ≤ v by omega)]
  · rw [if_neg a, if_pos (show 0 ≤ v by omega)]
    by_cases b : 1000 < v
    · rw [if_pos b, if_neg (show ¬ v ≤ 1000 by omega)]
    · rw [if_neg b, if_pos (show v ≤ 1000 by omega)]
theorem MO.c258 (M : MO h m v se g gl) {t c : Int} (t0 : 0 ≤ t) (t1 : t < 14) {sg cl cd : Int → Int} {sz nc : Int} (hg : ∀ j, g 3 (400 * t + j) = sg j) (hc : ∀ j, g 5 (48 * t + j) = cl j) (T : TX cd sz sg cl nc) (c0 : 0 ≤ c) (c1 : c < nc) : ∃ h' v' gl', f9_chanceOf_258 h m (I t) (I (48 * t + 4 * c)) = some (I (heldv (hd0 (rn (gl 16) (eg sg) (cl (4 * c + 1) - cl (4 * c)).toNat (cl (4 * c)) []))), h') ∧ MO h' m v' se g gl' ∧ gl' 16 = gl 16 ∧ (∀ j, j ≠ 26 → v' j = v j) ∧ Fr m (m + 24) h h' := by
  obtain ⟨s0, s1, s2, s3, s4, tc, ts, tn⟩ := T
  obtain ⟨x0, x1, x2, x3, x4, x5, x6, x7, x8⟩ := tc c c0 c1
  have cns := cn_sub (q := fun j => decide (eg sg j < 10)) (N := TE cl nc) (i := cl (4 * c)) (n := (cl (4 * c + 1) - cl (4 * c)).toNat) x0 (by omega)
  have g0 : g 5 (48 * t + 4 * c) = cl (4 * c) := hc _
  have g1 : g 5 (48 * t + 4 * c + 1) = cl (4 * c + 1) := by rw [← hc, Int.add_assoc]
  obtain ⟨h1, v1, gl1, e1, M1, W1, V1, F1⟩ := M.reckons t0 t1 x0 x2 (by omega) hg (fun j j0 j1 => ts j j0 (by omega)) x6 (by omega)
  refine ⟨h1, v1, gl1, ?_, M1, W1, V1, F1⟩
  rw [f9_chanceOf_258]
  simp (disch := omega) only [M.f5, M.r5, g0, g1, Option.bind_some, I_lit, I_neg, I_add, I_sub, I_mul, I_lt, I_le, I_eq, if_pos, if_neg, if_true, if_false, decide_eq_true_eq, e1]
  exact heldv_of
theorem MO.c193 {t : Int} (t0 : 0 ≤ t) (t1 : t < 14) {sg cl cd : Int → Int} {sz nc : Int} {wv : Int → Int64} (hg : ∀ j, g 3 (400 * t + j) = sg j) (hc : ∀ j, g 5 (48 * t + j) = cl j) (hn : g 6 t = nc) (T : TX cd sz sg cl nc) : ∀ (n f : Nat) (h : AH) (v : Nat → Int) (gl : Nat → Int → Int64) (c : Int), MO h m v se g gl → gl 16 = wv → 0 ≤ c → c + n = nc → n < f → ∃ h' v' gl', f9_chanceOf_193 m (I t) f h (I c) = some (I (ctv wv sg cl n c), h') ∧ MO h' m v' se g gl' ∧ gl' 16 = wv ∧ (∀ j, j ≠ 26 → v' j = v j) ∧ Fr m (m + 24) h h' := by
  have T' := T
  obtain ⟨s0, s1, s2, s3, s4, tc, ts, tn⟩ := T'
  intro n
  induction n with
  | zero =>
    intro f h v gl c M hw c0 c1 hf
    refine ⟨h, v, gl, ?_, M, hw, fun _ _ => rfl, Fr.refl _ _ _⟩
    cases f with
    | zero => omega
    | succ f =>
      simp (disch := omega) only [f9_chanceOf_193, M.f6, M.r6, hn, Option.bind_some, I_lit, I_neg, I_add, I_sub, I_mul, I_lt, I_le, I_eq, if_pos, if_neg, if_true, if_false, decide_eq_true_eq, ctv]
  | succ n ih =>
    intro f h v gl c M hw c0 c1 hf
    cases f with
    | zero => omega
    | succ f =>
      obtain ⟨x0, x1, x2, x3, x4, x5, x6, x7, x8⟩ := tc c c0 (by omega)
      have g2 : g 5 (48 * t + 4 * c + 2) = cl (4 * c + 2) := by rw [← hc, Int.add_assoc]
      have g3 : g 5 (48 * t + 4 * c + 3) = cl (4 * c + 3) := by rw [← hc, Int.add_assoc]
      simp only [ctv]
      rcases x5 with ⟨y1, y2⟩ | ⟨y1, y2⟩
      · rw [if_pos (.inl y1)]
        obtain ⟨h1, v1, gl1, e1, M1, W1, V1, F1⟩ := M.c258 t0 t1 hg hc T c0 (by omega)
        rw [hw] at e1 W1
        refine ⟨h1, v1, gl1, ?_, M1, W1, V1, F1⟩
        simp (disch := omega) only [f9_chanceOf_193, M.f6, M.r6, hn, M.f5, M.r5, g2, y1, Option.bind_some, I_lit, I_neg, I_add, I_sub, I_mul, I_lt, I_le, I_eq, if_pos, if_neg, if_true, if_false, decide_eq_true_eq, e1]
      · have cns := cn_sub (q := fun j => decide (eg sg j < 10)) (N := TE cl nc) (i := cl (4 * c + 1)) (n := (cl (4 * c + 3) - cl (4 * c + 1)).toNat) (by omega) (by omega)
        obtain ⟨h1, v1, gl1, e1, M1, W1, V1, F1⟩ := M.reckons (b := cl (4 * c + 1)) (e := cl (4 * c + 3)) t0 t1 (by omega) (by omega) (by omega) hg (fun j j0 j1 => ts j j0 (by omega)) y2 (by omega)
        rw [hw] at e1 W1
        have step : f9_chanceOf_193 m (I t) (f + 1) h (I c) = if hd0 (rn wv (eg sg) (cl (4 * c + 3) - cl (4 * c + 1)).toNat (cl (4 * c + 1)) []) = 0 then f9_chanceOf_193 m (I t) f h1 (I (c + 1)) else f9_chanceOf_258 h1 m (I t) (I (48 * t + 4 * c)) := by
          have q2 : ¬ cl (4 * c + 1) < 0 := by omega
          simp (disch := omega) only [f9_chanceOf_193, M.f6, M.r6, hn, M.f5, M.r5, g2, g3, y1, Option.bind_some, I_lit, I_neg, I_add, I_sub, I_mul, I_lt, I_le, I_eq, if_pos, if_neg, if_true, if_false, decide_eq_true_eq, e1]
        rw [step]
        by_cases z : hd0 (rn wv (eg sg) (cl (4 * c + 3) - cl (4 * c + 1)).toNat (cl (4 * c + 1)) []) = 0
        · rw [if_pos z, if_neg (by intro y; rcases y with y | y; omega; exact y z)]
          obtain ⟨h2, v2, gl2, e2, M2, W2, V2, F2⟩ := ih f h1 v1 gl1 (c + 1) M1 W1 (by omega) (by omega) (by omega)
          exact ⟨h2, v2, gl2, e2, M2, W2, fun j hj => by rw [V2 j hj, V1 j hj], F1.trans F2⟩
        · rw [if_neg z, if_pos (.inr z)]
          obtain ⟨h2, v2, gl2, e2, M2, W2, V2, F2⟩ := M1.c258 t0 t1 hg hc T c0 (by omega)
          rw [W1] at e2 W2
          exact ⟨h2, v2, gl2, e2, M2, W2, fun j hj => by rw [V2 j hj, V1 j hj], F1.trans F2⟩
end
