/-! SOONEST: the reference's way through all orders -/
section
variable {h h' : AH} {m : Nat} {v : Nat → Int} {se : Int64} {g : Nat → Int → Int} {gl : Nat → Int → Int64} {n : Nat} {nn tk ch : Int → Int}
theorem wai_alg (s t a p c w : Int) : (1000 * s + t * a) * p + (a * c) * w = s * (p * 1000) + a * (t * p + c * w) := by
  simp only [Int.add_mul, Int.mul_add, Int.mul_assoc, Int.mul_comm, Int.mul_left_comm, Int.add_assoc, Int.add_comm, Int.add_left_comm]
theorem fromL_drop {P : List Int} {i : Nat} (hi : i < P.length) : P.drop i = fromL P i :: P.drop (i + 1) := by
  rw [List.drop_eq_getElem_cons hi]
  unfold fromL
  rw [Int.toNat_natCast, List.getD_eq_getElem?_getD, List.getElem?_eq_getElem hi]
  rfl
/-- takes and chances of the order's places -/
def TC (g : Nat → Int → Int) (n : Nat) (nn tk ch : Int → Int) : Prop := ∀ a : Int, 0 ≤ a → a < n → 0 ≤ nn a ∧ nn a < 8 ∧ g 7 (nn a) = tk a ∧ g 21 (nn a) = ch a
theorem MO.waitLoop (M : MO h m v se g gl) (n6 : n ≤ 6) (X : TC g n nn tk ch) (t0 : ∀ a, 0 ≤ tk a ∧ tk a ≤ 99) (c0 : ∀ a, 0 ≤ ch a ∧ ch a ≤ 1000) {P : List Int} (R : RLn n nn (g 19) (fromL P)) (lp : P.length = n) : ∀ (d i f : Nat) (s a : Int), i + d = n → d < f → (i = 0 → s = 0) → f9_waitOf_8 h m (I (n : Int)) f (J s) (J a) (I (i : Int)) = some (J (s * 1000 ^ d + a * wai tk ch (P.drop i)))
  | _, _, 0, _, _, _, hf, _ => by omega
  | 0, i, f + 1, s, a, e, hf, h0 => by
    have l : (I (n : Int) ≤ I (i : Int)) = ((n : Int) ≤ i) := I_le (by omega) (by omega) (by omega) (by omega)
    rw [f9_waitOf_8, if_pos (by rw [l]; omega), List.drop_eq_nil_of_le (by omega)]
    simp [wai]
  | d + 1, i, f + 1, s, a, e, hf, h0 => by
    have l : (I (n : Int) ≤ I (i : Int)) = ((n : Int) ≤ i) := I_le (by omega) (by omega) (by omega) (by omega)
    have l0 : (I (i : Int) ≤ I 0) = ((i : Int) ≤ 0) := I_le (by omega) (by omega) (by omega) (by omega)
    have r := R i (by omega) (by omega)
    have x := X (fromL P i) r.2.1 r.2.2
    have tr := t0 (fromL P i)
    have cr := c0 (fromL P i)
    have dl : (P.drop (i + 1)).length = d := by rw [List.length_drop]; omega
    have step : ∀ s1 : Int, s1 = s → f9_waitOf_27 (fun v2 v4 v6 => f9_waitOf_8 h m (I (n : Int)) f v2 v4 v6) h m (I (n : Int)) (J a) (I (i : Int)) (J 1000) (J s1) = some (J (s * 1000 ^ (d + 1) + a * wai tk ch (P.drop i))) := fun s1 es => by
      subst es
      rw [f9_waitOf_27, M.f7, Option.bind_some, M.f31, Option.bind_some, M.r19 (by omega) (by omega), Option.bind_some, r.1, M.r7 x.1 (by omega), Option.bind_some, Option.bind_some, M.f33, Option.bind_some, Option.bind_some, M.r19 (by omega) (by omega), Option.bind_some, r.1, M.r21 x.1 x.2.1, Option.bind_some, Option.bind_some, x.2.2.1, x.2.2.2]
      simp only [I_lit]
      rw [Option.bind_some, I_add, I_toJ (by omega) (by omega), I_toJ (by omega) (by omega), J_mul, J_mul, J_add, J_mul, show (i : Int) + 1 = ((i + 1 : Nat) : Int) by omega]
      refine (MO.waitLoop M n6 X t0 c0 R lp d (i + 1) f _ _ (by omega) (by omega) (fun z => by omega)).trans ?_
      rw [fromL_drop (P := P) (i := i) (by omega)]
      show _ = some (J (s1 * 1000 ^ (d + 1) + a * (tk (fromL P i) * 1000 ^ (P.drop (i + 1)).length + ch (fromL P i) * wai tk ch (P.drop (i + 1)))))
      rw [dl, wai_alg, Int.pow_succ]
    rw [f9_waitOf_8, if_neg (by rw [l]; omega)]
    simp only [I_lit, J_lit]
    by_cases c : (i : Int) ≤ 0
    · rw [if_pos (by rw [l0]; exact c)]
      exact step 0 (h0 (by omega)).symm
    · rw [if_neg (by rw [l0]; exact c)]
      exact step s rfl
theorem MO.waitOf (M : MO h m v se g gl) (n6 : n ≤ 6) (X : TC g n nn tk ch) (t0 : ∀ a, 0 ≤ tk a ∧ tk a ≤ 99) (c0 : ∀ a, 0 ≤ ch a ∧ ch a ≤ 1000) {P : List Int} (R : RLn n nn (g 19) (fromL P)) (lp : P.length = n) : f9_waitOf h m (I (n : Int)) = some (J (wai tk ch P)) := by
  have fu := FU_big
  have := MO.waitLoop M n6 X t0 c0 R lp n 0 FU 0 1 (by omega) (by omega) (fun _ => rfl)
  rw [List.drop_zero, Int.zero_mul, Int.zero_add, Int.one_mul] at this
  rw [f9_waitOf, M.o, Option.bind_some]
  simp only [I_lit, J_lit]
  rw [Option.bind_some, Option.bind_some]
  exact this
/-- the order is kept as the best -/
theorem keep_run (n6 : n ≤ 6) (κ : AH → Int64 → Bool → Option (Int64 × AH)) (v4 : Int32) (w : Int64) : ∀ (d i f : Nat) (h : AH) (g : Nat → Int → Int), MO h m v se g gl → (∀ j : Int, 0 ≤ j → j < i → g 20 j = g 19 j) → i + d = n → d < f → ∃ h' B, f9_soonest_156 κ m v4 (I (n : Int)) w f h (I (i : Int)) = ((f9_turns h' m (I (n : Int))).bind fun x186 => κ x186.2 w x186.1) ∧ MO h' m v se (uf g 20 B) gl ∧ (∀ j : Int, 0 ≤ j → j < n → B j = g 19 j) ∧ Fr m (m + 24) h h'
  | _, _, 0, _, _, _, _, _, hf => by omega
  | 0, i, f + 1, h, g, M, hB, e, hf => by
    have l : (I (n : Int) ≤ I (i : Int)) = ((n : Int) ≤ i) := I_le (by omega) (by omega) (by omega) (by omega)
    refine ⟨h, g 20, ?_, by rw [uf_same]; exact M, fun j j0 j1 => hB j j0 (by omega), Fr.refl _ _ _⟩
    rw [f9_soonest_156, if_pos (by rw [l]; omega)]
  | d + 1, i, f + 1, h, g, M, hB, e, hf => by
    have l : (I (n : Int) ≤ I (i : Int)) = ((n : Int) ≤ i) := I_le (by omega) (by omega) (by omega) (by omega)
    obtain ⟨h1, e1, M1, F1⟩ := M.w20 (i := i) (g 19 i) (by omega) (by omega)
    obtain ⟨h2, B, e2, M2, hB2, F2⟩ := keep_run n6 κ v4 w d (i + 1) f h1 _ M1 (fun j j0 j1 => by
      rw [uf_eq, uf_ne (by omega)]
      by_cases z : j = i
      · subst z; exact up_eq
      · rw [up_ne z]; exact hB j j0 (by omega)) (by omega) (by omega)
    rw [uf_uf] at M2
    refine ⟨h2, B, ?_, M2, fun j j0 j1 => by rw [hB2 j j0 j1, uf_ne (by omega)], F1.trans F2⟩
    rw [f9_soonest_156, if_neg (by rw [l]; omega), M.f32, Option.bind_some, M.f31, Option.bind_some, M.r19 (by omega) (by omega), Option.bind_some, e1, Option.bind_some]
    simp only [I_lit]
    rw [Option.bind_some, I_add, show (i : Int) + 1 = ((i + 1 : Nat) : Int) by omega, e2]
def sfin (n : Nat) (nn : Int → Int) (wh : Int) (st : Int × List Int) : Int := if wh = 6 then st.1 else if (n : Int) ≤ wh then -1 else nn (fromL st.2 wh)
theorem soon_run (n1 : 1 ≤ n) (n6 : n ≤ 6) (mono : ∀ a b : Int, 0 ≤ a → a < b → b < n → nn a < nn b) (t0 : ∀ a, 0 ≤ tk a ∧ tk a ≤ 99) (c0 : ∀ a, 0 ≤ ch a ∧ ch a ≤ 1000) {wh : Int} (w0 : 0 ≤ wh) (w1 : wh ≤ 6) : ∀ (k F : Nat) (P : List Int) (st : Int × List Int) (h : AH) (g : Nat → Int → Int), MO h m v se g gl → TC g n nn tk ch → RLn n nn (g 19) (fromL P) → P.length = n → chc n k P = true → (st.1 = -1 ∨ (0 ≤ st.1 ∧ st.1 < 9000000000000000000 ∧ ∀ i : Int, 0 ≤ i → i < n → g 20 i = nn (fromL st.2 i) ∧ 0 ≤ nn (fromL st.2 i) ∧ nn (fromL st.2 i) < 8)) → k + 2 ≤ F → ∃ h' g', f9_soonest_121 m (I wh) (I (n : Int)) F h (J st.1) true = some (J (sfin n nn wh ((chn n k P).foldl (stp (wai tk ch)) st)), h') ∧ MO h' m v se g' gl ∧ (∀ j, j ≠ 19 → j ≠ 20 → g' j = g j) ∧ Fr m (m + 24) h h'
  | _, 0, _, _, _, _, _, _, _, _, _, _, hF => by omega
  | k, F + 1, P, st, h, g, M, X, R, lp, hc, hs, hF => by
    have fu := FU_big
    have w := M.waitOf n6 X t0 c0 R lp
    have wr := wai_rng t0 c0 P
    have pw : (1000 : Int) ^ P.length ≤ 1000 ^ 6 := by
      have a := Nat.pow_le_pow_right (show 0 < 1000 by omega) (show P.length ≤ 6 by omega)
      have e1 : ((1000 ^ P.length : Nat) : Int) = 1000 ^ P.length := by rw [Int.natCast_pow]; rfl
      have e2 : ((1000 ^ 6 : Nat) : Int) = 1000 ^ 6 := by rw [Int.natCast_pow]; rfl
      omega
    have pn : (0 : Int) ≤ 1000 ^ P.length := Int.pow_nonneg (by omega)
    have wb : wai tk ch P < 9000000000000000000 := by
      have a := Int.mul_le_mul_of_nonneg_left pw (show (0 : Int) ≤ P.length * 99 by omega)
      have b := Int.mul_le_mul_of_nonneg_right (show (P.length : Int) * 99 ≤ 6 * 99 by omega) (show (0 : Int) ≤ 1000 ^ 6 by omega)
      omega
    have wP : ∀ i : Int, 0 ≤ i → i < n → g 19 i = nn (fromL P i) ∧ 0 ≤ nn (fromL P i) ∧ nn (fromL P i) < 8 := fun i i0 i1 => by
      have q := R i i0 i1
      have x := X _ q.2.1 q.2.2
      exact ⟨q.1, x.1, x.2.1⟩
    -- behind the order's WAIT: what is the best now, and how it goes on
    have on : ∀ (h1 : AH) (g1 : Nat → Int → Int) (st1 : Int × List Int), MO h1 m v se g1 gl → (∀ j, j ≠ 20 → g1 j = g j) → (0 ≤ st1.1 ∧ st1.1 < 9000000000000000000 ∧ ∀ i : Int, 0 ≤ i → i < n → g1 20 i = nn (fromL st1.2 i) ∧ 0 ≤ nn (fromL st1.2 i) ∧ nn (fromL st1.2 i) < 8) → st1 = stp (wai tk ch) st P → ∃ h' g', ((f9_turns h1 m (I (n : Int))).bind fun x186 => f9_soonest_121 m (I wh) (I (n : Int)) F x186.2 (J st1.1) x186.1) = some (J (sfin n nn wh ((chn n k P).foldl (stp (wai tk ch)) st)), h') ∧ MO h' m v se g' gl ∧ (∀ j, j ≠ 19 → j ≠ 20 → g' j = g j) ∧ Fr m (m + 24) h1 h' := fun h1 g1 st1 M1 gk hs1 est => by
      have e19 : g1 19 = g 19 := gk 19 (by omega)
      obtain ⟨h2, e2, M2, F2⟩ := M1.turns n1 n6 (fun i i0 i1 => by rw [e19]; have := wP i i0 i1; omega)
      rw [e19] at e2 M2
      have RT := R.turn mono n1
      rw [e2, Option.bind_some]
      by_cases c : (tnf n (fromL P)).1 = true
      · rw [RT.1, c]
        cases k with
        | zero => unfold chc at hc; rw [c] at hc; cases hc
        | succ k =>
          unfold chc at hc
          rw [if_pos c] at hc
          have ecn : chn n (k + 1) P = P :: chn n k (toL n (tnf n (fromL P)).2) := by
            show P :: (if (tnf n (fromL P)).1 = true then chn n k (toL n (tnf n (fromL P)).2) else []) = _
            rw [if_pos c]
          have RQ : RLn n nn ((tnf n (g 19)).2) (fromL (toL n (tnf n (fromL P)).2)) := fun i i0 i1 => by rw [toL_get i0 i1]; exact RT.2 i i0 i1
          obtain ⟨h3, g3, e3, M3, G3, F3⟩ := soon_run n1 n6 mono t0 c0 w0 w1 k F (toL n (tnf n (fromL P)).2) st1 h2 _ M2 (fun a a0 a1 => by rw [uf_ne (by omega), uf_ne (by omega), gk 7 (by omega), gk 21 (by omega)]; exact X a a0 a1) (by rw [uf_eq]; exact RQ) toL_len hc (.inr (by rw [uf_ne (by omega)]; exact hs1)) (by omega)
          refine ⟨h3, g3, ?_, M3, fun j a b => by rw [G3 j a b, uf_ne a]; exact gk j b, F2.trans F3⟩
          rw [e3, ecn, List.foldl_cons, ← est]
      · have c' : (tnf n (fromL P)).1 = false := by cases z : (tnf n (fromL P)).1; rfl; exact absurd z c
        rw [RT.1, c']
        have ecn : chn n k P = [P] := by
          cases k with
          | zero => rfl
          | succ k =>
            show P :: (if (tnf n (fromL P)).1 = true then chn n k (toL n (tnf n (fromL P)).2) else []) = _
            rw [if_neg c]
        obtain ⟨F', eF⟩ : ∃ F', F = F' + 1 := ⟨F - 1, by omega⟩
        subst eF
        have l6 : (I wh = I 6) = (wh = 6) := I_eq (by omega) (by omega) (by omega) (by omega)
        have ln : (I (n : Int) ≤ I wh) = ((n : Int) ≤ wh) := I_le (by omega) (by omega) (by omega) (by omega)
        refine ⟨h2, _, ?_, M2, fun j a b => by rw [uf_ne a]; exact gk j b, F2⟩
        rw [ecn, f9_soonest_121, List.foldl_cons, List.foldl_nil, ← est]
        simp only [I_lit, J_lit, I_neg, J_neg, Bool.false_eq_true, if_false]
        unfold sfin
        by_cases z : wh = 6
        · rw [if_pos (by rw [l6]; exact z), if_pos z]
        · rw [if_neg (by rw [l6]; exact z), if_neg z]
          by_cases y : (n : Int) ≤ wh
          · rw [if_pos (by rw [ln]; exact y), if_pos y]
          · have q := hs1.2.2 wh w0 (by omega)
            have r20 := M2.r20 (i := wh) w0 (by omega)
            rw [uf_ne (by omega), q.1] at r20
            rw [if_neg (by rw [ln]; exact y), if_neg y, M2.f32, Option.bind_some, r20, Option.bind_some, I_toJ (by omega) (by omega)]
    rw [f9_soonest_121, if_pos rfl, w, Option.bind_some]
    simp only [I_lit, J_lit]
    have ln : (J st.1 < J 0) = (st.1 < 0) := J_lt (by omega) (by omega) (by omega) (by omega)
    have lw : (J st.1 ≤ J (wai tk ch P)) = (st.1 ≤ wai tk ch P) := J_le (by omega) (by omega) (by omega) (by omega)
    by_cases c : st.1 < 0 ∨ wai tk ch P < st.1
    · have es : stp (wai tk ch) st P = (wai tk ch P, P) := if_pos c
      obtain ⟨h1, B, e1, M1, hB, F1⟩ := keep_run (n := n) n6 (fun h v6 v8 => f9_soonest_121 m (I wh) (I (n : Int)) F h v6 v8) (I wh) (J (wai tk ch P)) n 0 FU h g M (fun j j0 j1 => by omega) (by omega) (by omega)
      obtain ⟨h2, g2, e2, M2, G2, F2⟩ := on h1 (uf g 20 B) (wai tk ch P, P) M1 (fun j hj => uf_ne hj) ⟨wr.1, wb, fun i i0 i1 => by rw [uf_eq, hB i i0 i1]; exact wP i i0 i1⟩ es.symm
      refine ⟨h2, g2, ?_, M2, G2, F1.trans F2⟩
      have e1' : f9_soonest_156 (fun h v6 v8 => f9_soonest_121 m (I wh) (I (n : Int)) F h v6 v8) m (I wh) (I (n : Int)) (J (wai tk ch P)) FU h (I 0) = _ := e1
      by_cases d : st.1 < 0
      · rw [if_pos (by rw [ln]; exact d), e1']; exact e2
      · rw [if_neg (by rw [ln]; exact d), if_neg (by rw [lw]; omega), e1']; exact e2
    · have es : stp (wai tk ch) st P = st := if_neg c
      have hs' := hs.resolve_left (by omega)
      obtain ⟨h2, g2, e2, M2, G2, F2⟩ := on h g st M (fun _ _ => rfl) hs' es.symm
      refine ⟨h2, g2, ?_, M2, G2, F2⟩
      rw [if_neg (by rw [ln]; omega), if_pos (by rw [lw]; omega)]
      exact e2
end
