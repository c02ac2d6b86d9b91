/-! the class's PARSER, token by token -/
def FO (x r : Nat) (T : Int → Int) (n c s : Int) (h : AH) (f : Option AH) (k : Int) : Prop := ∃ h', f = some h' ∧ PLo x h' (c + 1) = some (I (1 + 8 * s + k), h') ∧ KF h' x r T n ∧ Fc x r h h'
theorem kd_21 {T : Int → Int} {n s : Int} : kd T n s = 21 ↔ isd T n s := by
  unfold kd
  by_cases c : isd T n s
  · rw [if_pos c]; exact ⟨fun _ => c, fun _ => rfl⟩
  · rw [if_neg c]
    constructor
    · intro z
      exfalso
      have a := two_rng T n s
      have b := wkn_rng (P8 T s (lend T n s))
      split at z <;> omega
    · intro z; exact absurd z c
theorem FO.b {x r : Nat} {T : Int → Int} {n c s : Int} {h h1 : AH} {f : Option AH} {k : Int} (F : FO x r T n c s h1 f k) (g : Fc x r h h1) : FO x r T n c s h (f.bind fun y => some y) k := by
  obtain ⟨h', e, a, b, d⟩ := F
  exact ⟨h', by rw [e, Option.bind_some], a, b, g.trans d⟩
theorem clos_v {e : Int} (h : 22 ≤ e ∧ e ≤ 29) : 4 ≤ clos e ∧ (e ≤ 26 → clos e = 4) ∧ (27 ≤ e → 5 ≤ clos e) := by
  have : e = 22 ∨ e = 23 ∨ e = 24 ∨ e = 25 ∨ e = 26 ∨ e = 27 ∨ e = 28 ∨ e = 29 := by omega
  rcases this with q | q | q | q | q | q | q | q <;> subst q <;> decide
section
variable {h : AH} {x r : Nat} {T : Int → Int} {n c s due sm cl nl once it : Int} {W : List Int} {k0 k1 sz : Int} {cd : Int → Int}
theorem KT.flt (K : KT h x r T n c s due sm cl nl once it W k0 k1 sz cd) (hn : n ≤ 400) (B : ∀ i, 0 ≤ i → i < n → 0 ≤ T i ∧ T i ≤ 255) (d0 : 0 ≤ due) (d1 : due ≤ 6) (k : Int) (kk : 0 ≤ k ∧ k ≤ 7) : FO x r T n c s h ((f1_fail h (x + 24) (x + 22) (I k)).bind fun y => some y) k := by
  obtain ⟨h1, e, a, b, d⟩ := K.fail hn B d0 d1 kk.1 kk.2
  exact FO.b ⟨h1, e, a, b, d⟩ (Fc.refl _ _ _)
theorem KT.ndue (K : KT h x r T n c s due sm cl nl once it W k0 k1 sz cd) : due = due := rfl
theorem KT.lnum (K : KT h x r T n c s due sm cl nl once it W k0 k1 sz cd) (d : isd T n s) : fI 6 5 h (x + 22) = some (I (nvf T s (dend T n s - s).toNat)) ∧ fI 6 6 h (x + 22) = some (I (dend T n s - s)) := by
  obtain ⟨u, w, t, ru, sk, K, ⟨t1, t2, t3, t4, t5, t6, t7, t8⟩, -⟩ := K
  rw [K.2.1.f5, K.2.1.f6, (t5 d).1, (t5 d).2]
  exact ⟨rfl, rfl⟩
theorem KT.val62 (K : KT h x r T n c s due sm cl nl once it W k0 k1 sz cd) (hn : n ≤ 400) (B : ∀ i, 0 ≤ i → i < n → 0 ≤ T i ∧ T i ≤ 255) (d0 : 0 ≤ due) (d1 : due ≤ 6) (i0 : 0 ≤ it) (i1 : it ≤ 60) {b : Bool} {e : Int} (hb : (b = true ∧ isd T n s ∧ e = -1 - nvf T s (dend T n s - s).toNat) ∨ (b = false ∧ kd T n s ≤ 9 ∧ e = kd T n s)) : (it < 60 → ∃ h', f1_takeValue_62 h (x + 24) (x + 22) b = some h' ∧ KA h' x r T n (c + 1) (bl T n (nx T n s)) 5 sm cl nl once (it + 1) W k0 k1 (sz + 1) (up cd sz e) ∧ Fc x r h h') ∧ (it = 60 → FO x r T n c s h (f1_takeValue_62 h (x + 24) (x + 22) b) 3) := by
  have l : (I it < I 60) = (it < 60) := I_lt (by omega) (by omega) (by omega) (by omega)
  refine ⟨fun z => ?_, fun z => ?_⟩
  · have k33 : kd T n s ≠ 33 := by
      rcases hb with ⟨-, y, -⟩ | ⟨-, y, -⟩
      · rw [kd_21.mpr y]; omega
      · omega
    obtain ⟨h1, e1, K1, F1⟩ := (K.put (it + 1)).2.2.2
    obtain ⟨h2, e2, G⟩ := K1.emit hn e B k33
    obtain ⟨h3, e3, K3, F3⟩ := G 5
    refine ⟨h3, ?_, K3, F1.trans F3⟩
    rw [f1_takeValue_62, K.lit, Option.bind_some]
    simp only [I_lit]
    rw [if_pos (by rw [l]; exact z), Option.bind_some, I_add, e1, Option.bind_some]
    rcases hb with ⟨y1, y2, y3⟩ | ⟨y1, y2, y3⟩
    · rw [y3] at e2
      rw [if_pos y1, (K1.lnum y2).1, Option.bind_some, f3_codeOfNumber]
      simp only [I_lit, I_neg]
      rw [I_sub, Option.bind_some, e2, Option.bind_some, e3, Option.bind_some]
    · rw [y3] at e2
      rw [if_neg (by rw [y1]; simp), K1.lk, Option.bind_some, e2, Option.bind_some, e3, Option.bind_some]
  · have f := K.flt hn B d0 d1 3 (by omega)
    rw [f1_takeValue_62, K.lit, Option.bind_some]
    simp only [I_lit]
    rw [if_neg (by rw [l]; omega)]
    exact f
theorem KT.value (K : KT h x r T n c s due sm cl nl once it W k0 k1 sz cd) (hn : n ≤ 400) (B : ∀ i, 0 ≤ i → i < n → 0 ≤ T i ∧ T i ≤ 255) (d0 : 0 ≤ due) (d1 : due ≤ 6) (i0 : 0 ≤ it) (i1 : it ≤ 60) : (¬ isd T n s → ¬ kd T n s ≤ 9 → FO x r T n c s h (f1_takeValue h (x + 24) (x + 22)) 0) ∧ (isd T n s → ¬ dend T n s - s ≤ 5 → FO x r T n c s h (f1_takeValue h (x + 24) (x + 22)) 1) ∧ (((isd T n s ∧ dend T n s - s ≤ 5) ∨ kd T n s ≤ 9) → it = 60 → FO x r T n c s h (f1_takeValue h (x + 24) (x + 22)) 3) ∧ (((isd T n s ∧ dend T n s - s ≤ 5) ∨ kd T n s ≤ 9) → it < 60 → ∃ h', f1_takeValue h (x + 24) (x + 22) = some h' ∧ KA h' x r T n (c + 1) (bl T n (nx T n s)) 5 sm cl nl once (it + 1) W k0 k1 (sz + 1) (up cd sz (if isd T n s then -1 - nvf T s (dend T n s - s).toNat else kd T n s)) ∧ Fc x r h h') := by
  have kr := kd_rng T n s
  obtain ⟨fs, eo⟩ := K.o
  have ln := K.len hn
  have l21 : (I (kd T n s) = I 21) = (kd T n s = 21) := Ik kr.1 (by omega) (by omega) (by omega)
  rw [f1_takeValue, eo, Option.bind_some, K.lk, Option.bind_some]
  simp only [I_lit]
  by_cases d : isd T n s
  · have dr := dend_rng (T := T) (i := s) (n := n) (by omega)
    have dg := dend_gt (T := T) (i := s) (n := n) (by omega) d hn
    have l5 : (I (dend T n s - s) ≤ I 5) = (dend T n s - s ≤ 5) := I_le (by omega) (by omega) (by omega) (by omega)
    have k9 : ¬ kd T n s ≤ 9 := by rw [kd_21.mpr d]; omega
    obtain ⟨V1, V2⟩ := K.val62 hn B d0 d1 i0 i1 (b := true) (e := -1 - nvf T s (dend T n s - s).toNat) (.inl ⟨rfl, d, rfl⟩)
    rw [if_pos (by rw [l21]; exact kd_21.mpr d), f1_takeValue_14]
    simp only [I_lit, if_true]
    rw [(K.lnum d).2, Option.bind_some, if_pos d]
    refine ⟨fun z => absurd d z, fun _ z => ?_, fun z y => ?_, fun z y => ?_⟩
    · rw [if_neg (by rw [l5]; exact z)]
      exact K.flt hn B d0 d1 1 (by omega)
    · rw [if_pos (by rw [l5]; omega)]
      exact V2 y
    · rw [if_pos (by rw [l5]; omega)]
      exact V1 y
  · rw [if_neg (by rw [l21]; exact fun z => d (kd_21.mp z)), f1_takeValue_14]
    simp only [I_lit, if_false, Bool.false_eq_true]
    rw [K.lk, Option.bind_some, isFrom_of (by omega) (by omega) (by omega) (by omega) (by omega) (by omega), Option.bind_some, if_neg d]
    refine ⟨fun _ z => ?_, fun z => absurd z d, fun z y => ?_, fun z y => ?_⟩
    · rw [if_neg (by rw [decide_eq_true_eq]; omega)]
      exact K.flt hn B d0 d1 0 (by omega)
    · have k9 : kd T n s ≤ 9 := by
        rcases z with z | z
        · exact absurd z.1 d
        · exact z
      rw [if_pos (by rw [decide_eq_true_eq]; omega)]
      exact (K.val62 hn B d0 d1 i0 i1 (b := false) (e := kd T n s) (.inr ⟨rfl, k9, rfl⟩)).2 y
    · have k9 : kd T n s ≤ 9 := by
        rcases z with z | z
        · exact absurd z.1 d
        · exact z
      rw [if_pos (by rw [decide_eq_true_eq]; omega)]
      exact (K.val62 hn B d0 d1 i0 i1 (b := false) (e := kd T n s) (.inr ⟨rfl, k9, rfl⟩)).1 y
theorem KT.join {Z Y : List Int} (K : KT h x r T n c s due sm cl nl once it (Z ++ Y) k0 k1 sz cd) (hn : n ≤ 400) (B : ∀ i, 0 ≤ i → i < n → 0 ≤ T i ∧ T i ≤ 255) (k33 : kd T n s ≠ 33) {e : Int} (e0 : e = 18 ∨ e = 19 ∨ (22 ≤ e ∧ e ≤ 29)) (hZ : ∀ a ∈ Z, 0 ≤ a ∧ a ≤ 40 ∧ clos e ≤ clos a) (hY : ∀ b B', Y = b :: B' → clos b < clos e) (rY : ∀ b ∈ Y, 0 ≤ b ∧ b ≤ 40) : ∃ h', f1_join h (x + 24) (I e) = some h' ∧ Fc x r h h' ∧ ∀ v sm', ∃ h2 h3, fS 1 3 h' (x + 24) (.int (I sm')) = some h2 ∧ fS 1 2 h2 (x + 24) (.int (I v)) = some h3 ∧ KA h3 x r T n (c + 1) (bl T n (nx T n s)) v sm' cl nl once it (e :: Y) k0 k1 (sz + Z.length) (apd cd sz Z) ∧ Fc x r h h3 ∧ ∃ h4, fS 1 2 h' (x + 24) (.int (I v)) = some h4 ∧ KA h4 x r T n (c + 1) (bl T n (nx T n s)) v sm cl nl once it (e :: Y) k0 k1 (sz + Z.length) (apd cd sz Z) ∧ Fc x r h h4 := by
  have c1 : 1 ≤ clos e := by
    rcases e0 with q | q | q
    · subst q; decide
    · subst q; decide
    · have := (clos_v (e := e) q).1; omega
  have c6 := clos_rng e
  obtain ⟨fs, eo⟩ := K.o
  obtain ⟨h1, e1, K1, F1⟩ := KT.down hn c1 c6.2 K hZ hY rY
  obtain ⟨h2, e2, F2, G⟩ := K1.off hn e B k33 (by omega) (by omega)
  refine ⟨h2, ?_, F1.trans F2, fun v sm' => ?_⟩
  · rw [f1_join, eo, Option.bind_some, closeness_of (by omega) (by omega), Option.bind_some, e1, Option.bind_some, e2, Option.bind_some]
  · obtain ⟨h3, h4, a1, a2, a3, a4, h5, a5, a6, a7⟩ := G v sm'
    exact ⟨h3, h4, a1, a2, a3, F1.trans a4, h5, a5, a6, F1.trans a7⟩
theorem KT.sign {Z Y : List Int} (K : KT h x r T n c s due sm cl nl once it (Z ++ Y) k0 k1 sz cd) (hn : n ≤ 400) (B : ∀ i, 0 ≤ i → i < n → 0 ≤ T i ∧ T i ≤ 255) (d0 : 0 ≤ due) (d1 : due ≤ 6) (i0 : 0 ≤ it) (i1 : it ≤ 60) (hZ : ∀ a ∈ Z, 0 ≤ a ∧ a ≤ 40 ∧ 4 ≤ clos a) (hY : ∀ b B', Y = b :: B' → clos b < 4) (rY : ∀ b ∈ Y, 0 ≤ b ∧ b ≤ 40) : (¬ (22 ≤ kd T n s ∧ kd T n s ≤ 26) → FO x r T n c s h (f1_takeSign h (x + 24) (x + 22)) 0) ∧ (22 ≤ kd T n s ∧ kd T n s ≤ 26 → it = 60 → FO x r T n c s h (f1_takeSign h (x + 24) (x + 22)) 3) ∧ (22 ≤ kd T n s ∧ kd T n s ≤ 26 → it < 60 → ∃ h', f1_takeSign h (x + 24) (x + 22) = some h' ∧ KA h' x r T n (c + 1) (bl T n (nx T n s)) 3 2 cl nl once (it + 1) (kd T n s :: Y) k0 k1 (sz + Z.length) (apd cd sz Z) ∧ Fc x r h h') := by
  have kr := kd_rng T n s
  obtain ⟨fs, eo⟩ := K.o
  have l : (I it < I 60) = (it < 60) := I_lt (by omega) (by omega) (by omega) (by omega)
  rw [f1_takeSign, eo, Option.bind_some, K.lk, Option.bind_some]
  simp only [I_lit]
  rw [isFrom_of (by omega) (by omega) (by omega) (by omega) (by omega) (by omega), Option.bind_some]
  refine ⟨fun z => ?_, fun z y => ?_, fun z y => ?_⟩
  · rw [if_neg (by rw [decide_eq_true_eq]; exact z)]
    exact K.flt hn B d0 d1 0 (by omega)
  · rw [if_pos (by rw [decide_eq_true_eq]; exact z), K.lit, Option.bind_some, if_neg (by rw [l]; omega)]
    exact K.flt hn B d0 d1 3 (by omega)
  · have c4 : clos (kd T n s) = 4 := (clos_v (by omega)).2.1 z.2
    obtain ⟨h1, e1, K1, F1⟩ := (K.put (it + 1)).2.2.2
    obtain ⟨h2, e2, F2, G⟩ := K1.join hn B (by omega) (e := kd T n s) (by omega) (by rw [c4]; exact hZ) (by rw [c4]; exact hY) rY
    obtain ⟨h3, h4, a1, a2, a3, a4, -⟩ := G 3 2
    refine ⟨h4, ?_, a3, F1.trans a4⟩
    rw [if_pos (by rw [decide_eq_true_eq]; exact z), K.lit, Option.bind_some, if_pos (by rw [l]; exact y), Option.bind_some, I_add, e1, Option.bind_some, K1.lk, Option.bind_some, e2, Option.bind_some, a1, Option.bind_some, a2, Option.bind_some]
theorem KT.opens (K : KT h x r T n c s 4 sm cl nl once it W k0 k1 sz cd) (hn : n ≤ 400) (B : ∀ i, 0 ≤ i → i < n → 0 ≤ T i ∧ T i ≤ 255) (kk : kd T n s = 20 ∨ kd T n s = 30) : (10 ≤ dep W → FO x r T n c s h (f1_takeFactStart h (x + 24) (x + 22)) 2) ∧ (dep W < 10 → ∃ h', f1_takeFactStart h (x + 24) (x + 22) = some h' ∧ KA h' x r T n (c + 1) (bl T n (nx T n s)) 4 sm cl nl once it (kd T n s :: W) k0 k1 sz cd ∧ Fc x r h h') := by
  have kr := kd_rng T n s
  have ln := K.len hn
  have dn := dep_nn W
  have bn := bra_nn W
  obtain ⟨fs, eo⟩ := K.o
  have l : (I (dep W) < I 10) = (dep W < 10) := I_lt (by omega) (by omega) (by omega) (by omega)
  have l20 : (I (kd T n s) = I 20) = (kd T n s = 20) := Ik kr.1 (by omega) (by omega) (by omega)
  have l30 : (I (kd T n s) = I 30) = (kd T n s = 30) := Ik kr.1 (by omega) (by omega) (by omega)
  have e31 : f1_takeFactStart h (x + 24) (x + 22) = f1_takeFactStart_31 h (x + 24) (x + 22) := by
    rw [f1_takeFactStart, eo, Option.bind_some, K.lk, Option.bind_some]
    simp only [I_lit]
    by_cases c : kd T n s = 20
    · rw [if_pos (by rw [l20]; exact c)]
    · rw [if_neg (by rw [l20]; exact c), Option.bind_some, if_pos (by rw [l30]; omega)]
  rw [e31, f1_takeFactStart_31, K.ldep, Option.bind_some]
  simp only [I_lit]
  refine ⟨fun z => ?_, fun z => ?_⟩
  · rw [if_neg (by rw [l]; omega)]
    exact K.flt hn B (by omega) (by omega) 2 (by omega)
  · obtain ⟨u, w, t, ru, sk, KK, ⟨t1, t2, t3, t4, t5, t6, t7, t8⟩, ⟨u2, u3, u4, u5, u6, u7, u8⟩, ⟨q1, q2, q3, q4⟩, ⟨y0, y1, y2, y3, y4⟩⟩ := K
    obtain ⟨h1, e1, P1, F1⟩ := KK.1.s11 (dep W + 1)
    have K1 := KK.ofP P1 F1
    have x12 : us u 11 (dep W + 1) 12 = bra W := by rw [us_ne (by omega)]; exact q4
    have nr := nx_rng (T := T) (n := n) (s := s) B (by omega) t8 hn
    have n2 := nr.2.2 (by omega)
    have y4' : sz + ((kd T n s :: W).length : Int) + 1 ≤ c + 1 := by rw [List.length_cons]; omega
    have dp : dep W + 1 = dep (kd T n s :: W) := by rw [dep_c, if_pos (by omega)]
    have x4 : fI 6 4 h1 (x + 22) = some (I (kd T n s)) := by rw [K1.1.2.1.f4, t4]
    have goal : ∀ v, v = bra (kd T n s :: W) → ∃ h2 h3, fS 1 12 h1 (x + 24) (.int (I v)) = some h2 ∧ fI 6 4 h2 (x + 22) = some (I (kd T n s)) ∧ f1_putOff h2 (x + 24) (I (kd T n s)) = some h3 ∧ KA h3 x r T n (c + 1) (bl T n (nx T n s)) 4 sm cl nl once it (kd T n s :: W) k0 k1 sz cd ∧ Fc x r h h3 := fun v ev => by
      obtain ⟨h2, e2, P2, F2⟩ := K1.1.1.s12 v
      have K2 := K1.1.ofP P2 F2
      obtain ⟨h3, e3, K3, H3, F3⟩ := K2.1.putOff (a := kd T n s) q1 q2 ln.1
      exact ⟨h2, h3, e2, by rw [K2.1.2.1.f4, t4], e3, ⟨_, _, t, ru, sk, K3, ⟨t1, by rw [t2], by omega, by omega, by omega⟩, ⟨u2, u3, u4, u5, u6, u7, u8⟩, ⟨rfl, H3, dp, ev⟩, ⟨y0, y1, y2, y3, y4'⟩⟩, (K1.2.trans K2.2).trans F3⟩
    rw [if_pos (by rw [l]; exact z), Option.bind_some, I_add, e1, Option.bind_some, P1.f12, Option.bind_some, x12, x4, Option.bind_some]
    by_cases c : kd T n s = 30
    · obtain ⟨h2, h3, a1, a2, a3, a4, a5⟩ := goal (bra W + 1) (by rw [bra_c, if_pos c])
      rw [if_pos (by rw [l30]; exact c), I_add, a1, Option.bind_some, a2, Option.bind_some, a3, Option.bind_some]
      exact ⟨h3, rfl, a4, a5⟩
    · obtain ⟨h2, h3, a1, a2, a3, a4, a5⟩ := goal (bra W + 0) (by rw [bra_c, if_neg c])
      rw [if_neg (by rw [l30]; exact c), I_add, a1, Option.bind_some, a2, Option.bind_some, a3, Option.bind_some]
      exact ⟨h3, rfl, a4, a5⟩
/-- behind a clause of yes -/
theorem KT.clauseEnd (K : KT h x r T n c s due sm cl nl once it W k0 k1 sz cd) (hn : n ≤ 400) (B : ∀ i, 0 ≤ i → i < n → 0 ≤ T i ∧ T i ≤ 255) (d0 : 0 ≤ due) (d1 : due ≤ 6) (hW : ∀ a ∈ W, 0 ≤ a ∧ a ≤ 40 ∧ 1 ≤ clos a) (c17 : cl = 10 ∨ cl = 17) : (kd T n s ≠ 32 → kd T n s ≠ 33 → FO x r T n c s h (f1_takeBehindClause h (x + 24) (x + 22)) 0) ∧ (kd T n s = 32 → ∃ h', f1_takeBehindClause h (x + 24) (x + 22) = some h' ∧ KA0 h' x r T n (c + 1) (bl T n (nx T n s)) 0 cl nl once it k0 k1 (sz + W.length + 1) (up (apd cd sz W) (sz + W.length) cl) ∧ Fc x r h h') ∧ (kd T n s = 33 → ∃ h', f1_takeBehindClause h (x + 24) (x + 22) = some h' ∧ PLo x h' (c + 1) = some (I 0, h') ∧ KZ h' x r T n k0 k1 (sz + W.length + 1) (up (apd cd sz W) (sz + W.length) cl) ∧ Fc x r h h') := by
  have kr := kd_rng T n s
  have ln := K.len hn
  obtain ⟨fs, eo⟩ := K.o
  have l32 : (I (kd T n s) = I 32) = (kd T n s = 32) := Ik kr.1 (by omega) (by omega) (by omega)
  have l33 : (I (kd T n s) = I 33) = (kd T n s = 33) := Ik kr.1 (by omega) (by omega) (by omega)
  have l10 : (I cl = I 10) = (cl = 10) := Ik (by omega) (by omega) (by omega) (by omega)
  have l17 : (I cl = I 17) = (cl = 17) := Ik (by omega) (by omega) (by omega) (by omega)
  rw [f1_takeBehindClause, eo, Option.bind_some, K.lk, Option.bind_some]
  simp only [I_lit]
  have e25 : f1_takeBehindClause_25 h (x + 24) (x + 22) = f1_takeBehindClause_43 h (x + 24) (x + 22) := by
    rw [f1_takeBehindClause_25, K.lcl, Option.bind_some]
    simp only [I_lit]
    by_cases z : cl = 10
    · rw [if_pos (by rw [l10]; exact z)]
    · rw [if_neg (by rw [l10]; exact z), Option.bind_some, if_pos (by rw [l17]; omega)]
  have K' : KT h x r T n c s due sm cl nl once it (W ++ []) k0 k1 sz cd := by rw [List.append_nil]; exact K
  obtain ⟨h1, e1, K1, F1⟩ := KT.down hn (l := 1) (by omega) (by omega) K' hW (fun b B' z => (by cases z)) (fun b z => (by cases z))
  have x4 := K1.lk
  have x5 := K1.lcl
  obtain ⟨u, w, t, ru, sk, KK, ⟨t1, t2, t3, t4, t5, t6, t7, t8⟩, ⟨u2, u3, u4, u5, u6, u7, u8⟩, ⟨q1, q2, q3, q4⟩, ⟨y0, y1, y2, y3, y4⟩⟩ := K1
  obtain ⟨h2, e2, K2, F2⟩ := KK.emit cl y2 y3 (by omega)
  have x6 : fI 6 4 h2 (x + 22) = some (I (kd T n s)) := by rw [K2.2.1.f4, t4]
  have nr := nx_rng (T := T) (n := n) (s := s) B (by omega) t8 hn
  refine ⟨fun a b => ?_, fun a => ?_, fun a => ?_⟩
  · rw [if_neg (by rw [l32]; exact a), Option.bind_some, if_neg (by rw [l33]; exact b)]
    exact K.flt hn B d0 d1 0 (by omega)
  · obtain ⟨h3, e3, P3, F3⟩ := K2.1.s2 0
    have K3 := K2.ofP P3 F3
    have n2 := nr.2.2 (by omega)
    refine ⟨h3, ?_, ⟨_, w, t, _, sk, K3.1, ⟨t1, by rw [t2], by omega, by omega, by omega⟩, ⟨us_eq, u4, u5, u6, u7, u8⟩, ⟨y0, y1, us_eq, by omega, by omega⟩⟩, (F1.trans F2).trans K3.2⟩
    rw [if_pos (by rw [l32]; exact a), e25, f1_takeBehindClause_43]
    simp only [I_lit]
    rw [e1, Option.bind_some, x5, Option.bind_some, e2, Option.bind_some, x6, Option.bind_some, if_neg (by rw [l33]; omega), e3, Option.bind_some]
  · obtain ⟨h3, e3, P3, F3⟩ := K2.1.s2 7
    have K3 := K2.ofP P3 F3
    have st := P3.stop (c := c + 1) (by omega) (by omega) (by rw [us_eq]; omega) (by rw [us_eq]; omega) (by rw [us_ne (by omega)]; omega) (by rw [us_ne (by omega)]; omega) (.inr us_eq)
    rw [us_ne (by omega), u8] at st
    refine ⟨h3, ?_, st, ⟨_, w, t, _, sk, K3.1, t1, y0, y1, us_eq⟩, (F1.trans F2).trans K3.2⟩
    rw [if_neg (by rw [l32]; omega), Option.bind_some, if_pos (by rw [l33]; exact a), e25, f1_takeBehindClause_43]
    simp only [I_lit]
    rw [e1, Option.bind_some, x5, Option.bind_some, e2, Option.bind_some, x6, Option.bind_some, if_pos (by rw [l33]; exact a), e3, Option.bind_some]
/-- behind a FACT: and, or -/
theorem KT.andOr {Z Y : List Int} (K : KT h x r T n c s due sm cl nl once it (Z ++ Y) k0 k1 sz cd) (hn : n ≤ 400) (B : ∀ i, 0 ≤ i → i < n → 0 ≤ T i ∧ T i ≤ 255) (kk : kd T n s = 18 ∨ kd T n s = 19) (hZ : ∀ a ∈ Z, 0 ≤ a ∧ a ≤ 40 ∧ clos (kd T n s) ≤ clos a) (hY : ∀ b B', Y = b :: B' → clos b < clos (kd T n s)) (rY : ∀ b ∈ Y, 0 ≤ b ∧ b ≤ 40) : ∃ h', f1_takeBehindFact h (x + 24) (x + 22) = some h' ∧ KA h' x r T n (c + 1) (bl T n (nx T n s)) 4 sm cl nl once it (kd T n s :: Y) k0 k1 (sz + Z.length) (apd cd sz Z) ∧ Fc x r h h' := by
  have kr := kd_rng T n s
  obtain ⟨fs, eo⟩ := K.o
  have l18 : (I (kd T n s) = I 18) = (kd T n s = 18) := Ik kr.1 (by omega) (by omega) (by omega)
  have l19 : (I (kd T n s) = I 19) = (kd T n s = 19) := Ik kr.1 (by omega) (by omega) (by omega)
  obtain ⟨h2, e2, F2, G⟩ := K.join hn B (by omega) (e := kd T n s) (by omega) hZ hY rY
  obtain ⟨-, -, -, -, -, -, h5, a5, a6, a7⟩ := G 4 0
  refine ⟨h5, ?_, a6, a7⟩
  rw [f1_takeBehindFact, eo, Option.bind_some, K.lk, Option.bind_some]
  simp only [I_lit]
  by_cases z : kd T n s = 19
  · rw [if_pos (by rw [l19]; exact z), Option.bind_some, e2, Option.bind_some, a5, Option.bind_some]
  · rw [if_neg (by rw [l19]; exact z), Option.bind_some, if_pos (by rw [l18]; omega), Option.bind_some, e2, Option.bind_some, a5, Option.bind_some]
/-- behind a FACT: a bracket is closed -/
theorem KT.closes {Z Y : List Int} (K : KT h x r T n c s due sm cl nl once it (Z ++ 30 :: Y) k0 k1 sz cd) (hn : n ≤ 400) (B : ∀ i, 0 ≤ i → i < n → 0 ≤ T i ∧ T i ≤ 255) (kk : kd T n s = 31) (hZ : ∀ a ∈ Z, 0 ≤ a ∧ a ≤ 40 ∧ 1 ≤ clos a) (rY : ∀ b ∈ Y, 0 ≤ b ∧ b ≤ 40) : ∃ h', f1_takeBehindFact h (x + 24) (x + 22) = some h' ∧ KA h' x r T n (c + 1) (bl T n (nx T n s)) 6 sm cl nl once it Y k0 k1 (sz + Z.length) (apd cd sz Z) ∧ Fc x r h h' := by
  have kr := kd_rng T n s
  have ln := K.len hn
  obtain ⟨fs, eo⟩ := K.o
  have l18 : (I (kd T n s) = I 18) = (kd T n s = 18) := Ik kr.1 (by omega) (by omega) (by omega)
  have l19 : (I (kd T n s) = I 19) = (kd T n s = 19) := Ik kr.1 (by omega) (by omega) (by omega)
  have l31 : (I (kd T n s) = I 31) = (kd T n s = 31) := Ik kr.1 (by omega) (by omega) (by omega)
  have bz : ∀ Z : List Int, 1 ≤ bra (Z ++ 30 :: Y) := fun Z => by
    induction Z with
    | nil => have := bra_nn Y; rw [List.nil_append, bra_c, if_pos rfl]; omega
    | cons a Z ih => rw [List.cons_append, bra_c]; split <;> omega
  have b1 := bz Z
  have b2 := bra_nn (Z ++ 30 :: Y)
  have lb : (I (bra (Z ++ 30 :: Y)) ≤ I 0) = (bra (Z ++ 30 :: Y) ≤ 0) := I_le (by omega) (by omega) (by omega) (by omega)
  obtain ⟨h1, e1, K1, F1⟩ := KT.down hn (l := 1) (by omega) (by omega) K hZ (fun b B' z => by cases z; decide) (fun b z => by
    rcases List.mem_cons.mp z with q | q
    · subst q; omega
    · exact rY b q)
  obtain ⟨fs1, eo1⟩ := K1.o
  obtain ⟨u, w, t, ru, sk, KK, ⟨t1, t2, t3, t4, t5, t6, t7, t8⟩, ⟨u2, u3, u4, u5, u6, u7, u8⟩, ⟨q1, q2, q3, q4⟩, ⟨y0, y1, y2, y3, y4⟩⟩ := K1
  have lY : ((30 :: Y).length : Int) = (Y.length : Int) + 1 := by rw [List.length_cons]; omega
  have dY : dep (30 :: Y) = dep Y + 1 := by rw [dep_c, if_pos (.inr rfl)]
  have bY : bra (30 :: Y) = bra Y + 1 := by rw [bra_c, if_pos rfl]
  obtain ⟨h2, e2, P2, F2⟩ := KK.1.s10 (Y.length : Int)
  obtain ⟨h3, e3, P3, F3⟩ := P2.s11 (dep Y)
  obtain ⟨h4, e4, P4, F4⟩ := P3.s12 (bra Y)
  obtain ⟨h5, e5, P5, F5⟩ := P4.s2 6
  have K5 := KK.ofP P5 (((F2.trans F3).trans F4).trans F5)
  have nr := nx_rng (T := T) (n := n) (s := s) B (by omega) t8 hn
  have n2 := nr.2.2 (by omega)
  refine ⟨h5, ?_, ⟨_, w, t, ru, sk, K5.1, ⟨t1, by rw [t2], by omega, by omega, by omega⟩, ⟨us_eq, u3, u4, u5, u6, u7, u8⟩, ⟨rfl, q2.2, rfl, rfl⟩, ⟨y0, y1, y2, y3, by omega⟩⟩, F1.trans K5.2⟩
  have l0 : (I ((Y.length : Int) + 1) ≤ I 0) = ((Y.length : Int) + 1 ≤ 0) := I_le (by omega) (by omega) (by omega) (by omega)
  have r11 : us u 10 (Y.length : Int) 11 = dep Y + 1 := by rw [us_ne (by omega), q3, dY]
  have r12 : us (us u 10 (Y.length : Int)) 11 (dep Y) 12 = bra Y + 1 := by rw [us_ne (by omega), us_ne (by omega), q4, bY]
  rw [f1_takeBehindFact, eo, Option.bind_some, K.lk, Option.bind_some]
  simp only [I_lit]
  rw [if_neg (by rw [l19]; omega), Option.bind_some, if_neg (by rw [l18]; omega), Option.bind_some, if_pos (by rw [l31]; exact kk), K.lbra, Option.bind_some, if_neg (by rw [lb]; omega), e1, Option.bind_some, f1_dropBracket, eo1, Option.bind_some, KK.1.f10, Option.bind_some, q1, lY]
  simp only [I_lit]
  rw [if_neg (by rw [l0]; omega), Option.bind_some, I_sub, show (Y.length : Int) + 1 - 1 = Y.length by omega, e2, Option.bind_some, P2.f11, Option.bind_some, r11, I_sub, show dep Y + 1 - 1 = dep Y by omega, e3, Option.bind_some, P3.f12, Option.bind_some, r12, I_sub, show bra Y + 1 - 1 = bra Y by omega, e4, Option.bind_some, Option.bind_some, e5, Option.bind_some]
/-- behind a FACT: neither; within brackets a FAULT, else the clause's end -/
theorem KT.other (K : KT h x r T n c s due sm cl nl once it W k0 k1 sz cd) (hn : n ≤ 400) (B : ∀ i, 0 ≤ i → i < n → 0 ≤ T i ∧ T i ≤ 255) (d0 : 0 ≤ due) (d1 : due ≤ 6) (k18 : kd T n s ≠ 18) (k19 : kd T n s ≠ 19) : (0 < bra W → kd T n s ≠ 31 → FO x r T n c s h (f1_takeBehindFact h (x + 24) (x + 22)) 0) ∧ (bra W = 0 → f1_takeBehindFact h (x + 24) (x + 22) = (f1_takeBehindClause h (x + 24) (x + 22)).bind fun y => some y) := by
  have kr := kd_rng T n s
  have ln := K.len hn
  have b2 := bra_nn W
  obtain ⟨fs, eo⟩ := K.o
  have l18 : (I (kd T n s) = I 18) = (kd T n s = 18) := Ik kr.1 (by omega) (by omega) (by omega)
  have l19 : (I (kd T n s) = I 19) = (kd T n s = 19) := Ik kr.1 (by omega) (by omega) (by omega)
  have l31 : (I (kd T n s) = I 31) = (kd T n s = 31) := Ik kr.1 (by omega) (by omega) (by omega)
  have lb : (I (bra W) ≤ I 0) = (bra W ≤ 0) := I_le (by omega) (by omega) (by omega) (by omega)
  rw [f1_takeBehindFact, eo, Option.bind_some, K.lk, Option.bind_some]
  simp only [I_lit]
  rw [if_neg (by rw [l19]; exact k19), Option.bind_some, if_neg (by rw [l18]; exact k18), Option.bind_some]
  refine ⟨fun a b => ?_, fun a => ?_⟩
  · rw [if_neg (by rw [l31]; exact b), K.lbra, Option.bind_some, if_neg (by rw [lb]; omega)]
    exact K.flt hn B d0 d1 0 (by omega)
  · by_cases b : kd T n s = 31
    · rw [if_pos (by rw [l31]; exact b), K.lbra, Option.bind_some, if_pos (by rw [lb]; omega), Option.bind_some, if_pos (by rw [lb]; omega)]
    · rw [if_neg (by rw [l31]; exact b), K.lbra, Option.bind_some, if_pos (by rw [lb]; omega)]
/-- behind a VALUE -/
theorem KT.behind (K : KT h x r T n c s due sm cl nl once it W k0 k1 sz cd) (nk : ¬ (27 ≤ kd T n s ∧ kd T n s ≤ 29)) : (sm = 2 → f1_takeBehindValue h (x + 24) (x + 22) = (f1_takeBehindFact h (x + 24) (x + 22)).bind fun y => some y) ∧ (sm = 1 → f1_takeBehindValue h (x + 24) (x + 22) = (f1_takeSign h (x + 24) (x + 22)).bind fun y => some y) ∧ (sm = 0 → kd T n s ≠ 17 → f1_takeBehindValue h (x + 24) (x + 22) = (f1_takeBehindClause h (x + 24) (x + 22)).bind fun y => some y) ∧ (sm = 0 → kd T n s = 17 → f1_takeBehindValue h (x + 24) (x + 22) = (f1_emitDownTo h (x + 24) (I 1)).bind fun y => (fS 1 4 y (x + 24) (.int (I 17))).bind fun h82 => (fS 1 2 h82 (x + 24) (.int (I 4))).bind fun h87 => some h87) := by
  have kr := kd_rng T n s
  obtain ⟨fs, eo⟩ := K.o
  have l27 : (I (kd T n s) = I 27) = (kd T n s = 27) := Ik kr.1 (by omega) (by omega) (by omega)
  have l28 : (I (kd T n s) = I 28) = (kd T n s = 28) := Ik kr.1 (by omega) (by omega) (by omega)
  have l29 : (I (kd T n s) = I 29) = (kd T n s = 29) := Ik kr.1 (by omega) (by omega) (by omega)
  have l17 : (I (kd T n s) = I 17) = (kd T n s = 17) := Ik kr.1 (by omega) (by omega) (by omega)
  rw [f1_takeBehindValue, eo, Option.bind_some, K.lk, Option.bind_some]
  simp only [I_lit]
  rw [if_neg (by rw [l27]; omega), if_neg (by rw [l28]; omega), if_neg (by rw [l29]; omega), K.lsum, Option.bind_some, Option.bind_some]
  refine ⟨fun a => ?_, fun a => ?_, fun a b => ?_, fun a b => ?_⟩
  · subst a; rw [if_pos rfl]
  · subst a; rw [if_neg (by decide), if_pos rfl]
  · subst a; rw [if_neg (by decide), if_neg (by decide), if_neg (by rw [l17]; exact b)]
  · subst a; rw [if_neg (by decide), if_neg (by decide), if_pos (by rw [l17]; exact b)]
/-- behind a VALUE: + - * -/
theorem KT.oper {Z Y : List Int} (K : KT h x r T n c s due sm cl nl once it (Z ++ Y) k0 k1 sz cd) (hn : n ≤ 400) (B : ∀ i, 0 ≤ i → i < n → 0 ≤ T i ∧ T i ≤ 255) (kk : 27 ≤ kd T n s ∧ kd T n s ≤ 29) (hZ : ∀ a ∈ Z, 0 ≤ a ∧ a ≤ 40 ∧ clos (kd T n s) ≤ clos a) (hY : ∀ b B', Y = b :: B' → clos b < clos (kd T n s)) (rY : ∀ b ∈ Y, 0 ≤ b ∧ b ≤ 40) : ∃ h', f1_takeBehindValue h (x + 24) (x + 22) = some h' ∧ KA h' x r T n (c + 1) (bl T n (nx T n s)) 3 sm cl nl once it (kd T n s :: Y) k0 k1 (sz + Z.length) (apd cd sz Z) ∧ Fc x r h h' := by
  have kr := kd_rng T n s
  obtain ⟨fs, eo⟩ := K.o
  have l27 : (I (kd T n s) = I 27) = (kd T n s = 27) := Ik kr.1 (by omega) (by omega) (by omega)
  have l28 : (I (kd T n s) = I 28) = (kd T n s = 28) := Ik kr.1 (by omega) (by omega) (by omega)
  have l29 : (I (kd T n s) = I 29) = (kd T n s = 29) := Ik kr.1 (by omega) (by omega) (by omega)
  obtain ⟨h2, e2, F2, G⟩ := K.join hn B (by omega) (e := kd T n s) (by omega) hZ hY rY
  obtain ⟨-, -, -, -, -, -, h5, a5, a6, a7⟩ := G 3 0
  refine ⟨h5, ?_, a6, a7⟩
  rw [f1_takeBehindValue, eo, Option.bind_some, K.lk, Option.bind_some]
  simp only [I_lit]
  by_cases z : kd T n s = 27
  · rw [if_pos (by rw [l27]; exact z), e2, Option.bind_some, a5, Option.bind_some]
  · rw [if_neg (by rw [l27]; exact z)]
    by_cases y : kd T n s = 28
    · rw [if_pos (by rw [l28]; exact y), e2, Option.bind_some, a5, Option.bind_some]
    · rw [if_neg (by rw [l28]; exact y), if_pos (by rw [l29]; omega), e2, Option.bind_some, a5, Option.bind_some]
/-- if -/
theorem KT.ifs {Z : List Int} (K : KT h x r T n c s 5 0 cl nl once it Z k0 k1 sz cd) (hn : n ≤ 400) (B : ∀ i, 0 ≤ i → i < n → 0 ≤ T i ∧ T i ≤ 255) (kk : kd T n s = 17) (hZ : ∀ a ∈ Z, 0 ≤ a ∧ a ≤ 40 ∧ 1 ≤ clos a) : ∃ h', f1_takeBehindValue h (x + 24) (x + 22) = some h' ∧ KA h' x r T n (c + 1) (bl T n (nx T n s)) 4 0 17 nl once it [] k0 k1 (sz + Z.length) (apd cd sz Z) ∧ Fc x r h h' := by
  have K' : KT h x r T n c s 5 0 cl nl once it (Z ++ []) k0 k1 sz cd := by rw [List.append_nil]; exact K
  obtain ⟨h1, e1, K1, F1⟩ := KT.down hn (l := 1) (by omega) (by omega) K' hZ (fun b B' z => (by cases z)) (fun b z => (by cases z))
  obtain ⟨h2, e2, K2, F2⟩ := (K1.put 17).2.2.1
  obtain ⟨h3, e3, K3, F3⟩ := (K2.put 4).1
  have K3' : KT h3 x r T n (c + 1 - 1) s 4 0 17 nl once it [] k0 k1 (sz + Z.length) (apd cd sz Z) := by rw [show c + 1 - 1 = c by omega]; exact K3
  refine ⟨h3, ?_, K3'.go hn B (by omega), (F1.trans F2).trans F3⟩
  rw [(K.behind (by omega)).2.2.2 rfl kk, e1, Option.bind_some, e2, Option.bind_some, e3, Option.bind_some]
end
