/-! brackets that close; and, or; the TEST's end -/
section
variable {x r m : Nat} {T : Int → Int} {n tx b nc : Int} {hc0 : AH} {c0 : Int} {hm0 : AH} {v0 : Nat → Int} {g0 : Nat → Int → Int} {cd0 : Int → Int} {se : Int64} {gl : Nat → Int → Int64} {k0 k1 nl once : Int} {hc hm : AH} {c s due sm cl it : Int} {W : List Int} {k : Nat} {sz : Int} {cd : Int → Int} {v : Nat → Int} {g : Nat → Int → Int} {bb : Int} {Bt : List Bool} {O : List Int} {P : List Int}
theorem sgt_o {g : Nat → Int → Int} {w : Int → Int} {tx : Int} : sgt (uf g 14 w) tx = sgt g tx := by funext j; unfold sgt; rw [uf_ne (by omega)]
theorem OS_app {v : Nat → Int} {g : Nat → Int → Int} {A O2 : List Int} (S : OS v g (A ++ O2)) : ∀ a ∈ A, oo a := fun a ha => S.2.2.2.2 a (List.mem_append_left _ ha)
theorem JJ.closeLoop (s0 : Int) : ∀ (f : Nat) (hc hm : AH) (c s due it sz : Int) (P O : List Int) (cd : Int → Int) (v : Nat → Int) (g : Nat → Int → Int), JJ x r m T n tx b nc hc0 c0 hm0 v0 g0 cd0 se gl k0 k1 nl once hc hm c s due 2 cl it (P ++ O.map mo) P.length sz cd v g bb (true :: List.replicate (nb O) true) → OS v g O → (∀ a ∈ P, 0 ≤ a ∧ a ≤ 40 ∧ 3 ≤ clos a) → (∀ o O', O = o :: O' → o ≠ 10) → s0 < s → ((due = 5 ∧ ¬ (27 ≤ kd T n s ∧ kd T n s ≤ 29)) ∨ due = 6) → n - s < f → ∃ hm', f9_closes_5 m f hm = some hm' ∧ AF x r m T n tx b nc hc0 c0 hm0 v0 g0 cd0 se gl k0 k1 nl once cl bb s0 hm'
  | 0, hc, hm, c, s, due, it, sz, P, O, cd, v, g, J, S, hP, hO, hs, hd, hf => by have := J.sr; omega
  | f + 1, hc, hm, c, s, due, it, sz, P, O, cd, v, g, J, S, hP, hO, hs, hd, hf => by
    have sr := J.sr
    have n4 := J.2.2.2.2.2.1
    have rm := J.room
    have B := sr.2.2.2.2.2.2.2.2.1
    have br := byt_rng (n := n) B sr.1
    have l93 : (I (byt T n s) = I 93) = (byt T n s = 93) := I_eq (by omega) (by omega) (by omega) (by omega)
    have k31 := kd_one (T := T) (n := n) (s := s) (c := 93) (k := 31) rfl (.inr (by omega))
    have lw : ((P ++ O.map mo).length : Int) = (P.length : Int) + O.length := by rw [List.length_append, List.length_map]; omega
    obtain ⟨m1, f1, J1⟩ := J.see
    have S1 : OS (us v 16 s) g O := S.of (us_ne (by omega)) (us_ne (by omega)) rfl
    have ins := J1.2.1.1.inside S1 (by omega)
    rw [f9_closes_5, f1, Option.bind_some]
    simp only [I_lit]
    by_cases z : byt T n s = 93
    · rw [if_pos (by rw [l93]; exact z), ins, Option.bind_some]
      have k := k31.mp z
      by_cases y : 91 ∈ O
      · obtain ⟨A, O2, eO, hA⟩ := split_91 O S.2.2.2.2 y
        subst eO
        have nx1 := nx_one (T := T) (n := n) (s := s) k (.inr (by omega))
        have sn : s < n := by have := nx_rng B sr.1 sr.2.1 n4; have := this.2.2 (by omega); omega
        obtain ⟨m2, v2, f2, J2, S2, x16⟩ := J1.settled (l := 1) (A := A) (O2 := 91 :: O2) S1 (by omega) (by omega) (fun o O' q => by cases q; decide) hA
        rw [us_eq] at x16
        have R2 := J2.2.1.1
        have s24 : v2 24 = (O2.length : Int) + 1 := by rw [S2.1, List.length_cons]; omega
        have s21 : v2 21 = dpo O2 + 1 := by rw [S2.2.2.1, dpo_c, if_pos (.inr rfl)]
        obtain ⟨m3, f3, M3, G3⟩ := R2.1.s24 (O2.length : Int)
        have R3 := R2.set M3 (by omega) (by omega)
        obtain ⟨m4, f4, M4, G4⟩ := R3.1.s21 (dpo O2)
        have R4 := R3.set M4 (by omega) (by omega)
        obtain ⟨m5, f5, R5, G5⟩ := R4.to (s + 1) (by omega) (by rw [us_ne (by omega), us_ne (by omega), J2.2.1.2.2.1]; omega)
        have q21 : us v2 24 (O2.length : Int) 21 = dpo O2 + 1 := by rw [us_ne (by omega)]; exact s21
        have q16 : us (us v2 24 (O2.length : Int)) 21 (dpo O2) 16 = s := by rw [us_ne (by omega), us_ne (by omega)]; exact x16
        -- the class
        obtain ⟨h1, K1, F1, e1⟩ := J2.1.1.tok n4 B (by omega) (by omega)
        have hZ := clos_app (P := P) (A := A) (l := 1) (fun a ha => by have := hP a ha; omega) (OS_app S) hA
        rw [List.map_cons, show mo 91 = 30 from rfl] at K1
        obtain ⟨h2, a1, a2, a3⟩ := K1.closes n4 B k hZ map_rng
        have ed := K1.bf (by rcases hd with ⟨p, q⟩ | p; exact .inl ⟨p, rfl, q⟩; exact .inr p)
        have C2 := J2.2.2.1.1
        have c3 := C2.2.2.1
        have J5 := J2.both (hc' := h2) (c' := c + 1) (s' := bl T n (s + 1)) (due' := 6) (sm' := 2) (cl' := cl) (sz' := sz + (P ++ A.map mo).length) (W' := O2.map mo) (cd' := apd cd sz (P ++ A.map mo)) (by rw [← nx1]; exact a2) (F1.trans a3) (by rw [e1, ed, a1, Option.bind_some]) (hm' := m5) (k' := 0) (Bt' := true :: List.replicate (nb O2) true) R5 ((G3.trans G4).trans G5) (fun k a b c d => by rw [us_ne a, us_ne c, us_ne d]) (by rw [us_eq]) ((C2.emit rfl).w) J2.2.2.1.2.1 (fun j hj => by rw [apd_lt (by omega)]) (J2.2.1.2.2.2.2.2.2.2.v fun k a b c d e f => by rw [us_ne a, us_ne e, us_ne f])
        have S5 : OS (us (us (us v2 24 (O2.length : Int)) 21 (dpo O2)) 16 (s + 1)) (gputs g tx A) O2 := ⟨rfl, S2.2.1.2, rfl, by have := S2.2.2.2.1; rw [dpo_c] at this; split at this <;> omega, fun o ho => S2.2.2.2.2 o (List.mem_cons_of_mem _ ho)⟩
        obtain ⟨A', O3, eO, hA', hO3⟩ := split_str 3 O2
        subst eO
        obtain ⟨m6, v6, f6, J6, S6, y16⟩ := JJ.settled (P := []) (A := A') (O2 := O3) (l := 3) J5 S5 (by omega) (by omega) hO3 hA'
        have b1 := bl_rng (T := T) (n := n) (i := s + 1) (by omega)
        obtain ⟨m7, f7, A7⟩ := JJ.closeLoop s0 f h2 m6 _ _ 6 _ _ ([] ++ A'.map mo) O3 _ _ _ J6 S6 (clos_app (fun a ha => by cases ha) (OS_app S5) hA') (fun o O' q => by have := hO3 o O' q; intro z; subst z; revert this; decide) (by omega) (.inr rfl) (by omega)
        rw [decide_eq_true y, if_pos rfl, f2, Option.bind_some, R2.1.f24, Option.bind_some, s24, I_sub, show (((A' ++ O3).length : Nat) : Int) + 1 - 1 = ((A' ++ O3).length : Int) by omega, f3, Option.bind_some, R3.1.f21, Option.bind_some, q21, I_sub, show dpo (A' ++ O3) + 1 - 1 = dpo (A' ++ O3) by omega, f4, Option.bind_some, R4.1.f16, Option.bind_some, q16, I_add, f5, Option.bind_some, f6, Option.bind_some]
        exact ⟨m7, f7, A7⟩
      · rw [decide_eq_false y, if_neg (by simp)]
        exact ⟨m1, rfl, hc, c, s, due, it, P, O, sz, cd, _, g, J1, S1, hP, hO, hs, hd, fun _ => y⟩
    · rw [if_neg (by rw [l93]; exact z)]
      exact ⟨m1, rfl, hc, c, s, due, it, P, O, sz, cd, _, g, J1, S1, hP, hO, hs, hd, fun q => absurd (k31.mpr q) z⟩
theorem VF.closes {cl bb s0 : Int} {hm : AH} (V : VF x r m T n tx b nc hc0 c0 hm0 v0 g0 cd0 se gl k0 k1 nl once cl bb s0 hm) : ∃ hm', f9_closes hm m = some hm' ∧ AF x r m T n tx b nc hc0 c0 hm0 v0 g0 cd0 se gl k0 k1 nl once cl bb s0 hm' := by
  have fu := FU_big
  obtain ⟨hc, c, s, it, P, O, sz, cd, v, g, J, S, hP, hs, hd⟩ := V
  have sr := J.sr
  have n4 := J.2.2.2.2.2.1
  obtain ⟨A, O2, eO, hA, hO⟩ := split_str 3 O
  subst eO
  obtain ⟨m1, v1, f1, J1, S1, x16⟩ := J.settled (l := 3) S (by omega) (by omega) hO hA
  obtain ⟨m2, f2, A2⟩ := JJ.closeLoop s0 FU hc m1 _ _ 5 _ _ (P ++ A.map mo) O2 _ _ _ J1 S1 (clos_app (fun a ha => by
    have := hP a ha
    have := (clos_v (e := a) (by omega)).1
    omega) (OS_app S) hA) (fun o O' q => by have := hO o O' q; intro z; subst z; revert this; decide) hs (.inl ⟨rfl, hd⟩) (by omega)
  exact ⟨m2, by rw [f9_closes, J.2.1.1.1.o, Option.bind_some]; simp only [I_lit]; rw [f1, Option.bind_some, f2], A2⟩
/-- and, or -/
theorem JJ.andOr {κ : AH → Bool → Option (Bool × AH)} {Q : AH → Prop} (J : JJ x r m T n tx b nc hc0 c0 hm0 v0 g0 cd0 se gl k0 k1 nl once hc hm c s due 2 cl it (P ++ O.map mo) P.length sz cd v g bb (true :: List.replicate (nb O) true)) (S : OS v g O) (hP : ∀ a ∈ P, 0 ≤ a ∧ a ≤ 40 ∧ 3 ≤ clos a) (hd : (due = 5 ∧ ¬ (27 ≤ kd T n s ∧ kd T n s ≤ 29)) ∨ due = 6) {s0 : Int} (kk : kd T n s = mo s0) (h0 : s0 = 11 ∨ s0 = 12) (e16 : v 16 = s) (hκ : ∀ hc' hm' c' s' sz' O' cd' v' g', JJ x r m T n tx b nc hc0 c0 hm0 v0 g0 cd0 se gl k0 k1 nl once hc' hm' c' s' 4 2 cl it (O'.map mo) 0 sz' cd' v' g' bb (List.replicate (nb O') true) → OS v' g' O' → s < s' → RES x r m T n tx b nc hc0 c0 hm0 v0 g0 cd0 se gl k0 k1 nl once (κ hm' true) Q) : RES x r m T n tx b nc hc0 c0 hm0 v0 g0 cd0 se gl k0 k1 nl once (f9_tested_76 κ hm m true (I s0)) Q := by
  have sr := J.sr
  have n4 := J.2.2.2.2.2.1
  have B := sr.2.2.2.2.2.2.2.2.1
  have rm := J.room
  have o0 : oo s0 := by rcases h0 with q | q <;> subst q; exact .inr (.inl rfl); exact .inr (.inr (.inl rfl))
  have st : str s0 = 1 ∨ str s0 = 2 := by rcases h0 with q | q <;> subst q; exact .inr rfl; exact .inl rfl
  have k20 : kd T n s = 18 ∨ kd T n s = 19 := by rcases h0 with q | q <;> subst q; exact .inr kk; exact .inl kk
  have ck : clos (kd T n s) = str s0 := by rw [kk]; exact (oo_v o0).1
  have nw := kd_word (T := T) (n := n) (s := s) (by omega)
  have nr := nx_rng B sr.1 sr.2.1 n4
  have n2 := nr.2.2 (by omega)
  have b1 := bl_rng (T := T) nr.2.1
  obtain ⟨A, O2, eO, hA, hO⟩ := split_str (str s0) O
  subst eO
  have lw : ((P ++ (A ++ O2).map mo).length : Int) = (P.length : Int) + (A.length + O2.length : Int) := by rw [List.length_append, List.length_map, List.length_append]; omega
  have lb : ((A ++ O2).length : Int) = (A.length : Int) + O2.length := by rw [List.length_append]; omega
  have hA' : ∀ a ∈ A, oo a ∧ a ≠ 91 := fun a ha => ⟨OS_app S a ha, fun z => by have := hA a ha; have := (oo_v (OS_app S a ha)).2.2.1 z; omega⟩
  have J0 := J
  obtain ⟨⟨K, FC, PE⟩, ⟨R, FM, e2, es, w0, e19, e20, G⟩, ⟨C, S', cdb, bbb⟩, tt⟩ := J
  have c1 := C.1
  have c3 := C.2.2.1
  obtain ⟨m1, f1, R1, G1⟩ := R.pass (s := s) e16
  rw [e2, ← nw.2] at R1
  obtain ⟨m2, v2, f2, R2, V2, S2, G2⟩ := RF.settle (l := str s0) (by omega) (by omega) tt.1 tt.2.1 hO R1 (by rw [us_ne (by omega)]; exact e19) (S.of (us_ne (by omega)) (us_ne (by omega)) rfl) hA sr.2.2.2.2.1 (by omega) (by omega)
  obtain ⟨m3, f3, M3, G3⟩ := R2.1.w14 (i := (O2.length : Int)) s0 (by omega) (by omega)
  have R3 := R2.setg M3 (by omega)
  obtain ⟨m4, f4, M4, G4⟩ := R3.1.s24 ((O2.length : Int) + 1)
  have R4 := R3.set M4 (by omega) (by omega)
  -- the class
  obtain ⟨h1, K1, F1, e1⟩ := K.tok n4 B (by omega) (by omega)
  have we : P ++ (A ++ O2).map mo = (P ++ A.map mo) ++ O2.map mo := by rw [List.map_append, List.append_assoc]
  have C1 := C.puts (A := A) (Y := O2.map mo) hA' (by rw [List.drop_left, List.map_append])
  rw [we] at C1 K1
  have hZ := clos_app (P := P) (A := A) (l := str s0) (fun a ha => by have := hP a ha; omega) (OS_app S) hA
  obtain ⟨h2, a1, a2, a3⟩ := K1.andOr n4 B k20 (by rw [ck]; exact hZ) (fun b B' q => by
    rw [ck]
    cases O2 with
    | nil => cases q
    | cons o O3 =>
      rw [List.map_cons] at q
      cases q
      rw [(oo_v (S2.2.2.2.2 o (List.mem_cons_self))).1]
      exact hO o O3 rfl) map_rng
  have ed := K1.bf (by rcases hd with ⟨p, q⟩ | p; exact .inl ⟨p, rfl, q⟩; exact .inr p)
  have pl : P.length + A.length = (P ++ A.map mo).length := by rw [List.length_append, List.length_map]
  rw [pl] at C1
  have J4 := J0.both (hc' := h2) (c' := c + 1) (s' := bl T n (nx T n s)) (due' := 4) (sm' := 2) (cl' := cl) (sz' := sz + (P ++ A.map mo).length) (W' := (s0 :: O2).map mo) (cd' := apd cd sz (P ++ A.map mo)) (by rw [List.map_cons, ← kk]; exact a2) (F1.trans a3) (by rw [e1, ed, a1, Option.bind_some]) (hm' := m4) (k' := 0) (Bt' := List.replicate (nb (s0 :: O2)) true) R4 (((G1.trans G2).trans G3).trans G4) (fun k a b c d => by rw [us_ne d, V2 k c d, us_ne a]) (by rw [us_ne (by omega), V2 16 (by omega) (by omega), us_eq]) (by rw [sgt_o, uf_ne (by omega)]; exact (C1.emit rfl).w) (by
    have q : nb (s0 :: O2) = nb O2 + 1 := by rw [nb_c, if_pos h0]
    rw [q, sgt_o, uf_ne (by omega)]
    exact SGN.puts S' hA') (fun j hj => by rw [apd_lt (by omega)]) ((G.v fun k a b c d e f => by rw [us_ne f, V2 k e f, us_ne a]).puts (A := A) sr.2.2.2.2.2.1 (by omega)).o
  have S4 : OS (us v2 24 ((O2.length : Int) + 1)) (uf (gputs g tx A) 14 (up (gputs g tx A 14) O2.length s0)) (s0 :: O2) := by
    refine ⟨by rw [us_eq, List.length_cons]; omega, by rw [uf_eq]; exact hi_push S2.2.1, ?_, ?_, fun o ho => ?_⟩
    · rw [us_ne (by omega), S2.2.2.1, dpo_c, if_neg (by omega)]; omega
    · rw [dpo_c, if_neg (by omega)]; have := S2.2.2.2.1; omega
    · rcases List.mem_cons.mp ho with q | q
      · subst q; exact o0
      · exact S2.2.2.2.2 o q
  have q24 := S2.1
  rw [f9_tested_76, f1, Option.bind_some, strength_of o0, Option.bind_some, f2, Option.bind_some, R2.1.f23, Option.bind_some, R2.1.f24, Option.bind_some, q24, f3, Option.bind_some, R3.1.f24, Option.bind_some, q24]
  simp only [I_lit]
  rw [I_add, f4, Option.bind_some]
  exact hκ h2 m4 _ _ _ _ _ _ _ J4 S4 (by omega)
theorem JJ.testLoop (s0 : Int) : ∀ (f : Nat) (O : List Int) (sm : Int) (hc hm : AH) (c s it sz : Int) (cd : Int → Int) (v : Nat → Int) (g : Nat → Int → Int), JJ x r m T n tx b nc hc0 c0 hm0 v0 g0 cd0 se gl k0 k1 nl once hc hm c s 4 sm cl it (O.map mo) 0 sz cd v g bb (List.replicate (nb O) true) → OS v g O → s0 ≤ s → n - s + 2 ≤ f → RES x r m T n tx b nc hc0 c0 hm0 v0 g0 cd0 se gl k0 k1 nl once (f9_tested_12 m f hm true) (TF x r m T n tx b nc hc0 c0 hm0 v0 g0 cd0 se gl k0 k1 nl once cl bb s0)
  | 0, O, sm, hc, hm, c, s, it, sz, cd, v, g, J, S, hs, hf => by have := J.sr; omega
  | f + 1, O, sm, hc, hm, c, s, it, sz, cd, v, g, J, S, hs, hf => by
    have fu := FU_big
    have sr0 := J.sr
    have n4 := J.2.2.2.2.2.1
    rw [f9_tested_12, if_pos rfl, f9_fact_, J.2.1.1.1.o, Option.bind_some]
    rcases JJ.factLoop s FU O hc hm c s it sz cd v g J S (Int.le_refl _) (by omega) with ⟨m1, f1, L⟩ | ⟨m1, f1, V⟩
    · rw [f1, Option.bind_some, if_neg (by simp)]
      exact .inl ⟨m1, rfl, L⟩
    obtain ⟨m2, f2, A2⟩ := V.closes
    obtain ⟨hc2, c2, s2, due2, it2, P2, O2, sz2, cd2, v2, g2, J2, S2, hP2, hO2, hs2, hd2, h31⟩ := A2
    have sr := J2.sr
    have B := sr.2.2.2.2.2.2.2.2.1
    have rm := J2.room
    have lw : ((P2 ++ O2.map mo).length : Int) = (P2.length : Int) + O2.length := by rw [List.length_append, List.length_map]; omega
    have e2 := J2.2.1.2.2.1
    -- is it this word, as often as asked
    have isw : ∀ {mm : AH} {vv : Nat → Int}, JJ x r m T n tx b nc hc0 c0 hm0 v0 g0 cd0 se gl k0 k1 nl once hc2 mm c2 s2 due2 2 cl it2 (P2 ++ O2.map mo) P2.length sz2 cd2 vv g2 bb (true :: List.replicate (nb O2) true) → OS vv g2 O2 → ∀ {w k : Int}, (∀ P : Int, (P = w) = (wkn P = k)) → 0 < w → w < 9223372036854775808 → k ≤ 20 → ∃ hm', f9_isWord mm m (CSafeVolumesLaw_law_r1647_6df7c3.J w) = some (decide (kd T n s2 = k), hm') ∧ JJ x r m T n tx b nc hc0 c0 hm0 v0 g0 cd0 se gl k0 k1 nl once hc2 hm' c2 s2 due2 2 cl it2 (P2 ++ O2.map mo) P2.length sz2 cd2 (us vv 16 s2) g2 bb (true :: List.replicate (nb O2) true) ∧ OS (us vv 16 s2) g2 O2 := fun {mm vv} JX SX {w k} a b d d' => by
      obtain ⟨mm', fx, RX, GX⟩ := JX.2.1.1.isW JX.sr.2.2.2.2.2.2.2.2.2.1 a b d d'
      rw [JX.2.1.2.2.1] at fx
      refine ⟨mm', fx, JX.ref RX GX (fun k a _ _ _ => us_ne a) ?_, SX.of (us_ne (by omega)) (us_ne (by omega)) rfl⟩
      rw [us_eq]
      have R := JX.2.1.1
      have e := JX.2.1.2.2.1
      have := bl_bl (T := T) (n := n) (i := _) R.2.2.1 (by have := R.2.2.2.1; omega) n4
      rw [JX.2.1.2.2.2.1] at this
      exact this
    obtain ⟨m3, f3, J3, S3⟩ := isw J2 S2 wkn_and (by omega) (by omega) (by omega)
    obtain ⟨m4, f4, J4, S4⟩ := isw J3 S3 wkn_and (by omega) (by omega) (by omega)
    obtain ⟨m5, f5, J5, S5⟩ := isw J3 S3 wkn_or (by omega) (by omega) (by omega)
    obtain ⟨m6, f6, J6, S6⟩ := isw J5 S5 wkn_and (by omega) (by omega) (by omega)
    have n10 : ¬ (I 1 = I 0) := by rw [I_eq (by omega) (by omega) (by omega) (by omega)]; omega
    have next : ∀ hc' hm' c' s' sz' O' cd' v' g', JJ x r m T n tx b nc hc0 c0 hm0 v0 g0 cd0 se gl k0 k1 nl once hc' hm' c' s' 4 2 cl it2 (O'.map mo) 0 sz' cd' v' g' bb (List.replicate (nb O') true) → OS v' g' O' → s2 < s' → RES x r m T n tx b nc hc0 c0 hm0 v0 g0 cd0 se gl k0 k1 nl once ((fun h v1 => f9_tested_12 m f h v1) hm' true) (TF x r m T n tx b nc hc0 c0 hm0 v0 g0 cd0 se gl k0 k1 nl once cl bb s0) := fun hc' hm' c' s' sz' O' cd' v' g' J' S' l => JJ.testLoop s0 f O' 2 hc' hm' c' s' it2 sz' cd' v' g' J' S' (by omega) (by omega)
    rw [f1, Option.bind_some, if_pos rfl, f2, Option.bind_some]
    simp only [I_lit, J_lit]
    rw [f3, Option.bind_some]
    by_cases z : kd T n s2 = 19
    · rw [if_pos (decide_eq_true z), f9_tested_49]
      simp only [I_lit, J_lit]
      rw [if_neg n10, f4, Option.bind_some, if_pos (decide_eq_true z)]
      exact J4.andOr S4 hP2 hd2 (s0 := 11) z (.inl rfl) us_eq next
    rw [if_neg (by rw [decide_eq_true_eq]; exact z), f5, Option.bind_some]
    by_cases y : kd T n s2 = 18
    · rw [if_pos (decide_eq_true y), f9_tested_49]
      simp only [I_lit, J_lit]
      rw [if_neg n10, f6, Option.bind_some, if_neg (by rw [decide_eq_true_eq]; exact z)]
      exact J6.andOr S6 hP2 hd2 (s0 := 12) y (.inr rfl) us_eq next
    rw [if_neg (by rw [decide_eq_true_eq]; exact y), if_pos trivial]
    obtain ⟨f', ef⟩ : ∃ f', f = f' + 1 := ⟨f - 1, by omega⟩
    subst ef
    rw [f9_tested_12, if_neg (by simp), J5.2.1.1.inside S5 (by omega), Option.bind_some]
    by_cases w : 91 ∈ O2
    · obtain ⟨m7, f7, J7⟩ := J5.see
      obtain ⟨m8, f8, R8, G8⟩ := J7.2.1.1.fails (k := 0) (i := s2) J7.2.1.2.2.2.2.1
      obtain ⟨h1, K1, F1, e1⟩ := J7.1.1.tok n4 B (by omega) (by omega)
      have ed := K1.bf (by rcases hd2 with ⟨p, q⟩ | p; exact .inl ⟨p, rfl, q⟩; exact .inr p)
      have bm := bra_mo O2 w
      have O0 := (K1.other n4 B (by omega) (by omega) y z).1 (by rw [bra_app, bra_0 P2 (fun a ha => by have := hP2 a ha; omega)]; omega) (fun q => h31 q w)
      rw [decide_eq_true w, if_pos rfl, f7, Option.bind_some, J7.2.1.1.1.f16, Option.bind_some, us_eq]
      simp only [I_lit]
      rw [f8, Option.bind_some]
      exact .inl ⟨m8, rfl, J7.fail F1 e1 (by omega) (by omega) (by rw [ed]; exact O0) R8 G8 us_eq (J7.2.1.2.2.2.2.2.2.2.v fun k a b c d e f => by rw [us_ne b]) (by rw [us_ne (by omega)]; exact J7.2.1.2.2.1)⟩
    · have hall : ∀ a ∈ O2, 1 ≤ str a := fun a ha => ((oo_v (S5.2.2.2.2 a ha)).2.1 (fun q => by subst q; exact w ha)).2.2.2
      have J5' : JJ x r m T n tx b nc hc0 c0 hm0 v0 g0 cd0 se gl k0 k1 nl once hc2 m5 c2 s2 due2 2 cl it2 (P2 ++ (O2 ++ []).map mo) P2.length sz2 cd2 (us (us v2 16 s2) 16 s2) g2 bb (true :: List.replicate (nb (O2 ++ [])) true) := by rw [List.append_nil]; exact J5
      have S5' : OS (us (us v2 16 s2) 16 s2) g2 (O2 ++ []) := by rw [List.append_nil]; exact S5
      obtain ⟨m7, v7, f7, J7, S7, x16⟩ := J5'.settled (l := 1) S5' (by omega) (by omega) (fun o O' q => by cases q) hall
      rw [decide_eq_false w, if_neg (by simp)]
      simp only [I_lit]
      rw [f7, Option.bind_some]
      rw [List.map_nil, List.append_nil] at J7
      exact .inr ⟨m7, rfl, hc2, c2, s2, due2, it2, P2 ++ O2.map mo, sz2, cd2, v7, _, J7, clos_app (fun a ha => by have := hP2 a ha; omega) S5.2.2.2.2 hall, hd2, y, z, by omega⟩
theorem JJ.tested (J : JJ x r m T n tx b nc hc0 c0 hm0 v0 g0 cd0 se gl k0 k1 nl once hc hm c s 4 sm cl it [] 0 sz cd v g bb []) : RES x r m T n tx b nc hc0 c0 hm0 v0 g0 cd0 se gl k0 k1 nl once (f9_tested hm m) (TF x r m T n tx b nc hc0 c0 hm0 v0 g0 cd0 se gl k0 k1 nl once cl bb s) := by
  have fu := FU_big
  have sr := J.sr
  have n4 := J.2.2.2.2.2.1
  obtain ⟨m1, f1, M1, G1⟩ := J.2.1.1.1.s24 0
  have R1 := J.2.1.1.set M1 (by omega) (by omega)
  obtain ⟨m2, f2, M2, G2⟩ := R1.1.s21 0
  have R2 := R1.set M2 (by omega) (by omega)
  have J2 := J.ref R2 (G1.trans G2) (fun k a b c d => by rw [us_ne c, us_ne d]) (by rw [us_ne (by omega), us_ne (by omega)]; exact J.2.1.2.2.2.1)
  rw [f9_tested, J.2.1.1.1.o, Option.bind_some]
  simp only [I_lit]
  rw [f1, Option.bind_some, f2, Option.bind_some]
  exact JJ.testLoop s FU [] sm hc m2 c s it sz cd _ g J2 ⟨rfl, trivial, rfl, by decide, fun o h => by cases h⟩ (Int.le_refl _) (by omega)
end
