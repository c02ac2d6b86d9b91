/-! a TEST, whole -/
theorem kd_word {T : Int → Int} {n s : Int} (h : kd T n s ≤ 20) : isl T n s ∧ nx T n s = lend T n s := by
  have nd : ¬ isd T n s := fun q => by have := kd_21.mpr q; omega
  have il : isl T n s := by
    by_cases il : isl T n s
    · exact il
    · exfalso
      have tr := two_rng T n s
      unfold kd at h
      rw [if_neg nd, if_neg il] at h
      omega
  refine ⟨il, ?_⟩
  unfold nx
  rw [if_neg nd, if_pos il]
theorem split_str (l : Int) : ∀ O : List Int, ∃ A O2, O = A ++ O2 ∧ (∀ a ∈ A, l ≤ str a) ∧ (∀ o O', O2 = o :: O' → str o < l)
  | [] => ⟨[], [], rfl, fun a h => (by cases h), fun o O' h => (by cases h)⟩
  | a :: O => by
    by_cases c : l ≤ str a
    · obtain ⟨A, O2, e, p, q⟩ := split_str l O
      refine ⟨a :: A, O2, by rw [e]; rfl, fun b hb => ?_, q⟩
      rcases List.mem_cons.mp hb with z | z
      · subst z; exact c
      · exact p b z
    · exact ⟨[], a :: O, rfl, fun a h => (by cases h), fun o O' h => by cases h; omega⟩
theorem split_91 : ∀ O : List Int, (∀ o ∈ O, oo o) → 91 ∈ O → ∃ A O2, O = A ++ 91 :: O2 ∧ (∀ a ∈ A, 1 ≤ str a)
  | [], _, h => (by cases h)
  | a :: O, ho, h => by
    by_cases c : a = 91
    · subst c; exact ⟨[], O, rfl, fun a h => (by cases h)⟩
    · have h' : 91 ∈ O := by
        rcases List.mem_cons.mp h with z | z
        · exact absurd z.symm c
        · exact z
      obtain ⟨A, O2, e, p⟩ := split_91 O (fun o q => ho o (List.mem_cons_of_mem _ q)) h'
      refine ⟨a :: A, O2, by rw [e]; rfl, fun b hb => ?_⟩
      rcases List.mem_cons.mp hb with z | z
      · subst z; exact ((oo_v (ho b (List.mem_cons_self))).2.1 c).2.2.2
      · exact p b z
theorem bra_app : ∀ (P Y : List Int), bra (P ++ Y) = bra P + bra Y
  | [], Y => by simp [bra]
  | a :: P, Y => by rw [List.cons_append, bra_c, bra_c, bra_app]; omega
theorem bra_0 : ∀ (P : List Int), (∀ a ∈ P, 1 ≤ clos a) → bra P = 0
  | [], _ => rfl
  | a :: P, h => by
    rw [bra_c, bra_0 P (fun b hb => h b (List.mem_cons_of_mem _ hb)), if_neg (fun z => by subst z; have := h 30 (List.mem_cons_self); revert this; decide)]
    rfl
theorem bra_mo : ∀ (O : List Int), 91 ∈ O → 0 < bra (O.map mo)
  | [], h => (by cases h)
  | a :: O, h => by
    have b := bra_nn (O.map mo)
    rw [List.map_cons, bra_c]
    rcases List.mem_cons.mp h with z | z
    · subst z; rw [show mo 91 = 30 from rfl, if_pos rfl]; omega
    · have := bra_mo O z; split <;> omega
theorem KT.bf {h : AH} {x r : Nat} {T : Int → Int} {n c s due sm cl nl once it : Int} {W : List Int} {k0 k1 sz : Int} {cd : Int → Int} (K : KT h x r T n c s due sm cl nl once it W k0 k1 sz cd) (hb : (due = 5 ∧ sm = 2 ∧ ¬ (27 ≤ kd T n s ∧ kd T n s ≤ 29)) ∨ due = 6) : disp due x h = f1_takeBehindFact h (x + 24) (x + 22) := by
  rcases hb with ⟨a, b, d⟩ | a
  · subst a
    have e : disp 5 x h = f1_takeBehindValue h (x + 24) (x + 22) := by simp [disp]
    rw [e, (K.behind d).1 b]
    cases f1_takeBehindFact h (x + 24) (x + 22) <;> rfl
  · subst a; simp [disp]
def VF (x r m : Nat) (T : Int → Int) (n tx b nc : Int) (hc0 : AH) (c0 : Int) (hm0 : AH) (v0 : Nat → Int) (g0 : Nat → Int → Int) (cd0 : Int → Int) (se : Int64) (gl : Nat → Int → Int64) (k0 k1 nl once : Int) (cl bb s0 : Int) (hm' : AH) : Prop := ∃ hc' c' s' it' P O sz' cd' v' g', JJ x r m T n tx b nc hc0 c0 hm0 v0 g0 cd0 se gl k0 k1 nl once hc' hm' c' s' 5 2 cl it' (P ++ O.map mo) P.length sz' cd' v' g' bb (true :: List.replicate (nb O) true) ∧ OS v' g' O ∧ (∀ a ∈ P, 22 ≤ a ∧ a ≤ 29) ∧ s0 < s' ∧ ¬ (27 ≤ kd T n s' ∧ kd T n s' ≤ 29)
def AF (x r m : Nat) (T : Int → Int) (n tx b nc : Int) (hc0 : AH) (c0 : Int) (hm0 : AH) (v0 : Nat → Int) (g0 : Nat → Int → Int) (cd0 : Int → Int) (se : Int64) (gl : Nat → Int → Int64) (k0 k1 nl once : Int) (cl bb s0 : Int) (hm' : AH) : Prop := ∃ hc' c' s' due' it' P O sz' cd' v' g', JJ x r m T n tx b nc hc0 c0 hm0 v0 g0 cd0 se gl k0 k1 nl once hc' hm' c' s' due' 2 cl it' (P ++ O.map mo) P.length sz' cd' v' g' bb (true :: List.replicate (nb O) true) ∧ OS v' g' O ∧ (∀ a ∈ P, 0 ≤ a ∧ a ≤ 40 ∧ 3 ≤ clos a) ∧ (∀ o O', O = o :: O' → o ≠ 10) ∧ s0 < s' ∧ ((due' = 5 ∧ ¬ (27 ≤ kd T n s' ∧ kd T n s' ≤ 29)) ∨ due' = 6) ∧ (kd T n s' = 31 → ¬ 91 ∈ O)
def TF (x r m : Nat) (T : Int → Int) (n tx b nc : Int) (hc0 : AH) (c0 : Int) (hm0 : AH) (v0 : Nat → Int) (g0 : Nat → Int → Int) (cd0 : Int → Int) (se : Int64) (gl : Nat → Int → Int64) (k0 k1 nl once : Int) (cl bb s0 : Int) (hm' : AH) : Prop := ∃ hc' c' s' due' it' P sz' cd' v' g', JJ x r m T n tx b nc hc0 c0 hm0 v0 g0 cd0 se gl k0 k1 nl once hc' hm' c' s' due' 2 cl it' P P.length sz' cd' v' g' bb [true] ∧ (∀ a ∈ P, 0 ≤ a ∧ a ≤ 40 ∧ 1 ≤ clos a) ∧ ((due' = 5 ∧ ¬ (27 ≤ kd T n s' ∧ kd T n s' ≤ 29)) ∨ due' = 6) ∧ kd T n s' ≠ 18 ∧ kd T n s' ≠ 19 ∧ s0 < s'
section
variable {x r m : Nat} {T : Int → Int} {n tx b nc : Int} {hc0 : AH} {c0 : Int} {hm0 : AH} {v0 : Nat → Int} {g0 : Nat → Int → Int} {cd0 : Int → Int} {se : Int64} {gl : Nat → Int → Int64} {k0 k1 nl once : Int} {hc hm : AH} {c s due sm cl it : Int} {W : List Int} {k : Nat} {sz : Int} {cd : Int → Int} {v : Nat → Int} {g : Nat → Int → Int} {bb : Int} {Bt : List Bool} {O : List Int} {P : List Int}
theorem JJ.room (J : JJ x r m T n tx b nc hc0 c0 hm0 v0 g0 cd0 se gl k0 k1 nl once hc hm c s due sm cl it W k sz cd v g bb Bt) : sz + W.length + 1 ≤ c ∧ c ≤ n ∧ n ≤ 400 ∧ 0 ≤ sz := by
  obtain ⟨⟨K, FC, PE⟩, -, -, tt⟩ := J
  obtain ⟨u, w', t, ru, sk, K, ⟨q1, q2, q3, q4, q5⟩, -, -, ⟨-, -, -, y3, y4⟩⟩ := K
  exact ⟨y4, by omega, tt.2.2.1, y3⟩
/-- both sides go on -/
theorem JJ.both (J : JJ x r m T n tx b nc hc0 c0 hm0 v0 g0 cd0 se gl k0 k1 nl once hc hm c s due sm cl it W k sz cd v g bb Bt) {hc' : AH} {c' s' due' sm' cl' sz' : Int} {W' : List Int} {cd' : Int → Int} (K' : KA hc' x r T n c' s' due' sm' cl' nl once it W' k0 k1 sz' cd') (F' : Fc x r hc hc') (PE' : PLo x hc c = PLo x hc' c') {hm' : AH} {v' : Nat → Int} {g' : Nat → Int → Int} {k' : Nat} {Bt' : List Bool} (R' : RF hm' m v' se g' gl T) (FM' : Fr m (m + 24) hm hm') (vk : ∀ k, k ≠ 16 → k ≠ 18 → k ≠ 21 → k ≠ 24 → v' k = v k) (e16 : bl T n (v' 16) = s') (C' : CD cd' sz' W' k' (sgt g' tx) (g' 4 tx) b nc) (S' : SGN (sgt g' tx) (g' 4 tx) bb Bt' it) (cdb' : ∀ j, j < b + nc → cd' j = cd j) (G' : GB tx b v0 v' g0 g') : JJ x r m T n tx b nc hc0 c0 hm0 v0 g0 cd0 se gl k0 k1 nl once hc' hm' c' s' due' sm' cl' it W' k' sz' cd' v' g' bb Bt' := by
  obtain ⟨⟨K, FC, PE⟩, ⟨R, FM, e2, es, w0, e19, e20, G⟩, ⟨C, S, cdb, bbb⟩, tt⟩ := J
  exact ⟨⟨K', FC.trans F', by rw [PE, PE']⟩, ⟨R', FM.trans FM', by rw [vk 2 (by omega) (by omega) (by omega) (by omega)]; exact e2, e16, by rw [vk 17 (by omega) (by omega) (by omega) (by omega)]; exact w0, by rw [vk 19 (by omega) (by omega) (by omega) (by omega)]; exact e19, by rw [vk 20 (by omega) (by omega) (by omega) (by omega)]; exact e20, G'⟩, ⟨C', S', fun j hj => by rw [cdb' j hj]; exact cdb j hj, bbb⟩, tt⟩
theorem JJ.openStep (J : JJ x r m T n tx b nc hc0 c0 hm0 v0 g0 cd0 se gl k0 k1 nl once hc hm c s 4 sm cl it (O.map mo) 0 sz cd v g bb Bt) (S : OS v g O) {what : Int} (hw : what = 10 ∨ what = 91) (kk : kd T n s = mo what) (e16 : v 16 = s) : (∃ hm', f9_opens hm m (I what) = some (false, hm') ∧ FL x r m T n tx b nc hc0 c0 hm0 v0 g0 cd0 se gl k0 k1 nl once hm') ∨ (∃ hm1 v1 g1, f9_opens hm m (I what) = some (true, hm1) ∧ RF hm1 m v1 se g1 gl T ∧ v1 16 = s ∧ v1 2 = n ∧ ∀ hm2 v2, RF hm2 m v2 se g1 gl T → Fr m (m + 24) hm1 hm2 → (∀ k, k ≠ 16 → v2 k = v1 k) → v2 16 = nx T n s → ∃ hc', JJ x r m T n tx b nc hc0 c0 hm0 v0 g0 cd0 se gl k0 k1 nl once hc' hm2 (c + 1) (bl T n (nx T n s)) 4 sm cl it ((what :: O).map mo) 0 sz cd v2 g1 bb Bt ∧ OS v2 g1 (what :: O)) := by
  have J0 := J
  have sr := J.sr
  obtain ⟨⟨K, FC, PE⟩, ⟨R, FM, e2, es, w0, e19, e20, G⟩, ⟨C, S', cdb, bbb⟩, tt⟩ := J
  have B := sr.2.2.2.2.2.2.2.2.1
  have ol : ((O.map mo).length : Int) = O.length := by rw [List.length_map]
  obtain ⟨h1, K1, F1, e1⟩ := K.tok tt.2.2.1 B (by omega) (by omega)
  have ed : disp 4 x h1 = f1_takeFactStart h1 (x + 24) (x + 22) := by simp [disp]
  have k23 : kd T n s = 20 ∨ kd T n s = 30 := by
    rcases hw with q | q <;> subst q
    · exact .inl kk
    · exact .inr kk
  obtain ⟨X, Y⟩ := K1.opens tt.2.2.1 B k23
  rw [dep_mo O S.2.2.2.2] at X Y
  obtain ⟨M10, Mlt⟩ := R.opens w0 S (by omega) e16 hw
  by_cases z : dpo O = 10
  · obtain ⟨m1, f1, R1, G1⟩ := M10 z
    exact .inl ⟨m1, f1, J0.fail F1 e1 (by omega) (by omega) (by rw [ed]; exact X (by omega)) R1 G1 us_eq (G.v fun k a b c d e f => us_ne b) (by rw [us_ne (by omega)]; exact e2)⟩
  · have lt : dpo O < 10 := by have := S.2.2.2.1; omega
    obtain ⟨m1, f1, R1, S1, G1⟩ := Mlt lt
    obtain ⟨h2, a1, a2, a3⟩ := Y lt
    refine .inr ⟨m1, _, _, f1, R1, e16, e2, fun hm2 v2 R2 G2 vk v16 => ⟨h2, J0.both ?_ (F1.trans a3) (by rw [e1, ed, a1, Option.bind_some]) R2 (G1.trans G2) (fun k a b c d => by rw [vk k a, us_ne d, us_ne c]) (by rw [v16]) ?_ ?_ (fun _ _ => rfl) ?_, ?_⟩⟩
    · rw [List.map_cons, ← kk]; exact a2
    · have c1 : sgt (uf g 14 (up (g 14) O.length what)) tx = sgt g tx := by funext j; unfold sgt; rw [uf_ne (by omega)]
      rw [c1, uf_ne (by omega)]
      exact C.w
    · have c1 : sgt (uf g 14 (up (g 14) O.length what)) tx = sgt g tx := by funext j; unfold sgt; rw [uf_ne (by omega)]
      rw [c1, uf_ne (by omega)]
      exact S'
    · exact (G.v fun k a b c d e f => by rw [vk k a, us_ne f, us_ne e]).o
    · exact S1.of (vk 24 (by omega)) (vk 21 (by omega)) rfl
theorem clos_mo {O : List Int} (h : ∀ o ∈ O, oo o) : ∀ e W', O.map mo = e :: W' → clos e < 4 := by
  intro e W' q
  cases O with
  | nil => cases q
  | cons a O =>
    rw [List.map_cons] at q
    cases q
    have := oo_v (h a (List.mem_cons_self))
    omega
theorem JJ.factLoop (s0 : Int) : ∀ (f : Nat) (O : List Int) (hc hm : AH) (c s it sz : Int) (cd : Int → Int) (v : Nat → Int) (g : Nat → Int → Int), JJ x r m T n tx b nc hc0 c0 hm0 v0 g0 cd0 se gl k0 k1 nl once hc hm c s 4 sm cl it (O.map mo) 0 sz cd v g bb (List.replicate (nb O) true) → OS v g O → s0 ≤ s → n - s + 2 ≤ f → RES x r m T n tx b nc hc0 c0 hm0 v0 g0 cd0 se gl k0 k1 nl once (f9_fact__2 m f hm true) (VF x r m T n tx b nc hc0 c0 hm0 v0 g0 cd0 se gl k0 k1 nl once cl bb s0)
  | 0, O, hc, hm, c, s, it, sz, cd, v, g, J, S, hs, hf => by have := J.sr; omega
  | f + 1, O, hc, hm, c, s, it, sz, cd, v, g, J, S, hs, hf => by
    have sr := J.sr
    have n4 := J.2.2.2.2.2.1
    have B := sr.2.2.2.2.2.2.2.2.1
    have br := byt_rng (n := n) B sr.1
    have l91 : (I (byt T n s) = I 91) = (byt T n s = 91) := I_eq (by omega) (by omega) (by omega) (by omega)
    have k30 := kd_one (T := T) (n := n) (s := s) (c := 91) (k := 30) rfl (.inr (by omega))
    obtain ⟨m1, f1, J1⟩ := J.see
    obtain ⟨m2, f2, R2, G2⟩ := J1.2.1.1.isW J1.sr.2.2.2.2.2.2.2.2.2.1 wkn_not (by omega) (by omega) (by omega)
    have q2 : us v 16 s 2 = n := J1.2.1.2.2.1
    rw [q2] at f2
    rw [us_us] at R2
    have J2 := J1.ref R2 G2 (fun k a _ _ _ => rfl) (by rw [us_eq]; have := J1.2.1.2.2.2.1; rw [us_eq] at this; exact this)
    have S2 : OS (us v 16 s) g O := S.of (us_ne (by omega)) (us_ne (by omega)) rfl
    have nr := nx_rng B sr.1 sr.2.1 n4
    have b2 := bl_rng (T := T) nr.2.1
    rw [f9_fact__2, if_pos rfl, f1, Option.bind_some]
    simp only [I_lit, J_lit]
    rw [f2, Option.bind_some]
    by_cases z : kd T n s = 20
    · have n33 := nr.2.2 (by omega)
      have nxl := (kd_word (T := T) (n := n) (s := s) (by omega)).2
      rw [if_pos (decide_eq_true z)]
      rcases J2.openStep S2 (.inl rfl) z us_eq with ⟨m3, f3, L⟩ | ⟨m3, v3, g3, f3, R3, x16, x2, go⟩
      · rw [f3, Option.bind_some, if_neg (by simp)]
        exact .inl ⟨m3, rfl, L⟩
      · obtain ⟨m4, f4, R4, G4⟩ := R3.pass (s := s) x16
        rw [x2] at R4
        obtain ⟨hc5, J5, S5⟩ := go m4 _ R4 G4 (fun k a => us_ne a) (by rw [us_eq, nxl])
        rw [f3, Option.bind_some, if_pos rfl, f4, Option.bind_some]
        exact JJ.factLoop s0 f (10 :: O) hc5 m4 _ _ it sz cd _ g3 J5 S5 (by omega) (by omega)
    · rw [if_neg (by rw [decide_eq_true_eq]; exact z)]
      by_cases y : byt T n s = 91
      · have k := k30.mp y
        have n33 := nr.2.2 (by omega)
        have nx1 := nx_one (T := T) (n := n) (s := s) k (.inr (by omega))
        rw [if_pos (by rw [l91]; exact y)]
        rcases J2.openStep S2 (.inr rfl) k us_eq with ⟨m3, f3, L⟩ | ⟨m3, v3, g3, f3, R3, x16, x2, go⟩
        · rw [f3, Option.bind_some, if_neg (by simp)]
          exact .inl ⟨m3, rfl, L⟩
        · obtain ⟨m4, f4, R4, G4⟩ := R3.to (s + 1) (by omega) (by rw [x2]; omega)
          obtain ⟨hc5, J5, S5⟩ := go m4 _ R4 G4 (fun k a => us_ne a) (by rw [us_eq, nx1])
          rw [f3, Option.bind_some, if_pos rfl, R3.1.f16, Option.bind_some, x16, I_add, f4, Option.bind_some]
          exact JJ.factLoop s0 f (91 :: O) hc5 m4 _ _ it sz cd _ g3 J5 S5 (by omega) (by omega)
      · rw [if_neg (by rw [l91]; exact y)]
        obtain ⟨f', ef⟩ : ∃ f', f = f' + 1 := ⟨f - 1, by omega⟩
        subst ef
        rw [f9_fact__2, if_neg (by simp)]
        rcases J2.compare ⟨rfl, z, fun q => y (k30.mpr q)⟩ (clos_mo S.2.2.2.2) map_rng with ⟨m3, f3, L⟩ | ⟨m3, f3, V⟩
        · rw [f3, Option.bind_some]
          exact .inl ⟨m3, rfl, L⟩
        · obtain ⟨hc3, c3, s3, it3, P3, sz3, cd3, v3, g3, J3, q3, p3, x24, x21, x14⟩ := V
          rw [f3, Option.bind_some]
          exact .inr ⟨m3, rfl, hc3, c3, s3, it3, P3, O, sz3, cd3, v3, g3, J3, S2.of x24 x21 x14, q3, by omega, p3.2⟩
theorem JJ.settled {A O2 : List Int} {l : Int} (J : JJ x r m T n tx b nc hc0 c0 hm0 v0 g0 cd0 se gl k0 k1 nl once hc hm c s due 2 cl it (P ++ (A ++ O2).map mo) P.length sz cd v g bb (true :: List.replicate (nb (A ++ O2)) true)) (S : OS v g (A ++ O2)) (l1 : 1 ≤ l) (l3 : l ≤ 3) (hO : ∀ o O', O2 = o :: O' → str o < l) (hA : ∀ a ∈ A, l ≤ str a) : ∃ hm' v', f9_settles hm m (I l) = some hm' ∧ JJ x r m T n tx b nc hc0 c0 hm0 v0 g0 cd0 se gl k0 k1 nl once hc hm' c s due 2 cl it ((P ++ A.map mo) ++ O2.map mo) (P ++ A.map mo).length sz cd v' (gputs g tx A) bb (true :: List.replicate (nb O2) true) ∧ OS v' (gputs g tx A) O2 ∧ v' 16 = v 16 := by
  have sr := J.sr
  have rm := J.room
  have J0 := J
  obtain ⟨⟨K, FC, PE⟩, ⟨R, FM, e2, es, w0, e19, e20, G⟩, ⟨C, S', cdb, bbb⟩, tt⟩ := J
  have c1 := C.1
  have la : ((P ++ (A ++ O2).map mo).length : Int) = P.length + (A.length + O2.length : Int) := by rw [List.length_append, List.length_map, List.length_append]; omega
  have lb : ((A ++ O2).length : Int) = (A.length : Int) + O2.length := by rw [List.length_append]; omega
  have hA' : ∀ a ∈ A, oo a ∧ a ≠ 91 := fun a ha => ⟨S.2.2.2.2 a (List.mem_append_left _ ha), fun z => by have := hA a ha; have := (oo_v (S.2.2.2.2 a (List.mem_append_left _ ha))).2.2.1 z; omega⟩
  obtain ⟨m1, v1, f1, R1, V1, S1, G1⟩ := RF.settle l1 l3 tt.1 tt.2.1 hO R e19 S hA sr.2.2.2.2.1 (by omega) (by omega)
  have we : P ++ (A ++ O2).map mo = (P ++ A.map mo) ++ O2.map mo := by rw [List.map_append, List.append_assoc]
  have C1 := C.puts (A := A) (Y := O2.map mo) hA' (by rw [List.drop_left, List.map_append])
  rw [we] at C1 K
  refine ⟨m1, v1, f1, J0.both K (Fc.refl _ _ _) rfl R1 G1 (fun k a b c d => V1 k c d) (by rw [V1 16 (by omega) (by omega)]; exact es) ?_ (SGN.puts S' hA') (fun _ _ => rfl) ((G.v fun k a b c d e f => V1 k e f).puts sr.2.2.2.2.2.1 (by omega)), S1, V1 16 (by omega) (by omega)⟩
  rw [show (P ++ A.map mo).length = P.length + A.length by rw [List.length_append, List.length_map]]
  exact C1
theorem clos_app {A : List Int} {l : Int} (hp : ∀ a ∈ P, 0 ≤ a ∧ a ≤ 40 ∧ l ≤ clos a) (ho : ∀ a ∈ A, oo a) (hA : ∀ a ∈ A, l ≤ str a) : ∀ a ∈ P ++ A.map mo, 0 ≤ a ∧ a ≤ 40 ∧ l ≤ clos a := fun a ha => by
  rcases List.mem_append.mp ha with q | q
  · exact hp a q
  · obtain ⟨o, o1, o2⟩ := List.mem_map.mp q
    have := mo_rng o
    rw [← o2, (oo_v (ho o o1)).1]
    exact ⟨this.1, this.2, hA o o1⟩
end
