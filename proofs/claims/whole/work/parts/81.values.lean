/-! class and reference side by side within a clause (JJ); a FAULT on both sides (FL); a VALUE -/
def JJ (x r m : Nat) (T : Int → Int) (n tx b nc : Int) (hc0 : AH) (c0 : Int) (hm0 : AH) (v0 : Nat → Int) (g0 : Nat → Int → Int) (cd0 : Int → Int) (se : Int64) (gl : Nat → Int → Int64) (k0 k1 nl once : Int) (hc hm : AH) (c s due sm cl it : Int) (W : List Int) (k : Nat) (sz : Int) (cd : Int → Int) (v : Nat → Int) (g : Nat → Int → Int) (bb : Int) (Bt : List Bool) : Prop := (KA hc x r T n c s due sm cl nl once it W k0 k1 sz cd ∧ Fc x r hc0 hc ∧ PLo x hc0 c0 = PLo x hc c) ∧ (RF hm m v se g gl T ∧ Fr m (m + 24) hm0 hm ∧ v 2 = n ∧ bl T n (v 16) = s ∧ v 17 = 0 ∧ v 19 = tx ∧ v 20 = it ∧ GB tx b v0 v g0 g) ∧ (CD cd sz W k (sgt g tx) (g 4 tx) b nc ∧ SGN (sgt g tx) (g 4 tx) bb Bt it ∧ (∀ j, j < b + nc → cd j = cd0 j) ∧ b ≤ bb) ∧ (0 ≤ tx ∧ tx < 14 ∧ n ≤ 400 ∧ 0 ≤ it ∧ it ≤ 60 ∧ 0 ≤ b ∧ 0 ≤ nc)
def FL (x r m : Nat) (T : Int → Int) (n tx b nc : Int) (hc0 : AH) (c0 : Int) (hm0 : AH) (v0 : Nat → Int) (g0 : Nat → Int → Int) (cd0 : Int → Int) (se : Int64) (gl : Nat → Int → Int64) (k0 k1 nl once : Int) (hm' : AH) : Prop := ∃ hc' v' g', PLo x hc0 c0 = some (I (v' 17), hc') ∧ 0 < v' 17 ∧ v' 17 < 100000 ∧ KF hc' x r T n ∧ Fc x r hc0 hc' ∧ RF hm' m v' se g' gl T ∧ Fr m (m + 24) hm0 hm' ∧ v' 2 = n ∧ GB tx b v0 v' g0 g'
def RES (x r m : Nat) (T : Int → Int) (n tx b nc : Int) (hc0 : AH) (c0 : Int) (hm0 : AH) (v0 : Nat → Int) (g0 : Nat → Int → Int) (cd0 : Int → Int) (se : Int64) (gl : Nat → Int → Int64) (k0 k1 nl once : Int) (o : Option (Bool × AH)) (Q : AH → Prop) : Prop := (∃ hm', o = some (false, hm') ∧ FL x r m T n tx b nc hc0 c0 hm0 v0 g0 cd0 se gl k0 k1 nl once hm') ∨ (∃ hm', o = some (true, hm') ∧ Q hm')
def VP (x r m : Nat) (T : Int → Int) (n tx b nc : Int) (hc0 : AH) (c0 : Int) (hm0 : AH) (v0 : Nat → Int) (g0 : Nat → Int → Int) (cd0 : Int → Int) (se : Int64) (gl : Nat → Int → Int64) (k0 k1 nl once : Int) (v : Nat → Int) (g : Nat → Int → Int) (sm cl : Int) (W : List Int) (bb : Int) (Bt : List Bool) (Q : List Int → Prop) (S : Int → Prop) (hm' : AH) : Prop := ∃ hc' c' s' it' P sz' cd' v' g', JJ x r m T n tx b nc hc0 c0 hm0 v0 g0 cd0 se gl k0 k1 nl once hc' hm' c' s' 5 sm cl it' (P ++ W) P.length sz' cd' v' g' bb Bt ∧ Q P ∧ S s' ∧ v' 24 = v 24 ∧ v' 21 = v 21 ∧ g' 14 = g 14
theorem KA.val {h : AH} {x r : Nat} {T : Int → Int} {n c s due sm cl nl once it : Int} {W : List Int} {k0 k1 sz : Int} {cd : Int → Int} (K : KA h x r T n c s due sm cl nl once it W k0 k1 sz cd) (hn : n ≤ 400) (B : ∀ i, 0 ≤ i → i < n → 0 ≤ T i ∧ T i ≤ 255) (i0 : 0 ≤ it) (i1 : it ≤ 60) {sm' : Int} (hd : (due = 3 ∧ sm' = sm) ∨ (due = 4 ∧ sm' = 1 ∧ kd T n s ≠ 20 ∧ kd T n s ≠ 30)) : ∃ h1, Fc x r h h1 ∧ PLo x h c = (disp due x h1).bind (fun h2 => PLo x h2 (c + 1)) ∧ (¬ isd T n s → ¬ kd T n s ≤ 9 → FO x r T n c s h1 (disp due x h1) 0) ∧ (isd T n s → ¬ dend T n s - s ≤ 5 → FO x r T n c s h1 (disp due x h1) 1) ∧ (((isd T n s ∧ dend T n s - s ≤ 5) ∨ kd T n s ≤ 9) → it = 60 → FO x r T n c s h1 (disp due x h1) 3) ∧ (((isd T n s ∧ dend T n s - s ≤ 5) ∨ kd T n s ≤ 9) → it < 60 → ∃ h', disp due x h1 = some h' ∧ KA h' x r T n (c + 1) (bl T n (nx T n s)) 5 sm' cl nl once (it + 1) W k0 k1 (sz + 1) (up cd sz (if isd T n s then -1 - nvf T s (dend T n s - s).toNat else kd T n s)) ∧ Fc x r h1 h') := by
  obtain ⟨h1, K1, F1, e1⟩ := K.tok hn B (by omega) (by omega)
  refine ⟨h1, F1, e1, ?_⟩
  rcases hd with ⟨a, b⟩ | ⟨a, b, c20, c30⟩
  · subst a b
    have ed : disp 3 x h1 = f1_takeValue h1 (x + 24) (x + 22) := by simp [disp]
    rw [ed]
    exact K1.value hn B (by omega) (by omega) i0 i1
  · subst a b
    have kr := kd_rng T n s
    obtain ⟨fs, eo⟩ := K1.o
    have l20 : (I (kd T n s) = I 20) = (kd T n s = 20) := Ik kr.1 (by omega) (by omega) (by omega)
    have l30 : (I (kd T n s) = I 30) = (kd T n s = 30) := Ik kr.1 (by omega) (by omega) (by omega)
    obtain ⟨h2, e2, K2, F2⟩ := (K1.put 1).2.1
    obtain ⟨A0, A1, A3, AK⟩ := K2.value hn B (by omega) (by omega) i0 i1
    have ed : disp 4 x h1 = (f1_takeValue h2 (x + 24) (x + 22)).bind fun y => some y := by
      have : disp 4 x h1 = f1_takeFactStart h1 (x + 24) (x + 22) := by simp [disp]
      rw [this, f1_takeFactStart, eo, Option.bind_some, K1.lk, Option.bind_some]
      simp only [I_lit]
      rw [if_neg (by rw [l20]; exact c20), Option.bind_some, if_neg (by rw [l30]; exact c30), e2, Option.bind_some]
    rw [ed]
    refine ⟨fun p q => (A0 p q).b F2, fun p q => (A1 p q).b F2, fun p q => (A3 p q).b F2, fun p q => ?_⟩
    obtain ⟨h3, e3, K3, F3⟩ := AK p q
    exact ⟨h3, by rw [e3, Option.bind_some], K3, F2.trans F3⟩
section
variable {x r m : Nat} {T : Int → Int} {n tx b nc : Int} {hc0 : AH} {c0 : Int} {hm0 : AH} {v0 : Nat → Int} {g0 : Nat → Int → Int} {cd0 : Int → Int} {se : Int64} {gl : Nat → Int → Int64} {k0 k1 nl once : Int} {hc hm : AH} {c s due sm cl it : Int} {W : List Int} {k : Nat} {sz : Int} {cd : Int → Int} {v : Nat → Int} {g : Nat → Int → Int} {bb : Int} {Bt : List Bool}
theorem JJ.sr (J : JJ x r m T n tx b nc hc0 c0 hm0 v0 g0 cd0 se gl k0 k1 nl once hc hm c s due sm cl it W k sz cd v g bb Bt) : 0 ≤ s ∧ s ≤ n ∧ 0 ≤ c ∧ c ≤ n ∧ 0 ≤ g 4 tx ∧ b ≤ g 4 tx ∧ g 4 tx < 400 ∧ (W.length : Int) < 400 ∧ (∀ i, 0 ≤ i → i < n → 0 ≤ T i ∧ T i ≤ 255) ∧ bl T (v 2) (v 16) = s ∧ bb ≤ g 4 tx := by
  obtain ⟨⟨K, FC, PE⟩, ⟨R, FM, e2, es, w, e19, e20, G⟩, ⟨C, S, cdb, bbb⟩, ⟨t0, t1, n4, i0, i1, b0, nc0⟩⟩ := J
  obtain ⟨u, w', t, ru, sk, K, ⟨q1, q2, q3, q4, q5⟩, -, -, ⟨-, -, -, y3, y4⟩⟩ := K
  have a0 := R.2.2.1
  have a1 := R.2.2.2.1
  have br := bl_rng (T := T) (n := n) (i := v 16) (by omega)
  rw [es] at br
  have c1 := C.1
  have c2 := C.2.1
  have c3 := C.2.2.1
  exact ⟨by omega, br.2, q3, by omega, by omega, by omega, by omega, by omega, fun i i0 i1 => R.b i i0 (by omega), by rw [e2]; exact es, S.2.1⟩
theorem JJ.fail (J : JJ x r m T n tx b nc hc0 c0 hm0 v0 g0 cd0 se gl k0 k1 nl once hc hm c s due sm cl it W k sz cd v g bb Bt) {h1 : AH} {kk : Int} (F1 : Fc x r hc h1) (e : PLo x hc c = (disp due x h1).bind fun h2 => PLo x h2 (c + 1)) (k0' : 0 ≤ kk) (k1' : kk ≤ 7) (O : FO x r T n c s h1 (disp due x h1) kk) {hm' : AH} {v' : Nat → Int} {g' : Nat → Int → Int} (R' : RF hm' m v' se g' gl T) (F' : Fr m (m + 24) hm hm') (w : v' 17 = 1 + 8 * s + kk) (G' : GB tx b v0 v' g0 g') (n' : v' 2 = n) : FL x r m T n tx b nc hc0 c0 hm0 v0 g0 cd0 se gl k0 k1 nl once hm' := by
  have sr := J.sr
  obtain ⟨⟨K, FC, PE⟩, ⟨R, FM, e2, es, w0, e19, e20, G⟩, ⟨C, S, cdb, bbb⟩, ⟨t0, t1, n4, i0, i1, b0, nc0⟩⟩ := J
  obtain ⟨h2, a1, a2, a3, a4⟩ := O
  exact ⟨h2, v', g', by rw [PE, e, a1, Option.bind_some, a2, w], by omega, by omega, a3, (FC.trans F1).trans a4, R', FM.trans F', n', G'⟩
theorem JJ.done (J : JJ x r m T n tx b nc hc0 c0 hm0 v0 g0 cd0 se gl k0 k1 nl once hc hm c s due sm cl it W 0 sz cd v g bb Bt) {hc' : AH} {s' sm' y : Int} (K' : KA hc' x r T n (c + 1) s' 5 sm' cl nl once (it + 1) W k0 k1 (sz + 1) (up cd sz (en y))) (F' : Fc x r hc hc') (PE' : PLo x hc c = PLo x hc' (c + 1)) {hm' : AH} {v' : Nat → Int} (R' : RF hm' m v' se (gput g tx y) gl T) (FM' : Fr m (m + 24) hm hm') (vk : ∀ k, k ≠ 16 → k ≠ 17 → k ≠ 18 → k ≠ 20 → v' k = v k) (e16 : bl T n (v' 16) = s') (e17 : v' 17 = 0) (e20' : v' 20 = it + 1) (ey : en y < 10) (sy : sgk y) (i60 : it < 60) (ss : s < s') : VP x r m T n tx b nc hc0 c0 hm0 v0 g0 cd0 se gl k0 k1 nl once v g sm' cl W bb (false :: Bt) (fun P => P = []) (fun s' => s < s') hm' := by
  have sr := J.sr
  obtain ⟨⟨K, FC, PE⟩, ⟨R, FM, e2, es, w0, e19, e20, G⟩, ⟨C, S, cdb, bbb⟩, ⟨t0, t1, n4, i0, i1, b0, nc0⟩⟩ := J
  have c1 := C.1
  have c3 := C.2.2.1
  refine ⟨hc', c + 1, s', it + 1, [], sz + 1, up cd sz (en y), v', gput g tx y, ⟨⟨K', FC.trans F', by rw [PE, PE']⟩, ⟨R', FM.trans FM', by rw [vk 2 (by omega) (by omega) (by omega) (by omega)]; exact e2, e16, e17, by rw [vk 19 (by omega) (by omega) (by omega) (by omega)]; exact e19, e20', (G.v fun k a b c d _ _ => vk k a b c d).put sr.2.2.2.2.2.1 sr.2.2.2.2.2.2.1⟩, ⟨?_, ?_, fun j hj => by rw [up_ne (by omega)]; exact cdb j hj, bbb⟩, ⟨t0, t1, n4, by omega, by omega, b0, nc0⟩⟩, rfl, ss, vk 24 (by omega) (by omega) (by omega) (by omega), vk 21 (by omega) (by omega) (by omega) (by omega), gput_ne (by omega) (by omega)⟩
  · rw [sgt_put, gput_len]; exact C.val
  · rw [sgt_put, gput_len]
    refine S.put (B := Bt) ?_ sy ?_
    · unfold tk; rw [if_pos ey]
    · rw [if_pos (by simpa using ey)]; omega
theorem JJ.value (J : JJ x r m T n tx b nc hc0 c0 hm0 v0 g0 cd0 se gl k0 k1 nl once hc hm c s due sm cl it W 0 sz cd v g bb Bt) {sm' : Int} (hd : (due = 3 ∧ sm' = sm) ∨ (due = 4 ∧ sm' = 1 ∧ kd T n s ≠ 20 ∧ kd T n s ≠ 30)) : RES x r m T n tx b nc hc0 c0 hm0 v0 g0 cd0 se gl k0 k1 nl once (f9_value hm m) (VP x r m T n tx b nc hc0 c0 hm0 v0 g0 cd0 se gl k0 k1 nl once v g sm' cl W bb (false :: Bt) (fun P => P = []) (fun s' => s < s')) := by
  have J0 := J
  obtain ⟨s0, sn, -, -, g0', -, g4, -, B, es2, -⟩ := J.sr
  obtain ⟨⟨K, FC, PE⟩, ⟨R, FM, e2, es, w0, e19, e20, G⟩, ⟨C, S, cdb, bbb⟩, ⟨t0, t1, n4, i0, i1, b0, nc0⟩⟩ := J
  obtain ⟨h1, F1, PE1, A0, A1, A3, AK⟩ := K.val n4 B i0 i1 hd
  obtain ⟨m1, f1, R1, G1⟩ := R.see es2
  have q2 : us v 16 s 2 = n := e2
  have kr := kd_rng T n s
  have sgt_ : kd T n s ≠ 33 → s < bl T n (nx T n s) := fun z => by
    have a := nx_rng B s0 sn n4
    have b := bl_rng (T := T) a.2.1
    have := a.2.2 z
    omega
  have es3 : bl T (us v 16 s 2) (us v 16 s 16) = s := by rw [q2, us_eq, ← es]; exact bl_bl R.2.2.1 (by have := R.2.2.2.1; omega) n4
  rw [f9_value, R.1.o, Option.bind_some, f1, Option.bind_some, R1.1.f16, Option.bind_some, Option.bind_some, us_eq, R1.digit s0 (by omega), Option.bind_some, q2]
  simp only [I_lit]
  by_cases d : isd T n s
  · have dr := dend_rng (T := T) sn
    have de := dend_end (T := T) s0 sn n4
    have nv := nvf_lt (T := T) (s := s) (dend T n s - s).toNat (fun i hi => de.1 (s + i) (by omega) (by omega))
    have nxd : nx T n s = dend T n s := by unfold nx; rw [if_pos d]
    rw [if_pos (decide_eq_true d)]
    rcases R1.number es3 w0 (lo := 0) (hi := 99999) (by omega) (by omega) (by omega) (by omega) with ⟨a, -⟩ | ⟨a, a1, a2, a3, m2, f2, R2, G2⟩ | ⟨a, a1, m2, f2, R2, G2⟩
    · rw [q2] at a; exact absurd d a
    · rw [q2] at a1 R2
      rw [f2, Option.bind_some, if_pos rfl]
      obtain ⟨M60, Mlt⟩ := R2.makes w0 (it := it) (p := s) e20 i0 i1
      by_cases z : it = 60
      · obtain ⟨m3, f3, R3, G3⟩ := M60 z
        rw [f3, Option.bind_some, if_neg (by simp)]
        exact .inl ⟨m3, rfl, J0.fail F1 PE1 (by omega) (by omega) (A3 (.inl ⟨d, a1⟩) z) R3 ((G1.trans G2).trans G3) us_eq (G.v fun k a b c d e f => by rw [us_ne (by omega), us_ne (by omega), us_ne (by omega), us_ne (by omega)]) e2⟩
      · obtain ⟨m3, f3, R3, G3⟩ := Mlt (by omega)
        obtain ⟨m4, f4, R4, G4⟩ := R3.puts (a := 0) (y := nvf T s (dend T n s - s).toNat) (tx := tx) e19 t0 t1 g0' g4
        obtain ⟨hc', x1, x2, x3⟩ := AK (.inl ⟨d, a1⟩) (by omega)
        rw [f3, Option.bind_some, if_pos rfl, R3.1.f18, Option.bind_some]
        have e18 : us (us (us (us v 16 s) 16 (dend T n s)) 18 (nvf T s (dend T n s - s).toNat)) 20 (it + 1) 18 = nvf T s (dend T n s - s).toNat := rfl
        rw [e18, f4, Option.bind_some]
        have ey : en (0 + 16 * nvf T s (dend T n s - s).toNat) = -1 - nvf T s (dend T n s - s).toNat := by
          unfold en
          rw [if_pos (by omega)]
          omega
        rw [if_pos d, ← ey] at x2
        refine .inr ⟨m4, rfl, J0.done x2 (F1.trans x3) (by rw [PE1, x1, Option.bind_some]) R4 (((G1.trans G2).trans G3).trans G4) (fun k a b c d => by rw [us_ne d, us_ne c, us_ne a, us_ne a]) ?_ w0 rfl (by omega) ⟨by omega, by omega, by omega, fun z => by omega⟩ (by omega) (sgt_ (by rw [kd_21.mpr d]; omega))⟩
        show bl T n (dend T n s) = _
        rw [nxd]
    · rw [q2] at a1 R2
      rw [f2, Option.bind_some, if_neg (by simp)]
      exact .inl ⟨m2, rfl, J0.fail F1 PE1 (by omega) (by omega) (A1 d (by omega)) R2 (G1.trans G2) us_eq (G.v fun k a b c d e f => by rw [us_ne (by omega), us_ne (by omega), us_ne (by omega), us_ne (by omega)]) e2⟩
  · rw [if_neg (by rw [decide_eq_true_eq]; exact d)]
    obtain ⟨m2, f2, R2, G2⟩ := R1.wordHere es3
    rw [us_us] at R2
    rw [q2] at f2
    rw [f2, Option.bind_some]
    by_cases k9 : kd T n s ≤ 9
    · have l0 : (I 0 ≤ I (kd T n s)) = (0 ≤ kd T n s) := I_le (by omega) (by omega) (by omega) (by omega)
      have il : isl T n s := by
        by_cases il : isl T n s
        · exact il
        · exfalso
          have tr := two_rng T n s
          unfold kd at k9
          rw [if_neg d, if_neg il] at k9
          omega
      have nxl : nx T n s = lend T n s := by unfold nx; rw [if_neg d, if_pos il]
      rw [if_pos k9]
      obtain ⟨M60, Mlt⟩ := R2.makes w0 (it := it) (p := s) e20 i0 i1
      by_cases z : it = 60
      · obtain ⟨m3, f3, R3, G3⟩ := M60 z
        rw [if_pos (by rw [l0]; exact kr.1), f3, Option.bind_some, if_neg (by simp)]
        exact .inl ⟨m3, rfl, J0.fail F1 PE1 (by omega) (by omega) (A3 (.inr k9) z) R3 ((G1.trans G2).trans G3) us_eq (G.v fun k a b c d e f => by rw [us_ne (by omega), us_ne (by omega)]) e2⟩
      · obtain ⟨m3, f3, R3, G3⟩ := Mlt (by omega)
        have q3 : us (us v 16 s) 20 (it + 1) 2 = n := e2
        obtain ⟨m4, f4, R4, G4⟩ := R3.pass (s := s) rfl
        rw [q3] at R4
        obtain ⟨m5, f5, R5, G5⟩ := R4.puts (a := 1) (y := kd T n s) (tx := tx) e19 t0 t1 g0' g4
        obtain ⟨hc', x1, x2, x3⟩ := AK (.inr k9) (by omega)
        rw [if_pos (by rw [l0]; exact kr.1), f3, Option.bind_some, if_pos rfl, f4, Option.bind_some, f5, Option.bind_some]
        have ey : en (1 + 16 * kd T n s) = kd T n s := by
          unfold en
          rw [if_neg (by omega), if_pos (by omega)]
          omega
        rw [if_neg d] at x2
        have x2' : KA hc' x r T n (c + 1) (bl T n (nx T n s)) 5 sm' cl nl once (it + 1) W k0 k1 (sz + 1) (up cd sz (en (1 + 16 * kd T n s))) := by rw [ey]; exact x2
        refine .inr ⟨m5, rfl, J0.done x2' (F1.trans x3) (by rw [PE1, x1, Option.bind_some]) R5 ((((G1.trans G2).trans G3).trans G4).trans G5) (fun k a b c d => by rw [us_ne a, us_ne d, us_ne a]) ?_ w0 rfl (by omega) ⟨by omega, by omega, by omega, fun z => by omega⟩ (by omega) (sgt_ (by omega))⟩
        show bl T n (lend T n s) = _
        rw [nxl]
    · obtain ⟨m3, f3, R3, G3⟩ := R2.fails w0 (k := 0) (i := s)
      have l0 : (I 0 ≤ I (-1)) = ((0 : Int) ≤ -1) := I_le (by omega) (by omega) (by omega) (by omega)
      rw [if_neg k9, if_neg (by rw [l0]; omega), f3, Option.bind_some]
      exact .inl ⟨m3, rfl, J0.fail F1 PE1 (by omega) (by omega) (A0 d k9) R3 ((G1.trans G2).trans G3) us_eq (G.v fun k a b c d e f => by rw [us_ne (by omega), us_ne (by omega)]) e2⟩
end
