/-! a CLAUSE of a MAKER, whole; a text read as a MAKER -/
section
variable {x r m : Nat} {T : Int → Int} {n tx : Int} {hcb : AH} {cb : Int} {hmb : AH} {vb : Nat → Int} {gb : Nat → Int → Int} {se : Int64} {gl : Nat → Int → Int64} {hc hm : AH} {c s nl cl : Int} {v : Nat → Int} {g : Nat → Int → Int} {a b : Bool} {mu : Nat → Int} {ms : Int → Int}
set_option maxHeartbeats 4000000 in
theorem Q0M.clause {d : Int} (Q : Q0M x r m T n tx hcb cb hmb vb gb se gl d hm) : (∃ hm', f9_clauseHere hm m = some (false, hm') ∧ QFM x r m T n tx hcb cb hmb vb gb se gl hm') ∨ (∃ hm', f9_clauseHere hm m = some (true, hm') ∧ Q1M x r m T n tx hcb cb hmb vb gb se gl d hm') := by
  obtain ⟨hc, c, s, cl, nl, a, b, mu, ms, v, g, Y, K, X, ed⟩ := Q
  subst ed
  have sr := Y.sr
  have n4 := Y.2.2.2.2.1
  have t0 := Y.2.2.1
  have t14 := Y.2.2.2.1
  have V := Y.2.2.2.2.2
  have B := sr.2.2.1
  have xs := X.2.1
  have xq := X.2.2.1
  obtain ⟨h1, F1, e1, O0, O4, OK⟩ := K.first n4 B (by omega) (by omega)
  obtain ⟨m1, f1, Y1⟩ := Y.see
  obtain ⟨m2, f2, Y2⟩ := Y1.isW wkn_pace (by omega) (by omega) (by omega)
  obtain ⟨m3, f3, Y3⟩ := Y2.isW wkn_slips (by omega) (by omega) (by omega)
  obtain ⟨m4, f4, Y4⟩ := Y3.isW wkn_from (by omega) (by omega) (by omega)
  obtain ⟨mo_, fo, Yo⟩ := Y4.isW wkn_of (by omega) (by omega) (by omega)
  have l8 : (I 8 ≤ I tx) = (8 ≤ tx) := I_le (by omega) (by omega) (by omega) (by omega)
  have c112 : ∀ {mm : AH} {vv : Nat → Int}, RBm x r m T n tx hcb cb hmb vb gb se gl hc mm c s nl (us vv 16 s) g → mword (kd T n s) → (∃ hm', f9_clauseHere_112 mm m (I s) true = some (false, hm') ∧ QFM x r m T n tx hcb cb hmb vb gb se gl hm') ∨ (∃ hm', f9_clauseHere_112 mm m (I s) true = some (true, hm') ∧ Q1M x r m T n tx hcb cb hmb vb gb se gl (n - s) hm') := fun {mm vv} Z kk => by
    have z22 := Z.2.1.2.2.2.2.2.2.1
    have z19 := Z.2.1.2.2.2.2.2.1
    have z17 := Z.2.1.2.2.2.2.1
    have k13 : 13 ≤ kd T n s ∧ kd T n s ≤ 16 := by rcases kk with q | q | q | q <;> omega
    have l12 : (I nl = I 12) = (nl = 12) := I_eq (by omega) (by omega) (by omega) (by omega)
    rw [f9_clauseHere_112]
    simp only [I_lit, J_lit, if_true]
    rw [Z.2.1.1.1.f22, Option.bind_some, z22]
    by_cases z : nl = 12
    · obtain ⟨m5, f5, R5, G5⟩ := Z.2.1.1.fails (k := 4) (i := s) z17
      rw [if_pos (by rw [l12]; exact z), f5, Option.bind_some]
      exact .inl ⟨m5, rfl, Z.fail F1 e1 (by omega) (by omega) (O4 kk (.inl z)) R5 G5 us_eq (fun k a b c d => us_ne b)⟩
    · obtain ⟨m5, f5, M5, G5⟩ := Z.2.1.1.1.s22 (nl + 1)
      have R5 := Z.2.1.1.set M5 (by omega) (by omega)
      have y2 : us (us vv 16 s) 22 (nl + 1) 2 = n := by rw [us_ne (by omega)]; exact Z.2.1.2.2.1
      have y16 : us (us vv 16 s) 22 (nl + 1) 16 = s := by rw [us_ne (by omega), us_eq]
      have y19 : us (us vv 16 s) 22 (nl + 1) 19 = tx := by rw [us_ne (by omega)]; exact z19
      have y17 : us (us vv 16 s) 22 (nl + 1) 17 = 0 := by rw [us_ne (by omega)]; exact z17
      have again : ∀ {m6 : AH}, RF m6 m (us (us vv 16 s) 22 (nl + 1)) se g gl T → ∀ {W k : Int}, (∀ P : Int, (P = W) = (wkn P = k)) → 0 < W → W < 9223372036854775808 → k ≤ 20 → ∃ m7, f9_isWord m6 m (CSafeVolumesLaw_law_r1647_6df7c3.J W) = some (decide (kd T n s = k), m7) ∧ RF m7 m (us (us vv 16 s) 22 (nl + 1)) se g gl T ∧ Fr m (m + 24) m6 m7 := fun {m6} R6 {W k} p q o u => by
        obtain ⟨m7, f7, R7, G7⟩ := R6.isW (s := s) (by rw [y2, y16]; exact sr.2.2.2.2) p q o u
        rw [y2] at f7
        have same : us (us (us vv 16 s) 22 (nl + 1)) 16 s = us (us vv 16 s) 22 (nl + 1) := by
          funext k
          by_cases k16 : k = 16
          · subst k16; rw [us_eq, y16]
          · rw [us_ne k16]
        rw [same] at R7
        exact ⟨m7, f7, R7, G7⟩
      obtain ⟨m6, f6, R6, G6⟩ := again R5 wkn_yes (by omega) (by omega) (by omega)
      obtain ⟨m7, f7, R7, G7⟩ := again R6 wkn_takes (by omega) (by omega) (by omega)
      obtain ⟨m8, f8, R8, G8⟩ := again R7 wkn_coins (by omega) (by omega) (by omega)
      obtain ⟨m9, f9, R9, G9⟩ := again R8 wkn_pace (by omega) (by omega) (by omega)
      obtain ⟨mA, fA, RA, GA⟩ := again R9 wkn_slips (by omega) (by omega) (by omega)
      obtain ⟨mB, fB, RB, GB_⟩ := again RA wkn_from (by omega) (by omega) (by omega)
      have vk5 : ∀ k, k ≠ 16 → k ≠ 22 → us (us vv 16 s) 22 (nl + 1) k = us vv 16 s k := fun k _ b => us_ne b
      have H9 := (((G5.trans G6).trans G7).trans G8).trans G9
      have HA := H9.trans GA
      have HB := HA.trans GB_
      -- a word that may stand once, standing twice
      have twice : ∀ {mm7 : AH}, RF mm7 m (us (us vv 16 s) 22 (nl + 1)) se g gl T → Fr m (m + 24) mm mm7 → ∀ {f : Option (Bool × AH)}, ((kd T n s = 13 ∧ a = true) ∨ (kd T n s = 14 ∧ b = true)) → (∃ hm', f = some (false, hm') ∧ RF hm' m (us (us (us vv 16 s) 22 (nl + 1)) 17 (1 + 8 * s + 4)) se g gl T ∧ Fr m (m + 24) mm7 hm') → (∃ hm', f = some (false, hm') ∧ QFM x r m T n tx hcb cb hmb vb gb se gl hm') ∨ (∃ hm', f = some (true, hm') ∧ Q1M x r m T n tx hcb cb hmb vb gb se gl (n - s) hm') := fun {mm7} R7 H7 {f} w ⟨hm', e, R', F'⟩ =>
        .inl ⟨hm', e, Z.fail F1 e1 (by omega) (by omega) (O4 kk (.inr w)) R' (H7.trans F') us_eq (fun k a b c d => by rw [us_ne b, us_ne d])⟩
      have unb : ∀ {f : Option (Bool × AH)}, ((∃ hm', f = some (false, hm') ∧ QFM x r m T n tx hcb cb hmb vb gb se gl hm') ∨ (∃ hm', f = some (true, hm') ∧ Q1M x r m T n tx hcb cb hmb vb gb se gl (n - s) hm')) → (∃ hm', (f.bind fun y => some (y.1, y.2)) = some (false, hm') ∧ QFM x r m T n tx hcb cb hmb vb gb se gl hm') ∨ (∃ hm', (f.bind fun y => some (y.1, y.2)) = some (true, hm') ∧ Q1M x r m T n tx hcb cb hmb vb gb se gl (n - s) hm') := fun {f} w => by
        rcases w with ⟨hm', e, q⟩ | ⟨hm', e, q⟩
        · rw [e]; exact .inl ⟨hm', rfl, q⟩
        · rw [e]; exact .inr ⟨hm', rfl, q⟩
      rw [if_neg (by rw [l12]; exact z), Option.bind_some, I_add, f5, Option.bind_some, f6, Option.bind_some, if_neg (by rw [decide_eq_true_eq]; omega), f7, Option.bind_some, if_neg (by rw [decide_eq_true_eq]; omega), f8, Option.bind_some, if_neg (by rw [decide_eq_true_eq]; omega), f9, Option.bind_some]
      by_cases q13 : kd T n s = 13
      · rw [if_pos (decide_eq_true q13), R9.1.f9, Option.bind_some]
        refine unb ?_
        have SS := R9.sets (n := n) (tx := tx) (s := s) (ra := 9) (lo := 1) (hi := 99) (at_ := s) y2 y19 y16 y17 (by omega) (fun M => M.r9 (by omega) t14) (fun M x => M.w9 x (by omega) t14) (by omega) (V 9 (by omega) (by omega)).1 (V 9 (by omega) (by omega)).2 (by omega) (by omega) (by omega) (by omega) rfl
        cases ea : a with
        | true => exact twice R9 H9 (.inl ⟨q13, ea⟩) (SS.1 (by have := X.1.1 ea; omega))
        | false =>
          obtain ⟨h2, a1, a2, a3⟩ := OK kk (by omega) (fun _ => ea) (fun q => by omega)
          rw [q13] at a2
          exact Z.setM X q13 (.inl rfl) (by omega) F1 e1 a1 a2 a3 H9 us_eq vk5 (SS.2 (by have := X.1.2.1 ea; omega))
      rw [if_neg (by rw [decide_eq_true_eq]; exact q13), fA, Option.bind_some]
      by_cases q14 : kd T n s = 14
      · rw [if_pos (decide_eq_true q14), RA.1.f10, Option.bind_some]
        refine unb ?_
        have SS := RA.sets (n := n) (tx := tx) (s := s) (ra := 10) (lo := 0) (hi := 1000) (at_ := s) y2 y19 y16 y17 (by omega) (fun M => M.r10 (by omega) t14) (fun M x => M.w10 x (by omega) t14) (by omega) (V 10 (by omega) (by omega)).1 (V 10 (by omega) (by omega)).2 (by omega) (by omega) (by omega) (by omega) rfl
        cases eb : b with
        | true => exact twice RA HA (.inr ⟨q14, eb⟩) (SS.1 (by have := X.1.2.2.1 eb; omega))
        | false =>
          obtain ⟨h2, a1, a2, a3⟩ := OK kk (by omega) (fun q => by omega) (fun _ => eb)
          rw [q14] at a2
          exact Z.setM X q14 (.inr (.inl rfl)) (by omega) F1 e1 a1 a2 a3 HA us_eq vk5 (SS.2 (by have := X.1.2.2.2 eb; omega))
      rw [if_neg (by rw [decide_eq_true_eq]; exact q14), fB, Option.bind_some]
      by_cases q15 : kd T n s = 15
      · rw [if_pos (decide_eq_true q15)]
        refine unb ?_
        obtain ⟨h2, a1, a2, a3⟩ := OK kk (by omega) (fun q => by omega) (fun q => by omega)
        rw [q15] at a2
        exact Z.setM X q15 (.inr (.inr (.inl rfl))) (by omega) F1 e1 a1 a2 a3 HB us_eq vk5 (RB.sourced y2 y16 y19 y17 (by omega) (by omega) t14 (by omega) (by omega))
      have q16 : kd T n s = 16 := by omega
      rw [if_neg (by rw [decide_eq_true_eq]; exact q15)]
      refine unb ?_
      obtain ⟨h2, a1, a2, a3⟩ := OK kk (by omega) (fun q => by omega) (fun q => by omega)
      rw [q16] at a2
      exact Z.setM X q16 (.inr (.inr (.inr rfl))) (by omega) F1 e1 a1 a2 a3 HB us_eq vk5 (RB.stuffed y2 y16 y19 y17 (by omega) (by omega) t14 (by omega) (by omega))
  rw [f9_clauseHere, Y.2.1.1.1.o, Option.bind_some, f1, Option.bind_some, Y1.2.1.1.1.f16, Option.bind_some, Y1.2.1.1.1.f19, Option.bind_some, us_eq, Y1.2.1.2.2.2.2.2.1]
  simp only [I_lit]
  rw [if_pos (by rw [l8]; exact t0), f9_clauseHere_24]
  simp only [J_lit, Bool.false_eq_true, if_false]
  rw [f2, Option.bind_some]
  by_cases k13 : kd T n s = 13
  · rw [if_pos (decide_eq_true k13)]
    exact c112 Y2 (.inl k13)
  rw [if_neg (by rw [decide_eq_true_eq]; exact k13), f3, Option.bind_some]
  by_cases k14 : kd T n s = 14
  · rw [if_pos (decide_eq_true k14)]
    exact c112 Y3 (.inr (.inl k14))
  rw [if_neg (by rw [decide_eq_true_eq]; exact k14), f4, Option.bind_some]
  by_cases k15 : kd T n s = 15
  · rw [if_pos (decide_eq_true k15)]
    exact c112 Y4 (.inr (.inr (.inl k15)))
  rw [if_neg (by rw [decide_eq_true_eq]; exact k15), fo, Option.bind_some]
  by_cases k16 : kd T n s = 16
  · rw [if_pos (decide_eq_true k16)]
    exact c112 Yo (.inr (.inr (.inr k16)))
  obtain ⟨m5, f5, R5, G5⟩ := Yo.2.1.1.fails (k := 0) (i := s) Yo.2.1.2.2.2.2.1
  rw [if_neg (by rw [decide_eq_true_eq]; exact k16), f9_clauseHere_112]
  simp only [I_lit, Bool.false_eq_true, if_false]
  rw [f5, Option.bind_some]
  exact .inl ⟨m5, rfl, Yo.fail F1 e1 (by omega) (by omega) (O0 (fun q => by rcases q with q | q | q | q <;> omega)) R5 G5 us_eq (fun k a b c d => us_ne b)⟩
end
theorem text_maker {h : AH} {x r : Nat} {q1 q2 : Option Nat} {u : Nat → Int} {w : Int → Int} {t : Nat → Int} {T : Int → Int} {mu : Nat → Int} {ms : Int → Int} (P : PB h (x + 24) q1 q2 u w) (Q : TP h (x + 22) t T) (D : MK h r mu ms) (hr : x + 35 ≤ r) {n : Int} (en : t 1 = n) (n0 : 0 ≤ n) (n4 : n ≤ 400) {hm : AH} {m : Nat} {v : Nat → Int} {se : Int64} {g : Nat → Int → Int} {gl : Nat → Int → Int64} (M : MO hm m v se g gl) (S : TS T (g 2) n) (e2 : v 2 = n) {tx : Int} (t0 : 8 ≤ tx) (t8 : tx < 14) : ∃ wr hc' hm' g' v', f1_parse h (x + 24) (x + 22) none (some r) = some (I wr, hc') ∧ f9_reads hm m (I tx) = some (I wr, hm') ∧ 0 ≤ wr ∧ wr < 100000 ∧ Fm x r h hc' ∧ (∃ q1' q2' u' w', PB hc' (x + 24) q1' q2' u' w') ∧ (∃ t', TP hc' (x + 22) t' T ∧ t' 1 = n) ∧ (∃ mu' ms', MK hc' r mu' ms' ∧ (wr = 0 → MI mu' ms' ∧ MM g' tx mu' ms')) ∧ MO hm' m v' se g' gl ∧ Fr m (m + 24) hm hm' ∧ v' 2 = 0 ∧ (∀ k, k ≠ 2 → k ≠ 16 → k ≠ 17 → k ≠ 18 → k ≠ 19 → k ≠ 20 → k ≠ 21 → k ≠ 22 → k ≠ 24 → v' k = v k) ∧ HR tx g g' := by
  have fu := FU_big
  obtain ⟨h1, cl, ep, K, F1⟩ := KM.start P Q D hr en n0
  obtain ⟨m1, er, M1, G1⟩ := M.readsIni (tx := tx) (by omega) t8
  have gi := gini_at (g := g) (tx := tx)
  have br := bl_rng (T := T) n0
  have w2 : vini v tx 2 = n := e2
  have V1 : VR (gini g tx) tx := fun j j0 j1 => by rw [gi.2.2.2.2.1 j j0 j1]; omega
  have R1 : RF m1 m (vini v tx) se (gini g tx) gl T := ⟨M1, by rw [gi.2.2.2.2.2.2.2.2, w2]; exact S, Int.le_refl _, by rw [w2]; exact n0, by rw [w2]; exact n4⟩
  have Q0 : Q0M x r m T n tx h1 0 m1 (vini v tx) (gini g tx) se gl (n - bl T n 0) m1 := by
    refine ⟨h1, 0, bl T n 0, cl, 0, false, false, _, ms, vini v tx, gini g tx, ⟨⟨Fm.refl _ _ _, rfl⟩, ⟨R1, Fr.refl _ _ _, w2, rfl, rfl, rfl, rfl, GR.refl _ _ _⟩, ⟨t0, t8, n4, V1⟩⟩, K, ⟨⟨fun q => (by cases q), fun _ => ⟨gi.2.2.2.2.1 9 (by omega) (by omega), rfl⟩, fun q => (by cases q), fun _ => ⟨gi.2.2.2.2.1 10 (by omega) (by omega), rfl⟩⟩, ⟨gi.2.2.2.1, Int.le_refl 0, (by omega : (0 : Int) ≤ 1023)⟩, ⟨gi.2.2.1, Int.le_refl 0, Int.le_refl 0, Int.le_refl 0, (by omega : (0 : Int) ≤ 12)⟩, fun i i0 i1 => ?_⟩, rfl⟩
    rw [us_eq] at i1
    omega
  have loop : ∃ m2, f9_reads hm m (I tx) = f9_reads_139 m2 m (I tx) ∧ (QEM x r m T n tx h1 0 m1 (vini v tx) (gini g tx) se gl m2 ∨ QFM x r m T n tx h1 0 m1 (vini v tx) (gini g tx) se gl m2) := by
    rcases Q0.clause with ⟨m2, f2, L⟩ | ⟨m2, f2, L⟩
    · obtain ⟨m3, a1, a2⟩ := reads_loop (tx := tx) (fun d hm Q => Q0M.clause Q) (fun d hm Q => Q1M.see Q) FU 0 m2 false (fun z => by cases z) (fun _ => L) (Int.le_refl _) (by omega)
      exact ⟨m3, by rw [er, f2, Option.bind_some, a1], a2⟩
    · obtain ⟨m3, a1, a2⟩ := reads_loop (tx := tx) (fun d hm Q => Q0M.clause Q) (fun d hm Q => Q1M.see Q) FU (n - bl T n 0) m2 true (fun _ => L) (fun z => by cases z) (by omega) (by omega)
      exact ⟨m3, by rw [er, f2, Option.bind_some, a1], a2⟩
  obtain ⟨m2, e9, out⟩ := loop
  rcases out with ⟨hc2, v2, g2, nl, a, b, mu2, ms2, a1, ⟨u2, w2', t2, KX2, z1⟩, a3, R2, G2, y2, y17, y19, GR2, V2, X⟩ | ⟨hc2, v2, g2, a1, a2, a3, ⟨u2, w2', t2, mu2, ms2, KX2, z1⟩, a5, R2, G2, y2, y19, GR2, V2⟩
  · obtain ⟨m3, e3, M3, G3⟩ := R2.1.reads139 V2 (by omega : (0 : Int) ≤ tx) t8
    have gf := gfin_at (g := g2) (tx := tx)
    obtain ⟨⟨A1, A2, B1, B2⟩, xs, xq, XL⟩ := X
    have k0r : 1 ≤ mu2 0 ∧ mu2 0 ≤ 99 ∧ mx (g2 9 tx) 1 = mu2 0 := by
      unfold mx
      cases ha : a with
      | true => have := A1 ha; rw [if_neg (by omega)]; omega
      | false => have := A2 ha; rw [if_pos (by omega)]; omega
    have k1r : 0 ≤ mu2 1 ∧ mu2 1 ≤ 1000 ∧ mx (g2 10 tx) 0 = mu2 1 := by
      unfold mx
      cases hb : b with
      | true => have := B1 hb; rw [if_neg (by omega)]; omega
      | false => have := B2 hb; rw [if_pos (by omega)]; omega
    refine ⟨0, hc2, m3, gfin g2 tx, us v2 2 0, by rw [ep, a1], by rw [e9, e3, y17], Int.le_refl _, by omega, F1.trans a3, ⟨_, _, _, _, KX2.1⟩, ⟨t2, KX2.2.1, z1⟩, ⟨mu2, ms2, KX2.2.2.1, fun _ => ⟨⟨⟨k0r.1, k0r.2.1, k1r.1, k1r.2.1, xs.2.1, xs.2.2, xq.2.1, by omega⟩, fun i i0 i1 => (XL i i0 i1).2⟩, ⟨by rw [gf.2.2.1]; exact k0r.2.2, by rw [gf.2.2.2]; exact k1r.2.2, by rw [gfin_ne (by omega)]; exact xs.1, by rw [gfin_ne (by omega)]; exact xq.1, fun i i0 i1 => by rw [gfin_ne (by omega)]; exact (XL i i0 i1).1⟩⟩⟩, M3, (G1.trans G2).trans G3, us_eq, fun k c0 c1 c2 c3 c4 c5 c6 c7 c8 => ?_, ((gini_hr g tx).trans GR2.2).trans (gfin_hr g2 tx)⟩
    rw [us_ne c0, GR2.1 k c1 c2 c3 c5 c6 c7 c8]
    unfold vini
    rw [us_ne c5, us_ne c2, us_ne c1, us_ne c7, us_ne c4]
  · obtain ⟨m3, e3, M3, G3⟩ := R2.1.reads139 V2 (by omega : (0 : Int) ≤ tx) t8
    refine ⟨v2 17, hc2, m3, gfin g2 tx, us v2 2 0, by rw [ep, a1], by rw [e9, e3], by omega, a3, F1.trans a5, ⟨_, _, _, _, KX2.1⟩, ⟨t2, KX2.2.1, z1⟩, ⟨mu2, ms2, KX2.2.2.1, fun q => by omega⟩, M3, (G1.trans G2).trans G3, us_eq, fun k c0 c1 c2 c3 c4 c5 c6 c7 c8 => ?_, ((gini_hr g tx).trans GR2.2).trans (gfin_hr g2 tx)⟩
    rw [us_ne c0, GR2.1 k c1 c2 c3 c5 c6 c7 c8]
    unfold vini
    rw [us_ne c5, us_ne c2, us_ne c1, us_ne c7, us_ne c4]
