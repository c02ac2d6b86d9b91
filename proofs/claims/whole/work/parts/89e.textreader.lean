/-! a text read as a READER: the same on both sides -/
theorem text_reader {h : AH} {x r : Nat} {q1 q2 : Option Nat} {u : Nat → Int} {w : Int → Int} {t : Nat → Int} {T : Int → Int} {ru : Nat → Int} {cd : Int → Int} {sk : Int → Int64} (P : PB h (x + 24) q1 q2 u w) (Q : TP h (x + 22) t T) (D : RD h r ru cd sk) (hr : x + 35 ≤ r) {n : Int} (en : t 1 = n) (n0 : 0 ≤ n) (n4 : n ≤ 400) {hm : AH} {m : Nat} {v : Nat → Int} {se : Int64} {g : Nat → Int → Int} {gl : Nat → Int → Int64} (M : MO hm m v se g gl) (S : TS T (g 2) n) (e2 : v 2 = n) {tx : Int} (t0 : 0 ≤ tx) (t8 : tx < 8) : ∃ wr hc' hm' g' v', f1_parse h (x + 24) (x + 22) (some r) none = some (I wr, hc') ∧ f9_reads hm m (I tx) = some (I wr, hm') ∧ 0 ≤ wr ∧ wr < 100000 ∧ Fc x r h hc' ∧ (∃ q1' q2' u' w', PB hc' (x + 24) q1' q2' u' w') ∧ (∃ t', TP hc' (x + 22) t' T ∧ t' 1 = n) ∧ (∃ ru' cd' sk', RD hc' r ru' cd' sk' ∧ (wr = 0 → ∃ sg cl nc, RM g' tx ru' cd' sg cl nc)) ∧ MO hm' m v' se g' gl ∧ Fr m (m + 24) hm hm' ∧ v' 2 = 0 ∧ (∀ k, k ≠ 2 → k ≠ 16 → k ≠ 17 → k ≠ 18 → k ≠ 19 → k ≠ 20 → k ≠ 21 → k ≠ 22 → k ≠ 24 → v' k = v k) ∧ HR tx g g' := by
  have fu := FU_big
  obtain ⟨h1, cl, ep, K, F1⟩ := KX.start P Q D hr en n0
  obtain ⟨m1, er, M1, G1⟩ := M.readsIni t0 (by omega : tx < 14)
  have gi := gini_at (g := g) (tx := tx)
  have br := bl_rng (T := T) n0
  have w2 : vini v tx 2 = n := e2
  have V1 : VR (gini g tx) tx := fun j j0 j1 => by rw [gi.2.2.2.2.1 j j0 j1]; omega
  have R1 : RF m1 m (vini v tx) se (gini g tx) gl T := ⟨M1, by rw [gi.2.2.2.2.2.2.2.2, w2]; exact S, Int.le_refl _, by rw [w2]; exact n0, by rw [w2]; exact n4⟩
  have te0 : ∀ c : Int → Int, TE c 0 = 0 := fun c => if_pos rfl
  have Q0 : Q0R x r m T n tx h1 0 m1 (vini v tx) (gini g tx) se gl (n - bl T n 0) m1 := by
    refine ⟨h1, 0, bl T n 0, cl, 0, 0, false, false, 1, 1, 0, cd, vini v tx, gini g tx, 0, ⟨⟨Fc.refl _ _ _, rfl⟩, ⟨R1, Fr.refl _ _ _, w2, rfl, rfl, rfl, rfl, rfl, GR.refl _ _ _⟩, ⟨t0, by omega, n4, V1⟩⟩, K, ⟨⟨Int.le_refl _, by omega, by rw [te0]; rfl, by omega, by rw [te0]; exact Int.le_refl _, fun c c0 c1 => by omega, fun j j0 j1 => by rw [te0] at j1; omega, by rw [te0]; exact (by decide : (0 : Int) ≤ 60)⟩, ⟨gi.2.1, by rw [te0]; exact gi.1, by rw [gi.1]; exact Int.le_refl _, by omega, by omega, by omega, by omega, by omega⟩, fun j j0 j1 => by omega, ⟨fun q => (by cases q), fun _ => ⟨gi.2.2.2.2.1 7 (by omega) (by omega), rfl⟩, fun q => (by cases q), fun _ => ⟨gi.2.2.2.2.1 8 (by omega) (by omega), rfl⟩⟩⟩, rfl⟩
  have loop : ∃ m2, f9_reads hm m (I tx) = f9_reads_139 m2 m (I tx) ∧ (QER x r m T n tx h1 0 m1 (vini v tx) (gini g tx) se gl m2 ∨ QFR x r m T n tx h1 0 m1 (vini v tx) (gini g tx) se gl m2) := by
    rcases Q0.clause t8 with ⟨m2, f2, L⟩ | ⟨m2, f2, L⟩
    · obtain ⟨m3, a1, a2⟩ := reads_loop (tx := tx) (fun d hm Q => Q0R.clause Q t8) (fun d hm Q => Q1R.see Q) FU 0 m2 false (fun z => by cases z) (fun _ => L) (Int.le_refl _) (by omega)
      exact ⟨m3, by rw [er, f2, Option.bind_some, a1], a2⟩
    · obtain ⟨m3, a1, a2⟩ := reads_loop (tx := tx) (fun d hm Q => Q0R.clause Q t8) (fun d hm Q => Q1R.see Q) FU (n - bl T n 0) m2 true (fun _ => L) (fun z => by cases z) (by omega) (by omega)
      exact ⟨m3, by rw [er, f2, Option.bind_some, a1], a2⟩
  obtain ⟨m2, e9, out⟩ := loop
  rcases out with ⟨hc2, v2, g2, nl, it, a, b, k0, k1, sz, cd2, nc, a1, ⟨u2, w2', t2, ru2, sk2, KX2, z1, z2, z3, z4⟩, a3, R2, G2, y2, y17, y19, GR2, V2, X⟩ | ⟨hc2, v2, g2, a1, a2, a3, ⟨u2, w2', t2, ru2, cd2, sk2, KX2, z1⟩, a5, R2, G2, y2, y19, GR2, V2⟩
  · obtain ⟨m3, e3, M3, G3⟩ := R2.1.reads139 V2 t0 (by omega)
    have gf := gfin_at (g := g2) (tx := tx)
    obtain ⟨A1, A2, B1, B2⟩ := X.2.2.2
    have k0r : 1 ≤ k0 ∧ k0 ≤ 99 ∧ mx (g2 7 tx) 1 = k0 := by
      unfold mx
      cases ha : a with
      | true => have := A1 ha; rw [if_neg (by omega)]; omega
      | false => have := A2 ha; rw [if_pos (by omega)]; omega
    have k1r : 1 ≤ k1 ∧ k1 ≤ 999 ∧ mx (g2 8 tx) 1 = k1 := by
      unfold mx
      cases hb : b with
      | true => have := B1 hb; rw [if_neg (by omega)]; omega
      | false => have := B2 hb; rw [if_pos (by omega)]; omega
    refine ⟨0, hc2, m3, gfin g2 tx, us v2 2 0, by rw [ep, a1], by rw [e9, e3, y17], Int.le_refl _, by omega, F1.trans a3, ⟨_, _, _, _, KX2.1⟩, ⟨t2, KX2.2.1, z1⟩, ⟨ru2, cd2, sk2, KX2.2.2.1, fun _ => ⟨sgt g2 tx, clt g2 tx, nc, fun j => by rw [gfin_ne (by omega)]; rfl, fun j => by rw [gfin_ne (by omega)]; rfl, by rw [gfin_ne (by omega)]; exact X.2.1.1, by rw [gf.1, z2]; exact k0r.2.2, by rw [gf.2.1, z3]; exact k1r.2.2, ⟨by rw [z4]; exact X.1, fun j j0 j1 => X.2.2.1 j j0 (by omega), by omega, by omega, by omega, by omega⟩⟩⟩, M3, (G1.trans G2).trans G3, us_eq, fun k c0 c1 c2 c3 c4 c5 c6 c7 c8 => ?_, ((gini_hr g tx).trans GR2.2).trans (gfin_hr g2 tx)⟩
    rw [us_ne c0, GR2.1 k c1 c2 c3 c5 c6 c7 c8]
    unfold vini
    rw [us_ne c5, us_ne c2, us_ne c1, us_ne c7, us_ne c4]
  · obtain ⟨m3, e3, M3, G3⟩ := R2.1.reads139 V2 t0 (by omega)
    refine ⟨v2 17, hc2, m3, gfin g2 tx, us v2 2 0, by rw [ep, a1], by rw [e9, e3], by omega, a3, F1.trans a5, ⟨_, _, _, _, KX2.1⟩, ⟨t2, KX2.2.1, z1⟩, ⟨ru2, cd2, sk2, KX2.2.2.1, fun q => by omega⟩, M3, (G1.trans G2).trans G3, us_eq, fun k c0 c1 c2 c3 c4 c5 c6 c7 c8 => ?_, ((gini_hr g tx).trans GR2.2).trans (gfin_hr g2 tx)⟩
    rw [us_ne c0, GR2.1 k c1 c2 c3 c5 c6 c7 c8]
    unfold vini
    rw [us_ne c5, us_ne c2, us_ne c1, us_ne c7, us_ne c4]
