/-! make, could: both sides -/
theorem ori_lt {a b : Int} {k : Nat} (a0 : 0 ≤ a) (a1 : a < 2 ^ k) (b0 : 0 ≤ b) (b1 : b < 2 ^ k) : 0 ≤ ori a b ∧ ori a b < 2 ^ k := by
  have e : ((2 ^ k : Nat) : Int) = 2 ^ k := by rw [Int.natCast_pow]; rfl
  have h : a.toNat ||| b.toNat < 2 ^ k := Nat.or_lt_two_pow (by omega) (by omega)
  unfold ori
  omega
theorem mkR_keep (r0 : Int → Int) (sl n : Int) (sr : Int → Int) (p : Int) {j : Int} (j0 : j ≠ 5) (j1 : j < 2230) : ∀ (k : Nat) (d x : Int) (r : Int → Int), 0 ≤ r 5 → mkR r0 sl n sr p k d x r j = r j := by
  intro k
  induction k with
  | zero => intro d x r _; rfl
  | succ k ih =>
    intro d x r h5
    rw [mkR_s]
    by_cases z : mkP r0 sl n sr p d x = -1
    · rw [if_pos z]; exact ih _ _ _ h5
    · rw [if_neg z, ih _ _ _ (by rw [rPage5]; omega)]
      simp (disch := omega) only [rPage, up_ne]
def mkOK (r : Int → Int) (nm mk p day n sd : Int) (u : Nat → Int) (sr : Int → Int) : Prop := (0 ≤ mk ∧ mk < nm) ∧ (0 ≤ p ∧ p < r 4) ∧ 0 ≤ sd ∧ (0 ≤ day ∧ day ≤ 9999) ∧ (1 ≤ n ∧ n ≤ 60) ∧ u 2 < 2 ^ (r 1).toNat ∧ r 5 + mkC r (u 1) (u 4) sr p n.toNat day sd ≤ 400
def mkRow (r : Int → Int) (p day n sd : Int) (u : Nat → Int) (sr : Int → Int) : Int → Int := up (mkR r (u 1) (u 4) sr p n.toNat day sd r) (1330 + 10 * p + 6) (ori (r (1330 + 10 * p + 6)) (u 2))
theorem sameM.refl {r : Int → Int} (R : RI r) (p d : Int) : sameM r r p d := ⟨R, fun _ => rfl, fun _ _ => rfl, fun _ _ => rfl, rfl, rfl, rfl⟩
theorem sameM.inks {r : Int → Int} (R : RI r) {p d y : Int} (p0 : 0 ≤ p) (p1 : p < r 4) (y0 : 0 ≤ y) (y1 : y < 2 ^ (r 1).toNat) : sameM r (up r (1330 + 10 * p + 6) y) p d := by
  have b := R.1
  have ev : ∀ k, k ≠ 1330 + 10 * p + 6 → up r (1330 + 10 * p + 6) y k = r k := fun k hk => up_ne hk
  have R' := RI_inks R p0 p1 y0 y1
  refine ⟨R', fun x => Tl_cong (by omega) (by omega) (ev 2 (by omega)) (fun k k0 k1 => ev k (by omega)) x, fun s x => Fl_cong (by omega) (by omega) (ev 3 (by omega)) (fun k k0 k1 => ev k (by omega)) s x, fun z _ => ?_, ev 4 (by omega), ev 0 (by omega), ev 1 (by omega)⟩
  unfold hd pq
  rw [pc_cong2 (by omega) (by omega) (ev 5 (by omega)) (fun k k0 k1 => ev k (by omega))]
section
variable {h h' : AH} {x : Nat} {r : Int → Int} {c : Nat → Int → Int} {nr nm : Int} {mu : Int → Nat → Int} {ms : Int → Int → Int}
theorem XO.makerAt (O : XO h x nr nm) (A : AQ h (x + 27) 6 6 (fun k => some (x + 59 + 2 * k.toNat))) (n0 : 0 ≤ nm) (n1 : nm ≤ 6) {mk : Int} (m0 : -2147483648 ≤ mk) (m1 : mk < 2147483648) : f8_makerAt h x (I mk) = some (if 0 ≤ mk ∧ mk < nm then some (x + 59 + 2 * mk.toNat) else none) := by
  simp (disch := omega) only [f8_makerAt, O.o, O.f7, O.f6, A.n, isFrom_of, Option.bind_some, I_lit, I_neg, I_add, I_sub, I_mul, I_lt, I_le, I_eq, if_pos, if_neg, if_true, if_false, decide_eq_true_eq]
  by_cases z : 0 ≤ mk ∧ mk < nm
  · rw [if_pos z, if_pos (by omega), A.g z.1 (by omega), Option.bind_some]
  · rw [if_neg z, if_neg (by omega)]
set_option maxHeartbeats 400000 in
theorem XO.make (O : XO h x nr nm) (W : WD h (x + 1) r c) (A : AQ h (x + 27) 6 6 (fun k => some (x + 59 + 2 * k.toNat))) (n0 : 0 ≤ nm) (n1 : nm ≤ 6) {mk p day n sd : Int} {u : Nat → Int} {sr : Int → Int} (K : MK h (x + 59 + 2 * mk.toNat) u sr) (X : MI u sr) (ok : mkOK r nm mk p day n sd u sr) (s1 : sd < 2147483648) : ∃ h' c', f8_make h x (I mk) (I p) (I day) (I n) (I sd) = some (I (mkC r (u 1) (u 4) sr p n.toNat day sd), h') ∧ WD h' (x + 1) (mkRow r p day n sd u sr) c' ∧ Fr (x + 1) (x + 21) h h' := by
  have b := W.ri.1
  have bx := X.1
  have pw := pow10 W.ri
  have fu := FU_big
  obtain ⟨⟨a0, a1⟩, ⟨p0, p1⟩, s0, ⟨d0, d1⟩, ⟨k0, k1⟩, hs, h4⟩ := ok
  have cr := mkC_rng r (u 1) (u 4) sr p n.toNat day sd
  have ma := O.makerAt A n0 n1 (mk := mk) (by omega) (by omega)
  rw [if_pos ⟨a0, a1⟩] at ma
  have LF := K.mkF X W p0 p1 d0 d1 (n := n) (by omega) n.toNat FU sd 0 0 s0 s1 (by omega) (by omega) (by omega)
  rw [Int.zero_add, Int.add_zero] at LF
  obtain ⟨h2, c2, e2, K2, W2, F2⟩ := MK.mkT (r0 := r) X (a := x + 59 + 2 * mk.toNat) (x := x) (by omega) p0 p1 d0 d1 (n := n) (by omega) n.toNat FU h r c sd 0 0 K W (by rw [Int.add_zero]; exact sameM.refl W.ri p day) (by rw [Int.add_zero]; exact h4) s0 s1 (by omega) (by omega) (by omega)
  rw [Int.zero_add, Int.add_zero] at e2
  rw [Int.add_zero] at W2
  have O2 := O.fr F2 (by omega)
  have keep : ∀ j, j ≠ 5 → j < 2230 → mkR r (u 1) (u 4) sr p n.toNat day sd r j = r j := fun j j0 j1 => mkR_keep r (u 1) (u 4) sr p j0 j1 n.toNat day sd r (by omega)
  have wf : f0_writePages h (x + 59 + 2 * mk.toNat) (x + 1) (I p) (I day) (I n) (I sd) false = some (I (mkC r (u 1) (u 4) sr p n.toNat day sd), h) := by
    rw [f0_writePages, K.o, Option.bind_some, I_0]; exact LF
  have wt : f0_writePages h (x + 59 + 2 * mk.toNat) (x + 1) (I p) (I day) (I n) (I sd) true = some (I (mkC r (u 1) (u 4) sr p n.toNat day sd), h2) := by
    rw [f0_writePages, K.o, Option.bind_some, I_0]; exact e2
  have at6 := W2.pAt (p := p) (k := 6) p0 (by rw [keep 4 (by omega) (by omega)]; exact p1) (by omega) (by omega)
  rw [keep _ (by omega) (by omega)] at at6
  have pr := pi_rng W.ri p0 p1
  have st := st_rng W.ri p0 p1
  have o := ori_lt pr.2.2.1.1 pr.2.2.1.2 bx.2.2.2.2.1 hs
  obtain ⟨h3, e3, R3, F3⟩ := W2.pi.put (p := p) (c := 6) (v := ori (r (1330 + 10 * p + 6)) (u 2)) p0 (by rw [keep 4 (by omega) (by omega)]; exact p1) (by omega) (by omega)
  have Rm := W2.ri
  have keep4 := keep 4 (by omega) (by omega)
  have keep1 := keep 1 (by omega) (by omega)
  have Cm := CW_inks W2.cr (p := p) (t := ori (r (1330 + 10 * p + 6)) (u 2)) p0 (by rw [keep4]; exact p1) o.1 (by rw [keep1]; exact o.2) (X := up (c2 5) (p * 10 + 6) (ori (r (1330 + 10 * p + 6)) (u 2))) (by rw [show 10 * p + 6 = p * 10 + 6 by omega]; exact up_eq) (fun k hk => up_ne (by omega))
  have W3 : WD h3 (x + 1) (mkRow r p day n sd u sr) (uf c2 5 (up (c2 5) (p * 10 + 6) (ori (r (1330 + 10 * p + 6)) (u 2)))) := by
    unfold mkRow
    generalize mkR r (u 1) (u 4) sr p n.toNat day sd r = rm at *
    have z : ∀ j, j ≠ 1330 + 10 * p + 6 → up rm (1330 + 10 * p + 6) (ori (r (1330 + 10 * p + 6)) (u 2)) j = rm j := fun j hj => up_ne hj
    exact ⟨by rw [z 0 (by omega)]; exact W2.1.at (F3.2 _ (by omega)), by rw [z 1 (by omega)]; exact W2.st.fr F3 (by omega), by rw [z 2 (by omega)]; exact W2.tr.fr F3 (by omega), by rw [z 3 (by omega)]; exact W2.fa.fr F3 (by omega), by rw [z 4 (by omega)]; exact R3, by rw [z 5 (by omega)]; exact W2.pg.fr F3 (by omega), by rw [z 6 (by omega)]; exact W2.lo.fr F3 (by omega), by rw [z 7 (by omega)]; exact W2.te.fr F3 (by omega), by rw [z 8 (by omega)]; exact W2.pe.fr F3 (by omega), Cm⟩
  refine ⟨h3, _, ?_, W3, F2.trans (F3.mono (by omega) (by omega))⟩
  have q1 : ¬ I (r 5 + mkC r (u 1) (u 4) sr p n.toNat day sd) ≤ I 400 → False := fun z => z (by rw [I_le (by omega) (by omega) (by omega) (by omega)]; exact h4)
  simp (disch := omega) only [f8_make, O.o, ma, oM, O.f0, W.f4, W.pi.has, isFrom_of, K.f2, W.f1, W.st.size, I_shl1, Option.bind_some, I_lit, I_neg, I_add, I_sub, I_mul, I_lt, I_le, I_eq, if_pos, if_neg, if_true, if_false, decide_eq_true_eq, and_self, wf, W.f5, W.pg.size, wt, O2.f0, W2.f4, at6, K2.f2, I_or, e3]
theorem XO.makeN (O : XO h x nr nm) (W : WD h (x + 1) r c) (A : AQ h (x + 27) 6 6 (fun k => some (x + 59 + 2 * k.toNat))) (n0 : 0 ≤ nm) (n1 : nm ≤ 6) {mk p day n sd : Int} {u : Nat → Int} {sr : Int → Int} (K : 0 ≤ mk → mk < nm → MK h (x + 59 + 2 * mk.toNat) u sr) (X : MI u sr) (no : ¬ mkOK r nm mk p day n sd u sr) (m0 : -2147483648 ≤ mk) (m1 : mk < 2147483648) (p0 : -2147483648 ≤ p) (p1 : p < 2147483648) (d0 : -2147483648 ≤ day) (d1 : day < 2147483648) (k0 : -2147483648 ≤ n) (k1 : n < 2147483648) (s0 : -2147483648 ≤ sd) (s1 : sd < 2147483648) : f8_make h x (I mk) (I p) (I day) (I n) (I sd) = some (I (-1), h) := by
  have b := W.ri.1
  have bx := X.1
  have pw := pow10 W.ri
  have fu := FU_big
  have ma := O.makerAt A n0 n1 (mk := mk) (by omega) (by omega)
  rw [f8_make, O.o, Option.bind_some, ma, Option.bind_some]
  by_cases a : 0 ≤ mk ∧ mk < nm
  · have K := K a.1 a.2
    rw [if_pos a]
    simp only [oM, I_lit, I_neg, O.f0, W.f4, Option.bind_some]
    rw [W.pi.has p0 p1, Option.bind_some]
    by_cases q1 : 0 ≤ p ∧ p < r 4
    · rw [if_pos (decide_eq_true q1)]
      by_cases q2 : 0 ≤ sd
      · rw [if_pos (by rw [I_le (by omega) (by omega) (by omega) (by omega)]; exact q2), isFrom_of d0 d1 (by omega) (by omega) (by omega) (by omega), Option.bind_some]
        by_cases q3 : 0 ≤ day ∧ day ≤ 9999
        · rw [if_pos (decide_eq_true q3), isFrom_of k0 k1 (by omega) (by omega) (by omega) (by omega), Option.bind_some]
          by_cases q4 : 1 ≤ n ∧ n ≤ 60
          · rw [if_pos (decide_eq_true q4), K.f2, Option.bind_some, W.f1, Option.bind_some, W.st.size, Option.bind_some, I_shl1 (by omega) (by omega), I_sub, isFrom_of (by omega) (by omega) (by omega) (by omega) (by omega) (by omega), Option.bind_some]
            by_cases q5 : 0 ≤ u 2 ∧ u 2 ≤ 2 ^ (r 1).toNat - 1
            · have cr := mkC_rng r (u 1) (u 4) sr p n.toNat day sd
              have LF := K.mkF X W q1.1 q1.2 q3.1 q3.2 (n := n) (by omega) n.toNat FU sd 0 0 q2 s1 (by omega) (by omega) (by omega)
              rw [Int.zero_add, Int.add_zero] at LF
              have wf : f0_writePages h (x + 59 + 2 * mk.toNat) (x + 1) (I p) (I day) (I n) (I sd) false = some (I (mkC r (u 1) (u 4) sr p n.toNat day sd), h) := by
                rw [f0_writePages, K.o, Option.bind_some, I_0]; exact LF
              rw [if_pos (decide_eq_true q5), wf, Option.bind_some, O.f0, Option.bind_some, W.f5, Option.bind_some, W.pg.size, Option.bind_some, I_add]
              by_cases q6 : r 5 + mkC r (u 1) (u 4) sr p n.toNat day sd ≤ 400
              · exact absurd ⟨a, q1, q2, q3, q4, by omega, q6⟩ no
              · rw [if_neg (by rw [I_le (by omega) (by omega) (by omega) (by omega)]; exact q6)]
            · rw [if_neg (by simpa using q5)]
          · rw [if_neg (by simpa using q4)]
        · rw [if_neg (by simpa using q3)]
      · rw [if_neg (by rw [I_le (by omega) (by omega) (by omega) (by omega)]; exact q2)]
    · rw [if_neg (by simpa using q1)]
  · rw [if_neg a]
    simp only [oM, I_lit, I_neg]
theorem XO.could (O : XO h x nr nm) (W : WD h (x + 1) r c) (A : AQ h (x + 27) 6 6 (fun k => some (x + 59 + 2 * k.toNat))) (n0 : 0 ≤ nm) (n1 : nm ≤ 6) (hm : ∀ k, 0 ≤ k → k < nm → MK h (x + 59 + 2 * k.toNat) (mu k) (ms k) ∧ MI (mu k) (ms k)) {p : Int} (p0 : -2147483648 ≤ p) (p1 : p < 2147483648) : f8_could h x (I p) = some (I (if 0 ≤ p ∧ p < r 4 then bs (fun k => cmk r (mu k 2) (mu k 4) (ms k) p) nm.toNat else -1)) := by
  have fu := FU_big
  rw [f8_could, O.o, Option.bind_some, O.f0, Option.bind_some, W.f4, Option.bind_some, W.pi.has p0 p1, Option.bind_some]
  by_cases a : 0 ≤ p ∧ p < r 4
  · rw [if_pos (decide_eq_true a), if_pos a, I_0]
    exact O.couldL W A n0 n1 hm a.1 a.2 FU 0 (by omega) (by omega) (by omega)
  · rw [if_neg (by simpa using a), if_neg a, I_1, I_neg]
end
section
variable {h h' : AH} {m : Nat} {v : Nat → Int} {se : Int64} {g : Nat → Int → Int} {gl : Nat → Int → Int64} {mu : Int → Nat → Int} {ms : Int → Int → Int}
theorem MO.could (M : MO h m v se g gl) (R : RI (g 1)) (n0 : 0 ≤ v 15) (n1 : v 15 ≤ 6) (hm : ∀ k, 0 ≤ k → k < v 15 → MM g (8 + k) (mu k) (ms k) ∧ MI (mu k) (ms k)) {p : Int} (p0 : -2147483648 ≤ p) (p1 : p < 2147483648) : f9_could h m (I p) = some (I (if 0 ≤ p ∧ p < g 1 4 then bs (fun k => cmk (g 1) (mu k 2) (mu k 4) (ms k) p) (v 15).toNat else -1)) := by
  have fu := FU_big
  rw [f9_could, M.o, Option.bind_some, M.isPiece R p0 p1, Option.bind_some]
  by_cases a : 0 ≤ p ∧ p < g 1 4
  · rw [if_pos (decide_eq_true a), if_pos a, I_0]
    exact M.couldL R n0 n1 hm a.1 a.2 FU 0 (by omega) (by omega) (by omega)
  · rw [if_neg (by simpa using a), if_neg a, I_1, I_neg]
end
