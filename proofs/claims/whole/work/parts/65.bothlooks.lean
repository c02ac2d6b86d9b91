section
variable {h h' : AH} {x : Nat} {r : Int → Int} {c : Nat → Int → Int} {nr nm : Int} {ru : Int → Nat → Int} {rc sg cl : Int → Int → Int} {nc : Int → Int}
theorem RDx.fam (F : ∀ k, 0 ≤ k → k < 8 → RDx h (x + 35 + 3 * k.toNat) (ru k) (rc k)) {rd : Int} (r0 : 0 ≤ rd) (r1 : rd < 8) {h1 : AH} (F1 : Fr (x + 28) (x + 29) h h1) (F2 : Fr (x + 35 + 3 * rd.toNat) (x + 35 + 3 * rd.toNat + 3) h1 h') (D : RDx h' (x + 35 + 3 * rd.toNat) (ru rd) (rc rd)) : ∀ k, 0 ≤ k → k < 8 → RDx h' (x + 35 + 3 * k.toNat) (ru k) (rc k) := fun k k0 k1 => by
  by_cases z : k = rd
  · subst z; exact D
  · exact ((F k k0 k1).fr F1 (by omega)).fr F2 (by omega)
theorem XO.chance (O : XO h x nr nm) (W : WD h (x + 1) r c) (A : AQ h (x + 26) 5 8 (fun k => some (x + 35 + 3 * k.toNat))) {ww : Int → Int} (hw : AI h (x + 28) 0 10 ww) (F : ∀ k, 0 ≤ k → k < 8 → RDx h (x + 35 + 3 * k.toNat) (ru k) (rc k)) (n0 : 0 ≤ nr) (n1 : nr ≤ 8) {rd p b : Int} (T : TXR (ru rd) (rc rd) (sg rd) (cl rd) (nc rd)) (r0 : 0 ≤ rd) (r1 : rd < nr) (p0 : 0 ≤ p) (p1 : p < r 4) (b0 : 0 ≤ b) (b1 : b < r 4) (hne : p ≠ b) : ∃ h' w', f8_chance h x (I rd) (I p) (I b) = some (I (cvl r p b (sg rd) (cl rd) (nc rd)), h') ∧ AI h' (x + 28) 0 10 w' ∧ (∀ k, 0 ≤ k → k < 8 → RDx h' (x + 35 + 3 * k.toNat) (ru k) (rc k)) ∧ Fr (x + 28) (x + 59) h h' ∧ (∀ q, x + 29 ≤ q → q < x + 35 → h'.2 q = h.2 q) := by
  have bb := W.ri.1
  obtain ⟨h1, h2, w1, e1, A1, D1, F1, F2⟩ := O.chanceOf W hw (F rd r0 (by omega)) T (by omega) p0 p1 b0 b1
  have un := W.unlike (p := p) (q := b) (by omega) (by omega) (by omega) (by omega)
  rw [decide_eq_true ⟨p0, p1, b0, b1, hne⟩] at un
  refine ⟨h2, w1, ?_, A1, RDx.fam F r0 (by omega) F1 F2 D1, (F1.mono (by omega) (by omega)).trans (F2.mono (by omega) (by omega)), fun q q0 q1 => by rw [F2.2 q (by omega), F1.2 q (by omega)]⟩
  rw [f8_chance, O.o, Option.bind_some, O.readerAt A n0 n1 (by omega) (by omega), Option.bind_some, if_pos ⟨r0, r1⟩]
  simp only [oM]
  rw [O.f0, Option.bind_some, un, Option.bind_some, if_pos rfl, e1, Option.bind_some]
theorem XO.chanceN (O : XO h x nr nm) (W : WD h (x + 1) r c) (A : AQ h (x + 26) 5 8 (fun k => some (x + 35 + 3 * k.toNat))) (n0 : 0 ≤ nr) (n1 : nr ≤ 8) {rd p b : Int} (r0 : -2147483648 ≤ rd) (r1 : rd < 2147483648) (p0 : -2147483648 ≤ p) (p1 : p < 2147483648) (b0 : -2147483648 ≤ b) (b1 : b < 2147483648) (no : ¬ ((0 ≤ rd ∧ rd < nr) ∧ 0 ≤ p ∧ p < r 4 ∧ 0 ≤ b ∧ b < r 4 ∧ p ≠ b)) : f8_chance h x (I rd) (I p) (I b) = some (I (-1), h) := by
  rw [f8_chance, O.o, Option.bind_some, O.readerAt A n0 n1 r0 r1, Option.bind_some]
  by_cases z : 0 ≤ rd ∧ rd < nr
  · have z2 : ¬ (0 ≤ p ∧ p < r 4 ∧ 0 ≤ b ∧ b < r 4 ∧ p ≠ b) := fun e => no ⟨z, e⟩
    rw [if_pos z]
    simp only [oM, I_lit, I_neg]
    rw [O.f0, Option.bind_some, W.unlike p0 p1 b0 b1, Option.bind_some, decide_eq_false z2, if_neg Bool.false_ne_true]
  · rw [if_neg z]
    simp only [oM, I_lit, I_neg]
/-- what stays by a CHANCE: all but the words and the READER's own stack -/
theorem XO.tells (O : XO h x nr nm) (W : WD h (x + 1) r c) (A : AQ h (x + 26) 5 8 (fun k => some (x + 35 + 3 * k.toNat))) {ww : Int → Int} (hw : AI h (x + 28) 0 10 ww) (F : ∀ k, 0 ≤ k → k < 8 → RDx h (x + 35 + 3 * k.toNat) (ru k) (rc k)) (n0 : 0 ≤ nr) (n1 : nr ≤ 8) {rd p q b : Int} (T : TXR (ru rd) (rc rd) (sg rd) (cl rd) (nc rd)) (r0 : 0 ≤ rd) (r1 : rd < nr) (p0 : 0 ≤ p) (p1 : p < r 4) (q0 : 0 ≤ q) (q1 : q < r 4) (b0 : 0 ≤ b) (b1 : b < r 4) (hpq : p ≠ q) (hpb : p ≠ b) (hqb : q ≠ b) : ∃ h' w', f8_tells h x (I rd) (I p) (I q) (I b) = some (I (cvl r p b (sg rd) (cl rd) (nc rd) - cvl r q b (sg rd) (cl rd) (nc rd)), h') ∧ AI h' (x + 28) 0 10 w' ∧ (∀ k, 0 ≤ k → k < 8 → RDx h' (x + 35 + 3 * k.toNat) (ru k) (rc k)) ∧ Fr (x + 28) (x + 59) h h' ∧ (∀ q, x + 29 ≤ q → q < x + 35 → h'.2 q = h.2 q) := by
  have bb := W.ri.1
  obtain ⟨h1, h2, w1, e1, A1, D1, F1, F2⟩ := O.chanceOf W hw (F rd r0 (by omega)) T (by omega) p0 p1 b0 b1
  have F12 : Fr (x + 28) (x + 59) h h2 := (F1.mono (by omega) (by omega)).trans (F2.mono (by omega) (by omega))
  have fam2 := RDx.fam F r0 (by omega) F1 F2 D1
  obtain ⟨h3, h4, w2, e2, A2, D2, F3, F4⟩ := (O.fr F12 (by omega)).chanceOf (W.fr F12 (by omega)) A1 D1 T (by omega) q0 q1 b0 b1
  have u1 := W.unlike (p := p) (q := q) (by omega) (by omega) (by omega) (by omega)
  have u2 := W.unlike (p := p) (q := b) (by omega) (by omega) (by omega) (by omega)
  have u3 := W.unlike (p := q) (q := b) (by omega) (by omega) (by omega) (by omega)
  rw [decide_eq_true ⟨p0, p1, q0, q1, hpq⟩] at u1
  rw [decide_eq_true ⟨p0, p1, b0, b1, hpb⟩] at u2
  rw [decide_eq_true ⟨q0, q1, b0, b1, hqb⟩] at u3
  refine ⟨h4, w2, ?_, A2, RDx.fam fam2 r0 (by omega) F3 F4 D2, F12.trans ((F3.mono (by omega) (by omega)).trans (F4.mono (by omega) (by omega))), fun q q0 q1 => by rw [F4.2 q (by omega), F3.2 q (by omega), F2.2 q (by omega), F1.2 q (by omega)]⟩
  rw [f8_tells, O.o, Option.bind_some, O.readerAt A n0 n1 (by omega) (by omega), Option.bind_some, if_pos ⟨r0, r1⟩]
  simp only [oM]
  rw [O.f0, Option.bind_some, u1, Option.bind_some, if_pos rfl, Option.bind_some, u2, Option.bind_some, if_pos rfl, Option.bind_some, u3, Option.bind_some, if_pos rfl, e1, Option.bind_some, e2, Option.bind_some, I_sub]
theorem XO.tellsN (O : XO h x nr nm) (W : WD h (x + 1) r c) (A : AQ h (x + 26) 5 8 (fun k => some (x + 35 + 3 * k.toNat))) (n0 : 0 ≤ nr) (n1 : nr ≤ 8) {rd p q b : Int} (r0 : -2147483648 ≤ rd) (r1 : rd < 2147483648) (p0 : -2147483648 ≤ p) (p1 : p < 2147483648) (q0 : -2147483648 ≤ q) (q1 : q < 2147483648) (b0 : -2147483648 ≤ b) (b1 : b < 2147483648) (no : ¬ ((0 ≤ rd ∧ rd < nr) ∧ (0 ≤ p ∧ p < r 4 ∧ 0 ≤ q ∧ q < r 4 ∧ p ≠ q) ∧ (0 ≤ p ∧ p < r 4 ∧ 0 ≤ b ∧ b < r 4 ∧ p ≠ b) ∧ (0 ≤ q ∧ q < r 4 ∧ 0 ≤ b ∧ b < r 4 ∧ q ≠ b))) : f8_tells h x (I rd) (I p) (I q) (I b) = some (I (-2000), h) := by
  rw [f8_tells, O.o, Option.bind_some, O.readerAt A n0 n1 r0 r1, Option.bind_some]
  by_cases z : 0 ≤ rd ∧ rd < nr
  · rw [if_pos z]
    simp only [oM, I_lit, I_neg]
    rw [O.f0, Option.bind_some, W.unlike p0 p1 q0 q1, Option.bind_some]
    by_cases z1 : 0 ≤ p ∧ p < r 4 ∧ 0 ≤ q ∧ q < r 4 ∧ p ≠ q
    · rw [if_pos (decide_eq_true z1), Option.bind_some, W.unlike p0 p1 b0 b1, Option.bind_some]
      by_cases z2 : 0 ≤ p ∧ p < r 4 ∧ 0 ≤ b ∧ b < r 4 ∧ p ≠ b
      · have z3 : ¬ (0 ≤ q ∧ q < r 4 ∧ 0 ≤ b ∧ b < r 4 ∧ q ≠ b) := fun e => no ⟨z, z1, z2, e⟩
        rw [if_pos (decide_eq_true z2), Option.bind_some, W.unlike q0 q1 b0 b1, Option.bind_some, decide_eq_false z3, if_neg Bool.false_ne_true]
      · rw [decide_eq_false z2, if_neg Bool.false_ne_true]
    · rw [decide_eq_false z1, if_neg Bool.false_ne_true]
  · rw [if_neg z]
    simp only [oM, I_lit, I_neg]
def lkw (r : Int → Int) (tk : Int) : Int := if 519 < r 0 + tk then 519 else r 0 + tk
def lky (sd ch : Int) : Int := if dr sd / 65536 % 1000 < ch then 1 else 0
def lkOK (r : Int → Int) (nr rd p b sd : Int) : Prop := (0 ≤ rd ∧ rd < nr) ∧ (0 ≤ p ∧ p < r 4 ∧ 0 ≤ b ∧ b < r 4 ∧ p ≠ b) ∧ 0 ≤ sd ∧ r 6 < 200 ∧ r (1330 + 10 * p + 9) ≤ r 0
def lkR (r : Int → Int) (rd p b sd tk ch : Int) : Int → Int := rLook r rd p (if r (1330 + 10 * b) = 1 then 1 else 0) (lky sd ch) (lkw r tk)
theorem XO.look (O : XO h x nr nm) (W : WD h (x + 1) r c) (A : AQ h (x + 26) 5 8 (fun k => some (x + 35 + 3 * k.toNat))) {ww : Int → Int} (hw : AI h (x + 28) 0 10 ww) (F : ∀ k, 0 ≤ k → k < 8 → RDx h (x + 35 + 3 * k.toNat) (ru k) (rc k)) (n0 : 0 ≤ nr) (n1 : nr ≤ 8) {rd p b sd : Int} (T : TXR (ru rd) (rc rd) (sg rd) (cl rd) (nc rd)) (ok : lkOK r nr rd p b sd) (s1 : sd < 2147483648) : ∃ h1 h' w' c', f8_look h x (I rd) (I p) (I b) (I sd) = some (I (lky sd (cvl r p b (sg rd) (cl rd) (nc rd))), h') ∧ AI h' (x + 28) 0 10 w' ∧ (∀ k, 0 ≤ k → k < 8 → RDx h' (x + 35 + 3 * k.toNat) (ru k) (rc k)) ∧ WD h' (x + 1) (lkR r rd p b sd (ru rd 0) (cvl r p b (sg rd) (cl rd) (nc rd))) c' ∧ Fr (x + 28) (x + 59) h h1 ∧ (∀ q, x + 29 ≤ q → q < x + 35 → h1.2 q = h.2 q) ∧ Fr (x + 1) (x + 21) h1 h' := by
  have bb := W.ri.1
  obtain ⟨⟨r0, r1⟩, ⟨p0, p1, b0, b1, hne⟩, s0, n6, hk⟩ := ok
  obtain ⟨h1, h2, w1, e1, A1, D1, F1, F2⟩ := O.chanceOf W hw (F rd r0 (by omega)) T (by omega) p0 p1 b0 b1
  have F12 : Fr (x + 28) (x + 59) h h2 := (F1.mono (by omega) (by omega)).trans (F2.mono (by omega) (by omega))
  have cr := cvl_rng r p b (sg rd) (cl rd) (nc rd)
  have d1 := dr_rng sd
  have un := W.unlike (p := p) (q := b) (by omega) (by omega) (by omega) (by omega)
  rw [decide_eq_true ⟨p0, p1, b0, b1, hne⟩] at un
  obtain ⟨h3, c3, e3, W3, F3⟩ := (O.fr F12 (by omega)).look81 (W.fr F12 (by omega)) D1 (by omega) (rd := rd) (p := p) (b := b) (decide (dr sd / 65536 % 1000 < cvl r p b (sg rd) (cl rd) (nc rd))) (ys := lky sd (cvl r p b (sg rd) (cl rd) (nc rd))) (by
    unfold lky
    by_cases z : dr sd / 65536 % 1000 < cvl r p b (sg rd) (cl rd) (nc rd)
    · rw [if_pos z, if_pos (decide_eq_true z)]
    · rw [if_neg z, if_neg (by simpa using z)]) n6 r0 (by omega) p0 p1 b0 b1 rfl T.2.2.1 T.2.2.2.1 (wk := lkw r (ru rd 0)) rfl
  refine ⟨h2, h3, w1, c3, ?_, A1.at (F3.2 _ (by omega)), fun k k0 k1 => (RDx.fam F r0 (by omega) F1 F2 D1 k k0 k1).fr F3 (by omega), W3, F12, fun q q0 q1 => by rw [F2.2 q (by omega), F1.2 q (by omega)], F3⟩
  have D : f8_drawn h (I sd) = some (I (dr sd)) := drawn_of s0 s1
  have P : f8_perMille h (I (dr sd)) = some (I (dr sd / 65536 % 1000)) := perMille_of d1.1 d1.2
  have l0 : (I 0 ≤ I sd) = (0 ≤ sd) := I_le (by omega) (by omega) (by omega) (by omega)
  have z0 : I 0 ≤ I sd := by rw [l0]; exact s0
  have l1 : (I (cvl r p b (sg rd) (cl rd) (nc rd)) ≤ I (dr sd / 65536 % 1000)) = (cvl r p b (sg rd) (cl rd) (nc rd) ≤ dr sd / 65536 % 1000) := I_le (by omega) (by omega) (by omega) (by omega)
  rw [f8_look, O.o, Option.bind_some, O.readerAt A n0 n1 (by omega) (by omega), Option.bind_some, if_pos ⟨r0, r1⟩]
  simp only [oM, I_lit]
  rw [O.f0, Option.bind_some, un, Option.bind_some, if_pos rfl, if_pos z0, Option.bind_some, W.f6, Option.bind_some, W.lo.full, Option.bind_some, if_neg (show ¬ decide (200 ≤ r 6) = true by simp; omega), Option.bind_some, W.close p0 p1, Option.bind_some, if_neg (show ¬ decide (r 0 < r (1330 + 10 * p + 9)) = true by simp; omega), D, Option.bind_some, P, Option.bind_some, e1, Option.bind_some, ← e3]
  by_cases z : dr sd / 65536 % 1000 < cvl r p b (sg rd) (cl rd) (nc rd)
  · rw [if_neg (by rw [l1]; omega), decide_eq_true z]
  · rw [if_pos (by rw [l1]; omega), decide_eq_false z]
theorem XO.lookN (O : XO h x nr nm) (W : WD h (x + 1) r c) (A : AQ h (x + 26) 5 8 (fun k => some (x + 35 + 3 * k.toNat))) (n0 : 0 ≤ nr) (n1 : nr ≤ 8) {rd p b sd : Int} (r0 : -2147483648 ≤ rd) (r1 : rd < 2147483648) (p0 : -2147483648 ≤ p) (p1 : p < 2147483648) (b0 : -2147483648 ≤ b) (b1 : b < 2147483648) (s0 : -2147483648 ≤ sd) (s1 : sd < 2147483648) (no : ¬ lkOK r nr rd p b sd) : f8_look h x (I rd) (I p) (I b) (I sd) = some (I (-1), h) := by
  have bb := W.ri.1
  have l0 : (I 0 ≤ I sd) = (0 ≤ sd) := I_le (by omega) (by omega) (by omega) (by omega)
  rw [f8_look, O.o, Option.bind_some, O.readerAt A n0 n1 r0 r1, Option.bind_some]
  by_cases z : 0 ≤ rd ∧ rd < nr
  · rw [if_pos z]
    simp only [oM, I_lit, I_neg]
    rw [O.f0, Option.bind_some, W.unlike p0 p1 b0 b1, Option.bind_some]
    by_cases z1 : 0 ≤ p ∧ p < r 4 ∧ 0 ≤ b ∧ b < r 4 ∧ p ≠ b
    · rw [if_pos (decide_eq_true z1)]
      by_cases z2 : 0 ≤ sd
      · have z2' : I 0 ≤ I sd := by rw [l0]; exact z2
        rw [if_pos z2', Option.bind_some, W.f6, Option.bind_some, W.lo.full, Option.bind_some]
        by_cases z3 : 200 ≤ r 6
        · rw [if_pos (decide_eq_true z3)]
        · have z4 : r 0 < r (1330 + 10 * p + 9) := by
            by_cases t : r 0 < r (1330 + 10 * p + 9)
            · exact t
            · exact absurd ⟨z, z1, z2, by omega, by omega⟩ no
          rw [if_neg (by simpa using z3), Option.bind_some, W.close z1.1 z1.2.1, Option.bind_some, if_pos (decide_eq_true z4)]
      · have z2' : ¬ I 0 ≤ I sd := by rw [l0]; exact z2
        rw [if_neg z2']
    · rw [decide_eq_false z1, if_neg Bool.false_ne_true]
  · rw [if_neg z]
    simp only [oM, I_lit, I_neg]
end
