/-! chance, tells, look: both sides (gen64.py) -/
section
variable {h h' : AH} {x : Nat} {r : Int → Int} {c : Nat → Int → Int} {nr nm : Int}
set_option maxHeartbeats 4000000 in
theorem XO.look81 (O : XO h x nr nm) (W : WD h (x + 1) r c) {a : Nat} {u : Nat → Int} {cd : Int → Int} (D : RDx h a u cd) (a0 : x + 35 ≤ a) {rd p b bt wk : Int} (yes : Bool) {ys : Int} (ey : ys = if yes = true then 1 else 0) (n : r 6 < 200) (s0 : 0 ≤ rd) (s1 : rd < 8) (p0 : 0 ≤ p) (p1 : p < r 4) (b0 : 0 ≤ b) (b1 : b < r 4) (hb : bt = if r (1330 + 10 * b) = 1 then 1 else 0) (t0 : 1 ≤ u 0) (t1 : u 0 ≤ 99) (hw : wk = if 519 < r 0 + u 0 then 519 else r 0 + u 0) : ∃ h' c', f8_look_81 h x (I p) (I b) (some a) yes = some (I ys, h') ∧ WD h' (x + 1) (rLook r rd p bt ys wk) c' ∧ Fr (x + 1) (x + 21) h h' := by
  have bb := W.ri.1
  have yy : 0 ≤ ys ∧ ys ≤ 1 := by rw [ey]; split <;> omega
  have tt : 0 ≤ bt ∧ bt ≤ 1 := by rw [hb]; split <;> omega
  have ww : 0 ≤ wk ∧ wk ≤ 519 := by rw [hw]; split <;> omega
  obtain ⟨h1, e1, R1, F1⟩ := W.lo.add n
  have G1 := F1
  obtain ⟨h2, e2, R2, F2⟩ := R1.put (p := r 6) (c := 0) (v := p) (by omega) (by omega) (by omega) (by omega)
  have G2 := G1.trans F2
  obtain ⟨h3, e3, R3, F3⟩ := R2.put (p := r 6) (c := 1) (v := b) (by omega) (by omega) (by omega) (by omega)
  have G3 := G2.trans F3
  obtain ⟨h4, e4, R4, F4⟩ := R3.put (p := r 6) (c := 2) (v := wk) (by omega) (by omega) (by omega) (by omega)
  have G4 := G3.trans F4
  obtain ⟨h5, e5, R5, F5⟩ := R4.put (p := r 6) (c := 3) (v := ys) (by omega) (by omega) (by omega) (by omega)
  have G5 := G4.trans F5
  have O1 := O.fr G1 (by omega)
  have B1 := W.1.at (G1.2 (x + 1) (by omega))
  have O2 := O.fr G2 (by omega)
  have B2 := W.1.at (G2.2 (x + 1) (by omega))
  have O3 := O.fr G3 (by omega)
  have B3 := W.1.at (G3.2 (x + 1) (by omega))
  have O4 := O.fr G4 (by omega)
  have B4 := W.1.at (G4.2 (x + 1) (by omega))
  have O5 := O.fr G5 (by omega)
  have B5 := W.1.at (G5.2 (x + 1) (by omega))
  have z0 : (rLook r rd p bt ys wk) 0 = r 0 := by simp (disch := omega) only [rLook, up_ne]
  have z1 : (rLook r rd p bt ys wk) 1 = r 1 := by simp (disch := omega) only [rLook, up_ne]
  have z2 : (rLook r rd p bt ys wk) 2 = r 2 := by simp (disch := omega) only [rLook, up_ne]
  have z3 : (rLook r rd p bt ys wk) 3 = r 3 := by simp (disch := omega) only [rLook, up_ne]
  have z4 : (rLook r rd p bt ys wk) 4 = r 4 := by simp (disch := omega) only [rLook, up_ne]
  have z5 : (rLook r rd p bt ys wk) 5 = r 5 := by simp (disch := omega) only [rLook, up_ne]
  have z6 : (rLook r rd p bt ys wk) 6 = r 6 + 1 := up_eq
  have z7 : (rLook r rd p bt ys wk) 7 = r 7 := by simp (disch := omega) only [rLook, up_ne]
  have z8 : (rLook r rd p bt ys wk) 8 = r 8 := by simp (disch := omega) only [rLook, up_ne]
  obtain ⟨v1, sk1, D1, V1⟩ := D.fr G3 (by omega)
  have tk : fI 3 0 h3 a = some (I (u 0)) := by rw [D1.f0, V1 0 (by omega)]
  have mw : (if I 519 < I (r 0 + u 0) then I 519 else I (r 0 + u 0)) = I wk := by
    have l1 : (I 519 < I (r 0 + u 0)) = (519 < r 0 + u 0) := I_lt (by omega) (by omega) (by omega) (by omega)
    rw [hw]
    by_cases z : 519 < r 0 + u 0
    · have z' : I 519 < I (r 0 + u 0) := by rw [l1]; exact z
      rw [if_pos z', if_pos z]
    · have z' : ¬ I 519 < I (r 0 + u 0) := by rw [l1]; exact z
      rw [if_neg z', if_neg z]
  have by_ : bI yes = I ys := by rw [bI_I, ey]
  refine ⟨h5, uf c 8 (up (up (up (up (zr (c 8) (r 6 * 4) (r 6 * 4 + 4)) (r 6 * 4 + 0) p) (r 6 * 4 + 1) b) (r 6 * 4 + 2) wk) (r 6 * 4 + 3) ys), ?_, ⟨by rw [z0]; exact W.1.at (G5.2 _ (by omega)), by rw [z1]; exact W.st.fr G5 (by omega), by rw [z2]; exact W.tr.fr G5 (by omega), by rw [z3]; exact W.fa.fr G5 (by omega), by rw [z4]; exact W.pi.fr G5 (by omega), by rw [z5]; exact W.pg.fr G5 (by omega), by rw [z6]; exact R5, by rw [z7]; exact W.te.fr G5 (by omega), by rw [z8]; exact W.pe.fr G5 (by omega), CW_look W.cr n s0 s1 p0 p1 tt.1 tt.2 yy.1 yy.2 ww.1 ww.2 b0 b1 hb (X := (up (up (up (up (zr (c 8) (r 6 * 4) (r 6 * 4 + 4)) (r 6 * 4 + 0) p) (r 6 * 4 + 1) b) (r 6 * 4 + 2) wk) (r 6 * 4 + 3) ys)) (fun k k0 k1 => by simp (disch := omega) only [up_ne, zr_out]) (by simp (disch := omega) only [up, zr, if_pos, if_neg]) (by simp (disch := omega) only [up, zr, if_pos, if_neg]) (by simp (disch := omega) only [up, zr, if_pos, if_neg]) (by simp (disch := omega) only [up, zr, if_pos, if_neg])⟩, G5.mono (by omega) (by omega)⟩
  rw [f8_look_81]
  simp only [I_lit]
  rw [O.f0, Option.bind_some, W.f6, Option.bind_some, e1, Option.bind_some, O1.f0, Option.bind_some, B1.r 6 rfl, Option.bind_some, e2, Option.bind_some, O2.f0, Option.bind_some, B2.r 6 rfl, Option.bind_some, e3, Option.bind_some, O3.f0, Option.bind_some, B3.r 6 rfl, Option.bind_some, Option.bind_some, B3.i 0 rfl, Option.bind_some, Option.bind_some, tk, Option.bind_some, I_add, mw, Option.bind_some, e4, Option.bind_some, O4.f0, Option.bind_some, B4.r 6 rfl, Option.bind_some, by_, e5, Option.bind_some]
end
