/-! the calls that take bytes, end them, and read them -/
section
variable {h : AH} {x : Nat}
theorem c_feed (S : EST h x) {a b c d e : Int} (a0 : -2147483648 ≤ a) (a1 : a < 2147483648) (b0 : -2147483648 ≤ b) (b1 : b < 2147483648) (c0 : -2147483648 ≤ c) (c1 : c < 2147483648) (d0 : -2147483648 ≤ d) (d1 : d < 2147483648) (e0 : -2147483648 ≤ e) (e1 : e < 2147483648) : EB x h (fun h => f8_feed h x (I a) (I b) (I c) (I d) (I e)) (fun h => f9_feed h (x + 71) (I a) (I b) (I c) (I d) (I e)) := by
  obtain ⟨cc, nr, nm, t, T, q, ru, rc, mu, ms, sg, cl, nc, v, se, g, gl, C, M, E, L⟩ := S
  have L' := L
  obtain ⟨l1, l2, l3, l4, l5, l6, l7, l8, l9, l10, l11, l12⟩ := L
  by_cases ok : v 2 + 20 ≤ 400
  · obtain ⟨h1, E1, P1, F1⟩ := C.1.feed C.2.2.2.1 l8 l9 ok a0 a1 b0 b1 c0 c1 d0 d1 e0 e1
    obtain ⟨h2, E2, M2, F2⟩ := (M.fr F1 (by omega)).feed rfl l9 ok a0 a1 b0 b1 c0 c1 d0 d1 e0 e1
    have ev : ∀ j, j ≠ 2 → us v 2 (v 2 + 20) j = v j := fun j hj => us_ne hj
    have eg : ∀ j, j ≠ 2 → uf g 2 (fmm5 (g 2) (v 2) a b c d e) j = g j := fun j hj => uf_ne hj
    refine ⟨_, h1, h2, E1, E2, cc, nr, nm, us t 1 (v 2 + 20), fdd5 T (v 2) a b c d e, q, ru, rc, mu, ms, sg, cl, nc, _, se, _, gl, ?_, M2, ((E.fr F1 (by omega)).fr F2 (by omega)).im (eg _ (by omega)) (eg _ (by omega)), ?_⟩
    · rw [eg 1 (by omega)]; exact (C.tape P1 F1).fr F2 (by omega)
    · refine ⟨(ev _ (by omega)).trans l1, (ev _ (by omega)).trans l2, l3, l4, l5, l6, ?_, ?_, by rw [us_eq]; omega, by rw [us_eq]; omega, fun k y z => ?_, fun k y z => ⟨(l12 k y z).1, ?_⟩⟩
      · rw [us_eq, uf_eq]; exact l7.feed5 l9 a b c d e
      · rw [us_eq, us_eq]
      · have Y := l11 k y z
        exact ⟨fun j => by rw [eg 3 (by omega)]; exact Y.1 j, fun j => by rw [eg 5 (by omega)]; exact Y.2.1 j, by rw [eg 6 (by omega)]; exact Y.2.2.1, by rw [eg 7 (by omega)]; exact Y.2.2.2.1, by rw [eg 8 (by omega)]; exact Y.2.2.2.2.1, Y.2.2.2.2.2⟩
      · obtain ⟨y1, y2, y3, y4, y5⟩ := (l12 k y z).2
        exact ⟨by rw [eg 9 (by omega)]; exact y1, by rw [eg 10 (by omega)]; exact y2, by rw [eg 13 (by omega)]; exact y3, by rw [eg 12 (by omega)]; exact y4, fun i i0 i1 => by rw [eg 11 (by omega)]; exact y5 i i0 i1⟩
  · exact ⟨_, h, h, C.1.feedN C.2.2.2.1 _ _ _ _ _ l8 l9 l10 ok, M.feedN _ _ _ _ _ rfl l9 l10 ok, ⟨cc, nr, nm, t, T, q, ru, rc, mu, ms, sg, cl, nc, v, se, g, gl, C, M, E, L'⟩⟩
theorem TS.less {T G : Int → Int} {n k : Int} (s : TS T G n) (h : k ≤ n) : TS T G k := fun i i0 i1 => s i i0 (by omega)
theorem EL.end_ {v : Nat → Int} {g : Nat → Int → Int} {nr nm : Int} {t : Nat → Int} {T : Int → Int} {ru : Int → Nat → Int} {rc sg cl : Int → Int → Int} {nc : Int → Int} {mu : Int → Nat → Int} {ms : Int → Int → Int} {k : Int} {t' v' : Nat → Int} (L : EL v g nr nm t T ru rc sg cl nc mu ms) (k0 : 0 ≤ k) (k1 : k ≤ v 2) (et : t' 1 = k) (ev : v' 2 = k) (e14 : v' 14 = v 14) (e15 : v' 15 = v 15) : EL v' g nr nm t' T ru rc sg cl nc mu ms := by
  obtain ⟨l1, l2, l3, l4, l5, l6, l7, l8, l9, l10, l11, l12⟩ := L
  exact ⟨e14.trans l1, e15.trans l2, l3, l4, l5, l6, by rw [ev]; exact l7.less k1, et.trans ev.symm, by omega, by omega, l11, l12⟩
theorem c_end (S : EST h x) {k : Int} (k0 : -2147483648 ≤ k) (k1 : k < 2147483648) : EB x h (fun h => f8_end h x (I k)) (fun h => f9_end h (x + 71) (I k)) := by
  obtain ⟨cc, nr, nm, t, T, q, ru, rc, mu, ms, sg, cl, nc, v, se, g, gl, C, M, E, L⟩ := S
  have L' := L
  obtain ⟨l1, l2, l3, l4, l5, l6, l7, l8, l9, l10, l11, l12⟩ := L
  by_cases ok : 0 ≤ k ∧ k ≤ v 2
  · obtain ⟨h1, E1, P1, F1⟩ := C.1.end_ C.2.2.2.1 l8 l10 ok.1 ok.2
    obtain ⟨h2, E2, M2, F2⟩ := (M.fr F1 (by omega)).end_ rfl l10 ok.1 ok.2
    exact ⟨_, h1, h2, E1, E2, cc, nr, nm, us t 1 k, T, q, ru, rc, mu, ms, sg, cl, nc, _, se, _, gl, (C.tape P1 F1).fr F2 (by omega), M2, (E.fr F1 (by omega)).fr F2 (by omega), L'.end_ ok.1 ok.2 us_eq us_eq (us_ne (by omega)) (us_ne (by omega))⟩
  · exact ⟨_, h, h, C.1.endN C.2.2.2.1 l8 l9 l10 k0 k1 ok, M.endN rfl l9 l10 k0 k1 ok, ⟨cc, nr, nm, t, T, q, ru, rc, mu, ms, sg, cl, nc, v, se, g, gl, C, M, E, L'⟩⟩
/-- another text's rows stay when one is read -/
theorem RM.own {g : Nat → Int → Int} {k : Int} {u : Nat → Int} {cd sg cl : Int → Int} {nc : Int} (Y : RM g k u cd sg cl nc) : RM g k u cd (fun j => g 3 (400 * k + j)) (fun j => g 5 (48 * k + j)) (g 6 k) := by
  have e1 : (fun j => g 3 (400 * k + j)) = sg := funext Y.1
  have e2 : (fun j => g 5 (48 * k + j)) = cl := funext Y.2.1
  rw [e1, e2, Y.2.2.1]
  exact Y
theorem RM.hr {g g' : Nat → Int → Int} {tx k : Int} {u : Nat → Int} {cd sg cl : Int → Int} {nc : Int} (Y : RM g k u cd sg cl nc) (H : HR tx g g') (ne : k ≠ tx) : RM g' k u cd (fun j => g' 3 (400 * k + j)) (fun j => g' 5 (48 * k + j)) (g' 6 k) := by
  obtain ⟨a1, a2, a3, a4, a5, a6⟩ := Y
  obtain ⟨e0, e3, e5, e11, ej⟩ := H
  have e6 : g' 6 k = nc := (ej 6 (by omega) (by omega) (by omega) (by omega) k ne).trans a3
  refine ⟨fun j => rfl, fun j => rfl, rfl, (ej 7 (by omega) (by omega) (by omega) (by omega) k ne).trans a4, (ej 8 (by omega) (by omega) (by omega) (by omega) k ne).trans a5, ?_⟩
  rw [e6]
  exact ⟨a6.1.cong (fun j j0 j1 => (e3 _ (by omega)).trans (a1 j)) (fun j j0 j1 => (e5 _ (by omega)).trans (a2 j)), a6.2⟩
theorem MM.hr {g g' : Nat → Int → Int} {tx k : Int} {u : Nat → Int} {sr : Int → Int} (Y : MM g k u sr) (X : MI u sr) (H : HR tx g g') (ne : k ≠ tx) : MM g' k u sr := by
  obtain ⟨a1, a2, a3, a4, a5⟩ := Y
  obtain ⟨e0, e3, e5, e11, ej⟩ := H
  have x4 := X.1
  exact ⟨(ej 9 (by omega) (by omega) (by omega) (by omega) k ne).trans a1, (ej 10 (by omega) (by omega) (by omega) (by omega) k ne).trans a2, (ej 13 (by omega) (by omega) (by omega) (by omega) k ne).trans a3, (ej 12 (by omega) (by omega) (by omega) (by omega) k ne).trans a4, fun i i0 i1 => (e11 _ (by omega)).trans (a5 i i0 i1)⟩
theorem XO.s5 {nr nm : Int} (O : XO h x nr nm) (y : Int) : ∃ h', fS 8 5 h x (.int (I y)) = some h' ∧ XO h' x y nm ∧ Fr x (x + 1) h h' := OB.set O 5 (.int (I y)) (by simp)
theorem XO.s7 {nr nm : Int} (O : XO h x nr nm) (y : Int) : ∃ h', fS 8 7 h x (.int (I y)) = some h' ∧ XO h' x nr y ∧ Fr x (x + 1) h h' := OB.set O 7 (.int (I y)) (by simp)
end
