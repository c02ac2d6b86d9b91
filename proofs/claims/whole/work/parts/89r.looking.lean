/-! the calls that ask the READERS -/
theorem Fr.sy {lo hi : Nat} {h h1 : AH} (F : Fr lo hi h h1) : Fr lo hi h1 h := ⟨F.1.symm, fun a ha => (F.2 a ha).symm⟩
section
variable {h : AH} {x : Nat}
theorem EST.write2 {h1 h2 : AH} {r' : Int → Int} {c c' : Nat → Int → Int} {nr nm : Int} {t : Nat → Int} {T : Int → Int} {q : Int → Option Nat} {ru : Int → Nat → Int} {rc sg cl : Int → Int → Int} {nc : Int → Int} {mu : Int → Nat → Int} {ms : Int → Int → Int} {v v' : Nat → Int} {g : Nat → Int → Int} {se' : Int64} {gl' : Nat → Int → Int64} (C : EC h x (g 1) c nr nm t T q ru rc mu ms) (E : EI h (x + 71) q g) (L : EL v g nr nm t T ru rc sg cl nc mu ms) (W1 : WD h1 (x + 1) r' c') (F1 : Fr (x + 1) (x + 21) h h1) (M2 : MO h2 (x + 71) v' se' (uf g 1 r') gl') (ev : ∀ j, j ≠ 26 → v' j = v j) (F2 : Fr (x + 71) (x + 71 + 24) h1 h2) : EST h2 x := by
  refine ⟨c', nr, nm, t, T, q, ru, rc, mu, ms, sg, cl, nc, v', se', uf g 1 r', gl', ?_, M2, ?_, L.vg (ev _ (by omega)) (ev _ (by omega)) (ev _ (by omega)) (fun j a b => uf_ne (by omega))⟩
  · rw [uf_eq]; exact (C.world W1 F1).fr F2 (by omega)
  · exact ((E.fr F1 (by omega)).fr F2 (by omega)).im (uf_ne (by omega)) (uf_ne (by omega))
theorem c_chance (S : EST h x) {rd p b : Int} (r0 : -2147483648 ≤ rd) (r1 : rd < 2147483648) (p0 : -2147483648 ≤ p) (p1 : p < 2147483648) (b0 : -2147483648 ≤ b) (b1 : b < 2147483648) : EB x h (fun h => f8_chance h x (I rd) (I p) (I b)) (fun h => f9_chance h (x + 71) (I rd) (I p) (I b)) := by
  obtain ⟨c, nr, nm, t, T, q, ru, rc, mu, ms, sg, cl, nc, v, se, g, gl, C, M, E, L⟩ := S
  have L' := L
  obtain ⟨l1, l2, l3, l4, l5, l6, l7, l8, l9, l10, l11, l12⟩ := L
  subst l1
  obtain ⟨O, W, -, P, -, A2, A3, ⟨ww, H⟩, -, D, K⟩ := id C
  by_cases ok : (0 ≤ rd ∧ rd < v 14) ∧ 0 ≤ p ∧ p < g 1 4 ∧ 0 ≤ b ∧ b < g 1 4 ∧ p ≠ b
  · obtain ⟨⟨o1, o2⟩, o3, o4, o5, o6, o7⟩ := ok
    have Y := l11 rd o1 o2
    obtain ⟨h1, w1, e1, H1, D1, F1, G1⟩ := O.chance W A2 H D l3 l4 (sg := sg) (cl := cl) (nc := nc) Y.2.2.2.2.2 o1 o2 o3 o4 o5 o6 o7
    have C1 := C.look H1 D1 (C.row G1) F1
    obtain ⟨h2, v2, gl2, e2, M2, V2, F2⟩ := (M.fr F1 (by omega)).chance W.ri Y l3 l4 o1 o2 o3 o4 o5 o6 o7
    exact ⟨_, h1, h2, e1, e2, EST.moved C1 (E.fr F1 (by omega)) L' M2 F2 V2 (fun _ _ => rfl)⟩
  · exact ⟨_, h, h, O.chanceN W A2 l3 l4 r0 r1 p0 p1 b0 b1 ok, M.chanceN W.ri l3 l4 r0 r1 p0 p1 b0 b1 ok, ⟨c, v 14, nm, t, T, q, ru, rc, mu, ms, sg, cl, nc, v, se, g, gl, C, M, E, L'⟩⟩
theorem c_tells (S : EST h x) {rd p q b : Int} (r0 : -2147483648 ≤ rd) (r1 : rd < 2147483648) (p0 : -2147483648 ≤ p) (p1 : p < 2147483648) (q0 : -2147483648 ≤ q) (q1 : q < 2147483648) (b0 : -2147483648 ≤ b) (b1 : b < 2147483648) : EB x h (fun h => f8_tells h x (I rd) (I p) (I q) (I b)) (fun h => f9_tells h (x + 71) (I rd) (I p) (I q) (I b)) := by
  obtain ⟨c, nr, nm, t, T, qq, ru, rc, mu, ms, sg, cl, nc, v, se, g, gl, C, M, E, L⟩ := S
  have L' := L
  obtain ⟨l1, l2, l3, l4, l5, l6, l7, l8, l9, l10, l11, l12⟩ := L
  subst l1
  obtain ⟨O, W, -, P, -, A2, A3, ⟨ww, H⟩, -, D, K⟩ := id C
  by_cases ok : (0 ≤ rd ∧ rd < v 14) ∧ (0 ≤ p ∧ p < g 1 4 ∧ 0 ≤ q ∧ q < g 1 4 ∧ p ≠ q) ∧ (0 ≤ p ∧ p < g 1 4 ∧ 0 ≤ b ∧ b < g 1 4 ∧ p ≠ b) ∧ (0 ≤ q ∧ q < g 1 4 ∧ 0 ≤ b ∧ b < g 1 4 ∧ q ≠ b)
  · obtain ⟨⟨o1, o2⟩, ⟨o3, o4, o5, o6, o7⟩, ⟨-, -, o8, o9, oa⟩, -, -, -, -, ob⟩ := ok
    have Y := l11 rd o1 o2
    obtain ⟨h1, w1, e1, H1, D1, F1, G1⟩ := O.tells W A2 H D l3 l4 (sg := sg) (cl := cl) (nc := nc) Y.2.2.2.2.2 o1 o2 o3 o4 o5 o6 o8 o9 o7 oa ob
    have C1 := C.look H1 D1 (C.row G1) F1
    obtain ⟨h2, v2, gl2, e2, M2, V2, F2⟩ := (M.fr F1 (by omega)).tells W.ri Y l3 l4 o1 o2 o3 o4 o5 o6 o8 o9 o7 oa ob
    exact ⟨_, h1, h2, e1, e2, EST.moved C1 (E.fr F1 (by omega)) L' M2 F2 V2 (fun _ _ => rfl)⟩
  · exact ⟨_, h, h, O.tellsN W A2 l3 l4 r0 r1 p0 p1 q0 q1 b0 b1 ok, M.tellsN W.ri l3 l4 r0 r1 p0 p1 q0 q1 b0 b1 ok, ⟨c, v 14, nm, t, T, qq, ru, rc, mu, ms, sg, cl, nc, v, se, g, gl, C, M, E, L'⟩⟩
theorem c_look (S : EST h x) {rd p b sd : Int} (r0 : -2147483648 ≤ rd) (r1 : rd < 2147483648) (p0 : -2147483648 ≤ p) (p1 : p < 2147483648) (b0 : -2147483648 ≤ b) (b1 : b < 2147483648) (s0 : -2147483648 ≤ sd) (s1 : sd < 2147483648) : EB x h (fun h => f8_look h x (I rd) (I p) (I b) (I sd)) (fun h => f9_look h (x + 71) (I rd) (I p) (I b) (I sd)) := by
  obtain ⟨c, nr, nm, t, T, q, ru, rc, mu, ms, sg, cl, nc, v, se, g, gl, C, M, E, L⟩ := S
  have L' := L
  obtain ⟨l1, l2, l3, l4, l5, l6, l7, l8, l9, l10, l11, l12⟩ := L
  subst l1
  obtain ⟨O, W, -, P, -, A2, A3, ⟨ww, H⟩, -, D, K⟩ := id C
  by_cases ok : lkOK (g 1) (v 14) rd p b sd
  · have Y := l11 rd ok.1.1 ok.1.2
    obtain ⟨h1, h2, w1, c1, e1, H1, D1, W1, F1, G1, F2⟩ := O.look W A2 H D l3 l4 (sg := sg) (cl := cl) (nc := nc) Y.2.2.2.2.2 ok s1
    have C1 := C.look (H1.at (F2.2 _ (by omega)).symm) (fun k a b => (D1 k a b).fr F2.sy (by omega)) (C.row G1) F1
    obtain ⟨h3, v3, gl3, e3, M3, V3, F3⟩ := ((M.fr F1 (by omega)).fr F2 (by omega)).look W.ri Y l3 l4 ok s1
    exact ⟨_, h2, h3, e1, e3, EST.write2 C1 (E.fr F1 (by omega)) L' W1 F2 M3 V3 F3⟩
  · exact ⟨_, h, h, O.lookN W A2 l3 l4 r0 r1 p0 p1 b0 b1 s0 s1 ok, M.lookN W.ri l3 l4 r0 r1 p0 p1 b0 b1 s0 s1 ok, ⟨c, v 14, nm, t, T, q, ru, rc, mu, ms, sg, cl, nc, v, se, g, gl, C, M, E, L'⟩⟩
theorem c_surest (S : EST h x) {coins p b : Int} (u0 : -2147483648 ≤ coins) (u1 : coins < 2147483648) (p0 : -2147483648 ≤ p) (p1 : p < 2147483648) (b0 : -2147483648 ≤ b) (b1 : b < 2147483648) : EB x h (fun h => f8_surest h x (I coins) (I p) (I b)) (fun h => f9_surest h (x + 71) (I coins) (I p) (I b)) := by
  obtain ⟨c, nr, nm, t, T, q, ru, rc, mu, ms, sg, cl, nc, v, se, g, gl, C, M, E, L⟩ := S
  have L' := L
  obtain ⟨l1, l2, l3, l4, l5, l6, l7, l8, l9, l10, l11, l12⟩ := L
  subst l1
  obtain ⟨O, W, -, P, -, A2, A3, ⟨ww, H⟩, ⟨sz, nn, ch, tk, co, wl, N, z0⟩, D, K⟩ := id C
  by_cases ok : (0 ≤ coins ∧ coins ≤ 9999) ∧ 0 ≤ p ∧ p < g 1 4 ∧ 0 ≤ b ∧ b < g 1 4 ∧ p ≠ b
  · obtain ⟨⟨o1, o2⟩, o3, o4, o5, o6, o7⟩ := ok
    obtain ⟨h1, w1, sz1, nn1, ch1, tk1, co1, e1, H1, D1, N1, F1⟩ := O.surest W A2 H D N l3 l4 (sg := sg) (cl := cl) (nc := nc) (fun k a b => (l11 k a b).2.2.2.2.2) o3 o4 o5 o6 o7 o1 o2
    have C1 := C.look H1 D1 ⟨sz1, nn1, ch1, tk1, co1, wl, N1, z0⟩ F1
    obtain ⟨h2, v2, G, gl2, e2, M2, V2, F2⟩ := (M.fr F1 (by omega)).surest W.ri l3 l4 (ru := ru) (rc := rc) (sg := sg) (cl := cl) (nc := nc) (fun k a b => ⟨(l11 k a b).1, (l11 k a b).2.1, (l11 k a b).2.2.1, (l11 k a b).2.2.2.2.2⟩) (fun k a b => (l11 k a b).2.2.2.2.1) o3 o4 o5 o6 o7 o1 o2
    exact ⟨_, h1, h2, e1, e2, EST.moved C1 (E.fr F1 (by omega)) L' M2 F2 V2 (fun j z => uf_ne (by omega))⟩
  · exact ⟨_, h, h, O.surestN W p0 p1 b0 b1 u0 u1 ok, M.surestN W.ri p0 p1 b0 b1 u0 u1 ok, ⟨c, v 14, nm, t, T, q, ru, rc, mu, ms, sg, cl, nc, v, se, g, gl, C, M, E, L'⟩⟩
theorem c_soonest (S : EST h x) {q p b wh : Int} (q0 : -2147483648 ≤ q) (q1 : q < 2147483648) (p0 : -2147483648 ≤ p) (p1 : p < 2147483648) (b0 : -2147483648 ≤ b) (b1 : b < 2147483648) (w0 : -2147483648 ≤ wh) (w1 : wh < 2147483648) : EB x h (fun h => f8_soonest h x (I q) (I p) (I b) (I wh)) (fun h => f9_soonest h (x + 71) (I q) (I p) (I b) (I wh)) := by
  obtain ⟨c, nr, nm, t, T, qq, ru, rc, mu, ms, sg, cl, nc, v, se, g, gl, C, M, E, L⟩ := S
  have L' := L
  obtain ⟨l1, l2, l3, l4, l5, l6, l7, l8, l9, l10, l11, l12⟩ := L
  subst l1
  obtain ⟨O, W, -, P, -, A2, A3, ⟨ww, H⟩, ⟨sz, nn, ch, tk, co, wl, N, z0⟩, D, K⟩ := id C
  by_cases ok : sooOK (g 1) (v 14) q p b wh
  · obtain ⟨h1, wa1, sz1, nn1, ch1, tk1, co1, wl1, e1, H1, D1, N1, z1, F1⟩ := O.soonest W A2 H D N z0 l3 l4 (sg := sg) (cl := cl) (nc := nc) (fun k a b => (l11 k a b).2.2.2.2.2) ok
    have C1 := C.look H1 D1 ⟨sz1, nn1, ch1, tk1, co1, wl1, N1, z1⟩ F1
    obtain ⟨h2, v2, g2, gl2, e2, M2, V2, G2, F2⟩ := (M.fr F1 (by omega)).soonest W.ri l3 l4 l11 ok
    exact ⟨_, h1, h2, e1, e2, EST.moved C1 (E.fr F1 (by omega)) L' M2 F2 V2 (fun j z => G2 j (by omega) (by omega) (by omega))⟩
  · exact ⟨_, h, h, O.soonestN W l3 l4 q0 q1 p0 p1 b0 b1 w0 w1 ok, M.soonestN W.ri l3 l4 q0 q1 p0 p1 b0 b1 w0 w1 ok, ⟨c, v 14, nm, t, T, qq, ru, rc, mu, ms, sg, cl, nc, v, se, g, gl, C, M, E, L'⟩⟩
end
