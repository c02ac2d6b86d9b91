/-! each call: the class, then the reference, the same answer -/
section
variable {h : AH} {x : Nat}
theorem c_clock (S : EST h x) {w : Int} (w0 : -2147483648 ≤ w) (w1 : w < 2147483648) : EB x h (fun h => f8_clock h x (I w)) (fun h => f9_clock h (x + 71) (I w)) := by
  obtain ⟨c, nr, nm, t, T, q, ru, rc, mu, ms, sg, cl, nc, v, se, g, gl, C, M, E, L⟩ := S
  by_cases ok : g 1 0 ≤ w ∧ w ≤ 519
  · obtain ⟨o1, o2⟩ := ok
    obtain ⟨h1, e1, W1, F1⟩ := C.1.clock C.2.1 o1 o2
    have M1 := M.fr F1 (by omega)
    obtain ⟨h2, e2, M2, F2⟩ := M1.clock C.2.1.ri o1 o2
    exact ⟨_, h1, h2, e1, e2, EST.write C E L W1 F1 M2 F2⟩
  · exact ⟨_, h, h, C.1.clockN C.2.1 (by omega) (by omega) ok, M.clockN C.2.1.ri (by omega) (by omega) ok, ⟨c, nr, nm, t, T, q, ru, rc, mu, ms, sg, cl, nc, v, se, g, gl, C, M, E, L⟩⟩
theorem c_stuff (S : EST h x) {y co : Int} (y0 : -2147483648 ≤ y) (y1 : y < 2147483648) (co0 : -2147483648 ≤ co) (co1 : co < 2147483648) : EB x h (fun h => f8_stuff h x (I y) (I co)) (fun h => f9_stuff h (x + 71) (I y) (I co)) := by
  obtain ⟨c, nr, nm, t, T, q, ru, rc, mu, ms, sg, cl, nc, v, se, g, gl, C, M, E, L⟩ := S
  by_cases ok : g 1 1 < 10 ∧ (1800 ≤ y ∧ y ≤ 1999) ∧ 1 ≤ co ∧ co ≤ 99
  · obtain ⟨o1, ⟨o2, o3⟩, o4, o5⟩ := ok
    obtain ⟨h1, c1, e1, W1, F1⟩ := C.1.stuff C.2.1 o1 o2 o3 o4 o5
    have M1 := M.fr F1 (by omega)
    obtain ⟨h2, e2, M2, F2⟩ := M1.stuff C.2.1.ri o1 o2 o3 o4 o5
    exact ⟨_, h1, h2, e1, e2, EST.write C E L W1 F1 M2 F2⟩
  · exact ⟨_, h, h, C.1.stuffN C.2.1 (by omega) (by omega) (by omega) (by omega) ok, M.stuffN C.2.1.ri (by omega) (by omega) (by omega) (by omega) ok, ⟨c, nr, nm, t, T, q, ru, rc, mu, ms, sg, cl, nc, v, se, g, gl, C, M, E, L⟩⟩
theorem c_truth (S : EST h x) {d l : Int} (d0 : -2147483648 ≤ d) (d1 : d < 2147483648) (l0 : -2147483648 ≤ l) (l1 : l < 2147483648) : EB x h (fun h => f8_truth h x (I d) (I l)) (fun h => f9_truth h (x + 71) (I d) (I l)) := by
  obtain ⟨c, nr, nm, t, T, q, ru, rc, mu, ms, sg, cl, nc, v, se, g, gl, C, M, E, L⟩ := S
  by_cases ok : g 1 2 < 200 ∧ (0 ≤ d ∧ d ≤ 9999) ∧ (0 ≤ l ∧ l ≤ 99) ∧ Tl (g 1) d = -1
  · obtain ⟨o1, ⟨o2, o3⟩, ⟨o4, o5⟩, o6⟩ := ok
    obtain ⟨h1, c1, e1, W1, F1⟩ := C.1.truth C.2.1 o1 o2 o3 o4 o5 o6
    have M1 := M.fr F1 (by omega)
    obtain ⟨h2, e2, M2, F2⟩ := M1.truth C.2.1.ri o1 o2 o3 o4 o5 o6
    exact ⟨_, h1, h2, e1, e2, EST.write C E L W1 F1 M2 F2⟩
  · exact ⟨_, h, h, C.1.truthN C.2.1 (by omega) (by omega) (by omega) (by omega) ok, M.truthN C.2.1.ri (by omega) (by omega) (by omega) (by omega) ok, ⟨c, nr, nm, t, T, q, ru, rc, mu, ms, sg, cl, nc, v, se, g, gl, C, M, E, L⟩⟩
theorem c_fact (S : EST h x) {s d l : Int} (s0 : -2147483648 ≤ s) (s1 : s < 2147483648) (d0 : -2147483648 ≤ d) (d1 : d < 2147483648) (l0 : -2147483648 ≤ l) (l1 : l < 2147483648) : EB x h (fun h => f8_fact h x (I s) (I d) (I l)) (fun h => f9_fact h (x + 71) (I s) (I d) (I l)) := by
  obtain ⟨c, nr, nm, t, T, q, ru, rc, mu, ms, sg, cl, nc, v, se, g, gl, C, M, E, L⟩ := S
  by_cases ok : g 1 3 < 300 ∧ (0 ≤ s ∧ s ≤ 5) ∧ (0 ≤ d ∧ d ≤ 9999) ∧ (0 ≤ l ∧ l ≤ 99) ∧ Fl (g 1) s d = -1
  · obtain ⟨o1, ⟨o7, o8⟩, ⟨o2, o3⟩, ⟨o4, o5⟩, o6⟩ := ok
    obtain ⟨h1, c1, e1, W1, F1⟩ := C.1.fact C.2.1 o1 o7 o8 o2 o3 o4 o5 o6
    have M1 := M.fr F1 (by omega)
    obtain ⟨h2, e2, M2, F2⟩ := M1.fact C.2.1.ri o1 o7 o8 o2 o3 o4 o5 o6
    exact ⟨_, h1, h2, e1, e2, EST.write C E L W1 F1 M2 F2⟩
  · exact ⟨_, h, h, C.1.factN C.2.1 (by omega) (by omega) (by omega) (by omega) (by omega) (by omega) ok, M.factN C.2.1.ri (by omega) (by omega) (by omega) (by omega) (by omega) (by omega) ok, ⟨c, nr, nm, t, T, q, ru, rc, mu, ms, sg, cl, nc, v, se, g, gl, C, M, E, L⟩⟩
theorem c_page (S : EST h x) {s d l : Int} (s0 : -2147483648 ≤ s) (s1 : s < 2147483648) (d0 : -2147483648 ≤ d) (d1 : d < 2147483648) (l0 : -2147483648 ≤ l) (l1 : l < 2147483648) : EB x h (fun h => f8_page h x (I s) (I d) (I l)) (fun h => f9_page h (x + 71) (I s) (I d) (I l)) := by
  obtain ⟨c, nr, nm, t, T, q, ru, rc, mu, ms, sg, cl, nc, v, se, g, gl, C, M, E, L⟩ := S
  by_cases ok : g 1 5 < 400 ∧ (0 ≤ s ∧ s < g 1 4) ∧ (0 ≤ d ∧ d ≤ 9999) ∧ (0 ≤ l ∧ l ≤ 99) ∧ hd (g 1) s d = false
  · obtain ⟨o1, ⟨o7, o8⟩, ⟨o2, o3⟩, ⟨o4, o5⟩, o6⟩ := ok
    obtain ⟨h1, c1, e1, W1, F1⟩ := C.1.page C.2.1 o1 o7 o8 o2 o3 o4 o5 o6
    have M1 := M.fr F1 (by omega)
    obtain ⟨h2, e2, M2, F2⟩ := M1.page C.2.1.ri o1 o7 o8 o2 o3 o4 o5 o6
    exact ⟨_, h1, h2, e1, e2, EST.write C E L W1 F1 M2 F2⟩
  · exact ⟨_, h, h, C.1.pageN C.2.1 (by omega) (by omega) (by omega) (by omega) (by omega) (by omega) ok, M.pageN C.2.1.ri (by omega) (by omega) (by omega) (by omega) (by omega) (by omega) ok, ⟨c, nr, nm, t, T, q, ru, rc, mu, ms, sg, cl, nc, v, se, g, gl, C, M, E, L⟩⟩
theorem c_piece (S : EST h x) {so a b d e f st pr : Int} (so0 : -2147483648 ≤ so) (so1 : so < 2147483648) (a0 : -2147483648 ≤ a) (a1 : a < 2147483648) (b0 : -2147483648 ≤ b) (b1 : b < 2147483648) (d0 : -2147483648 ≤ d) (d1 : d < 2147483648) (e0 : -2147483648 ≤ e) (e1 : e < 2147483648) (f0 : -2147483648 ≤ f) (f1 : f < 2147483648) (st0 : -2147483648 ≤ st) (st1 : st < 2147483648) (pr0 : -2147483648 ≤ pr) (pr1 : pr < 2147483648) : EB x h (fun h => f8_piece h x (I so) (I a) (I b) (I d) (I e) (I f) (I st) (I pr)) (fun h => f9_piece h (x + 71) (I so) (I a) (I b) (I d) (I e) (I f) (I st) (I pr)) := by
  obtain ⟨c, nr, nm, t, T, q, ru, rc, mu, ms, sg, cl, nc, v, se, g, gl, C, M, E, L⟩ := S
  by_cases ok : g 1 4 < 90 ∧ (0 ≤ so ∧ so ≤ 2) ∧ ((0 ≤ a ∧ a ≤ 99) ∧ (0 ≤ b ∧ b ≤ 99) ∧ (0 ≤ d ∧ d ≤ 99) ∧ (0 ≤ e ∧ e ≤ 99) ∧ 0 ≤ f ∧ f ≤ 99) ∧ (0 ≤ st ∧ st < 2 ^ (g 1 1).toNat) ∧ 0 ≤ pr ∧ pr ≤ 9999
  · obtain ⟨o1, ⟨o2, o3⟩, ⟨⟨o4, o5⟩, ⟨o6, o7⟩, ⟨o8, o9⟩, ⟨oa, ob⟩, oc, od⟩, ⟨oe, of⟩, og, oh⟩ := ok
    obtain ⟨h1, c1, e1, W1, F1⟩ := C.1.piece C.2.1 o1 o2 o3 o4 o5 o6 o7 o8 o9 oa ob oc od oe of og oh
    have M1 := M.fr F1 (by omega)
    obtain ⟨h2, e2, M2, F2⟩ := M1.piece C.2.1.ri o1 o2 o3 o4 o5 o6 o7 o8 o9 oa ob oc od oe of og oh
    exact ⟨_, h1, h2, e1, e2, EST.write C E L W1 F1 M2 F2⟩
  · exact ⟨_, h, h, C.1.pieceN C.2.1 (by omega) (by omega) (by omega) (by omega) (by omega) (by omega) (by omega) (by omega) (by omega) (by omega) (by omega) (by omega) (by omega) (by omega) (by omega) (by omega) ok, M.pieceN C.2.1.ri (by omega) (by omega) (by omega) (by omega) (by omega) (by omega) (by omega) (by omega) (by omega) (by omega) (by omega) (by omega) (by omega) (by omega) (by omega) (by omega) ok, ⟨c, nr, nm, t, T, q, ru, rc, mu, ms, sg, cl, nc, v, se, g, gl, C, M, E, L⟩⟩
theorem c_test (S : EST h x) {p s : Int} (p0 : -2147483648 ≤ p) (p1 : p < 2147483648) (s0 : -2147483648 ≤ s) (s1 : s < 2147483648) : EB x h (fun h => f8_test h x (I p) (I s)) (fun h => f9_test h (x + 71) (I p) (I s)) := by
  obtain ⟨c, nr, nm, t, T, q, ru, rc, mu, ms, sg, cl, nc, v, se, g, gl, C, M, E, L⟩ := S
  by_cases ok : g 1 7 < 200 ∧ (0 ≤ p ∧ p < g 1 4) ∧ (0 ≤ s ∧ s < g 1 1) ∧ bi (g 1 (1330 + 10 * p + 6)) s = 1 ∧ g 1 (1330 + 10 * p + 9) ≤ g 1 0
  · obtain ⟨o1, ⟨o2, o3⟩, ⟨o4, o5⟩, o6, o7⟩ := ok
    obtain ⟨h1, c1, e1, W1, F1⟩ := C.1.test C.2.1 o1 o2 o3 o4 o5 o6 o7
    have M1 := M.fr F1 (by omega)
    obtain ⟨h2, e2, M2, F2⟩ := M1.test C.2.1.ri o1 o2 o3 o4 o5 o6 o7
    exact ⟨_, h1, h2, e1, e2, EST.write C E L W1 F1 M2 F2⟩
  · exact ⟨_, h, h, C.1.testN C.2.1 (by omega) (by omega) (by omega) (by omega) ok, M.testN C.2.1.ri (by omega) (by omega) (by omega) (by omega) ok, ⟨c, nr, nm, t, T, q, ru, rc, mu, ms, sg, cl, nc, v, se, g, gl, C, M, E, L⟩⟩
theorem c_keep (S : EST h x) {p t_ : Int} (p0 : -2147483648 ≤ p) (p1 : p < 2147483648) (t_0 : -2147483648 ≤ t_) (t_1 : t_ < 2147483648) : EB x h (fun h => f8_keep h x (I p) (I t_)) (fun h => f9_keep h (x + 71) (I p) (I t_)) := by
  obtain ⟨c, nr, nm, t, T, q, ru, rc, mu, ms, sg, cl, nc, v, se, g, gl, C, M, E, L⟩ := S
  by_cases ok : (0 ≤ p ∧ p < g 1 4) ∧ 0 ≤ t_ ∧ t_ ≤ 519
  · obtain ⟨⟨o1, o2⟩, o3, o4⟩ := ok
    obtain ⟨h1, c1, e1, W1, F1⟩ := C.1.keep C.2.1 o1 o2 o3 o4
    have M1 := M.fr F1 (by omega)
    obtain ⟨h2, e2, M2, F2⟩ := M1.keep C.2.1.ri o1 o2 o3 o4
    exact ⟨_, h1, h2, e1, e2, EST.write C E L W1 F1 M2 F2⟩
  · exact ⟨_, h, h, C.1.keepN C.2.1 (by omega) (by omega) (by omega) (by omega) ok, M.keepN C.2.1.ri (by omega) (by omega) (by omega) (by omega) ok, ⟨c, nr, nm, t, T, q, ru, rc, mu, ms, sg, cl, nc, v, se, g, gl, C, M, E, L⟩⟩
theorem c_person (S : EST h x) {f t_ q_ w : Int} (f0 : -2147483648 ≤ f) (f1 : f < 2147483648) (t_0 : -2147483648 ≤ t_) (t_1 : t_ < 2147483648) (q_0 : -2147483648 ≤ q_) (q_1 : q_ < 2147483648) (w0 : -2147483648 ≤ w) (w1 : w < 2147483648) : EB x h (fun h => f8_person h x (I f) (I t_) (I q_) (I w)) (fun h => f9_person h (x + 71) (I f) (I t_) (I q_) (I w)) := by
  obtain ⟨c, nr, nm, t, T, q, ru, rc, mu, ms, sg, cl, nc, v, se, g, gl, C, M, E, L⟩ := S
  by_cases ok : g 1 8 < 8 ∧ (0 ≤ f ∧ f ≤ 9999) ∧ (f ≤ t_ ∧ t_ ≤ 9999) ∧ (0 ≤ q_ ∧ q_ ≤ 999) ∧ 0 ≤ w ∧ w ≤ 519
  · obtain ⟨o1, ⟨o2, o3⟩, ⟨o4, o5⟩, ⟨o6, o7⟩, o8, o9⟩ := ok
    obtain ⟨h1, c1, e1, W1, F1⟩ := C.1.person C.2.1 o1 o2 o4 o5 o6 o7 o8 o9
    have M1 := M.fr F1 (by omega)
    obtain ⟨h2, e2, M2, F2⟩ := M1.person C.2.1.ri o1 o2 o4 o5 o6 o7 o8 o9
    exact ⟨_, h1, h2, e1, e2, EST.write C E L W1 F1 M2 F2⟩
  · exact ⟨_, h, h, C.1.personN C.2.1 (by omega) (by omega) (by omega) (by omega) (by omega) (by omega) (by omega) (by omega) ok, M.personN C.2.1.ri (by omega) (by omega) (by omega) (by omega) (by omega) (by omega) (by omega) (by omega) ok, ⟨c, nr, nm, t, T, q, ru, rc, mu, ms, sg, cl, nc, v, se, g, gl, C, M, E, L⟩⟩
theorem c_ask (S : EST h x) {p : Int} (p0 : -2147483648 ≤ p) (p1 : p < 2147483648) : EB x h (fun h => f8_ask h x (I p)) (fun h => f9_ask h (x + 71) (I p)) := by
  obtain ⟨c, nr, nm, t, T, q, ru, rc, mu, ms, sg, cl, nc, v, se, g, gl, C, M, E, L⟩ := S
  by_cases ok : (0 ≤ p ∧ p < g 1 8) ∧ g 1 (5030 + 5 * p + 4) = -1
  · obtain ⟨⟨o1, o2⟩, o3⟩ := ok
    obtain ⟨h1, c1, e1, W1, F1⟩ := C.1.ask C.2.1 o1 o2 o3
    have M1 := M.fr F1 (by omega)
    obtain ⟨h2, e2, M2, F2⟩ := M1.ask C.2.1.ri o1 o2 o3
    exact ⟨_, h1, h2, e1, e2, EST.write C E L W1 F1 M2 F2⟩
  · exact ⟨_, h, h, C.1.askN C.2.1 (by omega) (by omega) ok, M.askN C.2.1.ri (by omega) (by omega) ok, ⟨c, nr, nm, t, T, q, ru, rc, mu, ms, sg, cl, nc, v, se, g, gl, C, M, E, L⟩⟩
theorem c_of (S : EST h x) {p w : Int} (p0 : -2147483648 ≤ p) (p1 : p < 2147483648) (w0 : -2147483648 ≤ w) (w1 : w < 2147483648) : ∃ a, f8_of h x (I p) (I w) = some a ∧ f9_of h (x + 71) (I p) (I w) = some a := by
  obtain ⟨c, nr, nm, t, T, q, ru, rc, mu, ms, sg, cl, nc, v, se, g, gl, C, M, E, L⟩ := S
  exact ⟨_, C.1.of_ C.2.1 (by omega) (by omega) (by omega) (by omega), M.of_ C.2.1.ri (by omega) (by omega) (by omega) (by omega)⟩
theorem c_shared (S : EST h x) {p s : Int} (p0 : -2147483648 ≤ p) (p1 : p < 2147483648) (s0 : -2147483648 ≤ s) (s1 : s < 2147483648) : ∃ a, f8_shared h x (I p) (I s) = some a ∧ f9_shared h (x + 71) (I p) (I s) = some a := by
  obtain ⟨c, nr, nm, t, T, q, ru, rc, mu, ms, sg, cl, nc, v, se, g, gl, C, M, E, L⟩ := S
  exact ⟨_, C.1.shared C.2.1 (by omega) (by omega) (by omega) (by omega), M.shared C.2.1.ri (by omega) (by omega) (by omega) (by omega)⟩
theorem c_stand (S : EST h x) {p w : Int} (p0 : -2147483648 ≤ p) (p1 : p < 2147483648) (w0 : -2147483648 ≤ w) (w1 : w < 2147483648) : ∃ a, f8_stand h x (I p) (I w) = some a ∧ f9_stand h (x + 71) (I p) (I w) = some a := by
  obtain ⟨c, nr, nm, t, T, q, ru, rc, mu, ms, sg, cl, nc, v, se, g, gl, C, M, E, L⟩ := S
  exact ⟨_, C.1.stand C.2.1 (by omega) (by omega) (by omega) (by omega), M.stand C.2.1.ri (by omega) (by omega) (by omega) (by omega)⟩
theorem c_cost (S : EST h x) {p : Int} (p0 : -2147483648 ≤ p) (p1 : p < 2147483648) : ∃ a, f8_cost h x (I p) = some a ∧ f9_cost h (x + 71) (I p) = some a := by
  obtain ⟨c, nr, nm, t, T, q, ru, rc, mu, ms, sg, cl, nc, v, se, g, gl, C, M, E, L⟩ := S
  exact ⟨_, C.1.cost C.2.1 (by omega) (by omega), M.cost C.2.1.ri (by omega) (by omega)⟩
theorem c_cheapest (S : EST h x) {p : Int} (p0 : -2147483648 ≤ p) (p1 : p < 2147483648) : ∃ a, f8_cheapest h x (I p) = some a ∧ f9_cheapest h (x + 71) (I p) = some a := by
  obtain ⟨c, nr, nm, t, T, q, ru, rc, mu, ms, sg, cl, nc, v, se, g, gl, C, M, E, L⟩ := S
  exact ⟨_, C.1.cheapest C.2.1 (by omega) (by omega), M.cheapest C.2.1.ri (by omega) (by omega)⟩
theorem c_likely (S : EST h x) {p : Int} (p0 : -2147483648 ≤ p) (p1 : p < 2147483648) : ∃ a, f8_likely h x (I p) = some a ∧ f9_likely h (x + 71) (I p) = some a := by
  obtain ⟨c, nr, nm, t, T, q, ru, rc, mu, ms, sg, cl, nc, v, se, g, gl, C, M, E, L⟩ := S
  exact ⟨_, C.1.likely C.2.1 (by omega) (by omega), M.likely C.2.1.ri (by omega) (by omega)⟩
theorem c_kin (S : EST h x) {p w : Int} (p0 : -2147483648 ≤ p) (p1 : p < 2147483648) (w0 : -2147483648 ≤ w) (w1 : w < 2147483648) : ∃ a, f8_kin h x (I p) (I w) = some a ∧ f9_kin h (x + 71) (I p) (I w) = some a := by
  obtain ⟨c, nr, nm, t, T, q, ru, rc, mu, ms, sg, cl, nc, v, se, g, gl, C, M, E, L⟩ := S
  exact ⟨_, C.1.kin C.2.1 (by omega) (by omega) (by omega) (by omega), M.kin C.2.1.ri (by omega) (by omega) (by omega) (by omega)⟩
theorem c_unasked (S : EST h x) {p w : Int} (p0 : -2147483648 ≤ p) (p1 : p < 2147483648) (w0 : -2147483648 ≤ w) (w1 : w < 2147483648) : ∃ a, f8_unasked h x (I p) (I w) = some a ∧ f9_unasked h (x + 71) (I p) (I w) = some a := by
  obtain ⟨c, nr, nm, t, T, q, ru, rc, mu, ms, sg, cl, nc, v, se, g, gl, C, M, E, L⟩ := S
  exact ⟨_, C.1.unasked C.2.1 (by omega) (by omega) (by omega) (by omega), M.unasked C.2.1.ri (by omega) (by omega) (by omega) (by omega)⟩
theorem c_gain (S : EST h x) {p w : Int} (p0 : -2147483648 ≤ p) (p1 : p < 2147483648) (w0 : -2147483648 ≤ w) (w1 : w < 2147483648) : ∃ a, f8_gain h x (I p) (I w) = some a ∧ f9_gain h (x + 71) (I p) (I w) = some a := by
  obtain ⟨c, nr, nm, t, T, q, ru, rc, mu, ms, sg, cl, nc, v, se, g, gl, C, M, E, L⟩ := S
  exact ⟨_, C.1.gain C.2.1 (by omega) (by omega) (by omega) (by omega), M.gain C.2.1.ri (by omega) (by omega) (by omega) (by omega)⟩
theorem c_could (S : EST h x) {p : Int} (p0 : -2147483648 ≤ p) (p1 : p < 2147483648) : ∃ a, f8_could h x (I p) = some a ∧ f9_could h (x + 71) (I p) = some a := by
  obtain ⟨c, nr, nm, t, T, q, ru, rc, mu, ms, sg, cl, nc, v, se, g, gl, C, M, E, L⟩ := S
  obtain ⟨l1, l2, l3, l4, l5, l6, l7, l8, l9, l10, l11, l12⟩ := L
  subst l2
  exact ⟨_, C.1.could C.2.1 C.2.2.2.2.2.2.1 l5 l6 (fun k a b => ⟨C.2.2.2.2.2.2.2.2.2.2 k a (by omega), (l12 k a b).1⟩) p0 p1, M.could C.2.1.ri l5 l6 (fun k a b => ⟨(l12 k a b).2, (l12 k a b).1⟩) p0 p1⟩
theorem c_count (S : EST h x) {w : Int} (p0 : -2147483648 ≤ w) (p1 : w < 2147483648) : ∃ a, f8_count h x (I w) = some a ∧ f9_count h (x + 71) (I w) = some a := by
  obtain ⟨c, nr, nm, t, T, q, ru, rc, mu, ms, sg, cl, nc, v, se, g, gl, C, M, E, L⟩ := S
  obtain ⟨l1, l2, l3, l4, l5, l6, l7, l8, l9, l10, l11, l12⟩ := L
  refine ⟨_, C.1.count C.2.1 C.2.2.2.1 p0 p1, ?_⟩
  rw [M.count p0 p1, l1, l2, l8]
theorem c_grows (S : EST h x) : ∃ a h1, f8_grows h x = some a ∧ f9_grows h (x + 71) = some (a, h1) ∧ EST h1 x := by
  obtain ⟨c, nr, nm, t, T, q, ru, rc, mu, ms, sg, cl, nc, v, se, g, gl, C, M, E, L⟩ := S
  obtain ⟨h1, g1, e1, M1, G, F1⟩ := M.grows C.2.1.ri
  exact ⟨_, h1, C.1.grows C.2.1, e1, EST.moved C E L M1 F1 (fun j _ => rfl) (fun j z => G j z)⟩
theorem MI_any : MI (fun j => if j = 0 then 1 else 0) (fun _ => 0) := ⟨⟨by decide, by decide, by decide, by decide, by decide, by decide, by decide, by decide⟩, fun k a b => ⟨Int.le_refl 0, by show (0 : Int) ≤ 5; omega⟩⟩
theorem c_outrun (S : EST h x) {p w : Int} (p0 : -2147483648 ≤ p) (p1 : p < 2147483648) (w0 : -2147483648 ≤ w) (w1 : w < 2147483648) : ∃ a, f8_outrun h x (I p) (I w) = some a ∧ f9_outrun h (x + 71) (I p) (I w) = some a := by
  obtain ⟨c, nr, nm, t, T, q, ru, rc, mu, ms, sg, cl, nc, v, se, g, gl, C, M, E, L⟩ := S
  obtain ⟨l1, l2, l3, l4, l5, l6, l7, l8, l9, l10, l11, l12⟩ := L
  subst l2
  have n := M.outrun C.2.1.ri (mk := p) (fr := w) p0 p1 l5 l6 (fun k a b => by have y := (l12 k a b).2.1; have z := (l12 k a b).1.1; omega) w0 w1
  by_cases ok : 0 ≤ p ∧ p < v 15
  · have y := (l12 p ok.1 ok.2).2.1
    have z := (l12 p ok.1 ok.2).1.1
    refine ⟨_, C.1.outrun C.2.1 C.2.2.2.2.2.2.1 l5 l6 (u := mu p) (sr := ms p) (fun a b => C.2.2.2.2.2.2.2.2.2.2 p a (by omega)) ⟨z.1, z.2.1⟩ p0 p1 w0 w1, ?_⟩
    rw [n, y]
  · refine ⟨_, C.1.outrun C.2.1 C.2.2.2.2.2.2.1 l5 l6 (u := fun j => if j = 0 then 1 else 0) (sr := fun _ => 0) (fun a b => absurd ⟨a, b⟩ ok) ⟨by decide, by decide⟩ p0 p1 w0 w1, ?_⟩
    rw [n, if_neg (fun z => ok z.1), if_neg (fun z => ok z.1)]
theorem c_make (S : EST h x) {mk p day n sd : Int} (m0 : -2147483648 ≤ mk) (m1 : mk < 2147483648) (p0 : -2147483648 ≤ p) (p1 : p < 2147483648) (d0 : -2147483648 ≤ day) (d1 : day < 2147483648) (k0 : -2147483648 ≤ n) (k1 : n < 2147483648) (s0 : -2147483648 ≤ sd) (s1 : sd < 2147483648) : EB x h (fun h => f8_make h x (I mk) (I p) (I day) (I n) (I sd)) (fun h => f9_make h (x + 71) (I mk) (I p) (I day) (I n) (I sd)) := by
  obtain ⟨c, nr, nm, t, T, q, ru, rc, mu, ms, sg, cl, nc, v, se, g, gl, C, M, E, L⟩ := S
  have L' := L
  obtain ⟨l1, l2, l3, l4, l5, l6, l7, l8, l9, l10, l11, l12⟩ := L
  subst l2
  by_cases on : 0 ≤ mk ∧ mk < v 15
  · have X := (l12 mk on.1 on.2).1
    have Y := (l12 mk on.1 on.2).2
    have K := C.2.2.2.2.2.2.2.2.2.2 mk on.1 (by omega)
    by_cases ok : mkOK (g 1) (v 15) mk p day n sd (mu mk) (ms mk)
    · obtain ⟨h1, c1, e1, W1, F1⟩ := C.1.make C.2.1 C.2.2.2.2.2.2.1 l5 l6 K X ok s1
      have M1 := M.fr F1 (by omega)
      obtain ⟨h2, se2, e2, M2, F2⟩ := M1.make C.2.1.ri X l5 l6 Y ok s1
      exact ⟨_, h1, h2, e1, e2, EST.write C E L' W1 F1 M2 F2⟩
    · obtain ⟨h2, se2, e2, M2, F2⟩ := M.makeN C.2.1.ri X l5 l6 (fun _ _ => Y) ok m0 m1 p0 p1 d0 d1 k0 k1 s0 s1
      exact ⟨_, h, h2, C.1.makeN C.2.1 C.2.2.2.2.2.2.1 l5 l6 (fun _ _ => K) X ok m0 m1 p0 p1 d0 d1 k0 k1 s0 s1, e2, EST.moved C E L' M2 F2 (fun j _ => rfl) (fun j _ => rfl)⟩
  · have no : ¬ mkOK (g 1) (v 15) mk p day n sd (fun j => if j = 0 then 1 else 0) (fun _ => 0) := fun z => on z.1
    obtain ⟨h2, se2, e2, M2, F2⟩ := M.makeN C.2.1.ri MI_any l5 l6 (fun a b => absurd ⟨a, b⟩ on) no m0 m1 p0 p1 d0 d1 k0 k1 s0 s1
    exact ⟨_, h, h2, C.1.makeN C.2.1 C.2.2.2.2.2.2.1 l5 l6 (fun a b => absurd ⟨a, b⟩ on) MI_any no m0 m1 p0 p1 d0 d1 k0 k1 s0 s1, e2, EST.moved C E L' M2 F2 (fun j _ => rfl) (fun j _ => rfl)⟩
end
