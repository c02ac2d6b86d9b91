/-! both sides at once: what holds between two calls -/
def EC (h : AH) (x : Nat) (r : Int → Int) (c : Nat → Int → Int) (nr nm : Int) (t : Nat → Int) (T : Int → Int) (q : Int → Option Nat) (ru : Int → Nat → Int) (rc : Int → Int → Int) (mu : Int → Nat → Int) (ms : Int → Int → Int) : Prop :=
  XO h x nr nm ∧ WD h (x + 1) r c ∧ AQ h (x + 21) 4 4 q ∧ TP h (x + 22) t T ∧ (∃ q1 q2 u w, PB h (x + 24) q1 q2 u w) ∧ AQ h (x + 26) 5 8 (fun k => some (x + 35 + 3 * k.toNat)) ∧ AQ h (x + 27) 6 6 (fun k => some (x + 59 + 2 * k.toNat)) ∧ (∃ ww, AI h (x + 28) 0 10 ww) ∧ (∃ sz nn ch tk co wl, RO h (x + 29) sz nn ch tk co wl ∧ wl 0 = J 0) ∧ (∀ k : Int, 0 ≤ k → k < 8 → RDx h (x + 35 + 3 * k.toNat) (ru k) (rc k)) ∧ (∀ k : Int, 0 ≤ k → k < 6 → MK h (x + 59 + 2 * k.toNat) (mu k) (ms k))
def EI (h : AH) (m : Nat) (q : Int → Option Nat) (g : Nat → Int → Int) : Prop :=
  m + 24 ≤ h.1 ∧ (∀ k : Int, 0 ≤ k → k < 4 → (q k = none ∧ g 23 k = 0) ∨ ∃ a rk ck, q k = some a ∧ g 23 k = 1 ∧ m + 24 ≤ a ∧ a + 20 ≤ h.1 ∧ WD h a rk ck ∧ ∀ i : Int, 0 ≤ i → i < 5070 → rk i = g 22 (5070 * k + i)) ∧
  (∀ (j k : Int) (a b : Nat), 0 ≤ j → j < 4 → 0 ≤ k → k < 4 → q j = some a → q k = some b → j ≠ k → a + 20 ≤ b ∨ b + 20 ≤ a)
def EL (v : Nat → Int) (g : Nat → Int → Int) (nr nm : Int) (t : Nat → Int) (T : Int → Int) (ru : Int → Nat → Int) (rc sg cl : Int → Int → Int) (nc : Int → Int) (mu : Int → Nat → Int) (ms : Int → Int → Int) : Prop :=
  v 14 = nr ∧ v 15 = nm ∧ 0 ≤ nr ∧ nr ≤ 8 ∧ 0 ≤ nm ∧ nm ≤ 6 ∧ TS T (g 2) (v 2) ∧ t 1 = v 2 ∧ 0 ≤ v 2 ∧ v 2 ≤ 400 ∧ (∀ k : Int, 0 ≤ k → k < nr → RM g k (ru k) (rc k) (sg k) (cl k) (nc k)) ∧ (∀ k : Int, 0 ≤ k → k < nm → MI (mu k) (ms k) ∧ MM g (8 + k) (mu k) (ms k))
def EST (h : AH) (x : Nat) : Prop := ∃ c nr nm t T q ru rc mu ms sg cl nc v se g gl, EC h x (g 1) c nr nm t T q ru rc mu ms ∧ MO h (x + 71) v se g gl ∧ EI h (x + 71) q g ∧ EL v g nr nm t T ru rc sg cl nc mu ms
/-- one call of each side: the same answer, and the state goes on -/
def EB {α : Type} (x : Nat) (h : AH) (f f' : AH → Option (α × AH)) : Prop := ∃ a h1 h2, f h = some (a, h1) ∧ f' h1 = some (a, h2) ∧ EST h2 x
section
variable {h h' : AH} {x : Nat} {r r' : Int → Int} {c c' : Nat → Int → Int} {nr nm : Int} {t : Nat → Int} {T : Int → Int} {q : Int → Option Nat} {ru : Int → Nat → Int} {rc sg cl : Int → Int → Int} {nc : Int → Int} {mu : Int → Nat → Int} {ms : Int → Int → Int} {v v' : Nat → Int} {g g' : Nat → Int → Int}
theorem EC.fr (E : EC h x r c nr nm t T q ru rc mu ms) {lo hi : Nat} (f : Fr lo hi h h') (d : x + 71 ≤ lo ∨ hi ≤ x) : EC h' x r c nr nm t T q ru rc mu ms := by
  obtain ⟨O, W, A1, P, ⟨q1, q2, u, w, B⟩, A2, A3, ⟨ww, H⟩, ⟨sz, nn, ch, tk, co, wl, R, z⟩, D, K⟩ := E
  exact ⟨O.fr f (by omega), W.fr f (by omega), A1.at (f.2 _ (by omega)), P.fr f (by omega), ⟨q1, q2, u, w, B.fr f (by omega)⟩, A2.at (f.2 _ (by omega)), A3.at (f.2 _ (by omega)), ⟨ww, H.at (f.2 _ (by omega))⟩, ⟨sz, nn, ch, tk, co, wl, R.fr f (by omega), z⟩, fun k a b => (D k a b).fr f (by omega), fun k a b => (K k a b).fr f (by omega)⟩
theorem EC.world (E : EC h x r c nr nm t T q ru rc mu ms) (W' : WD h' (x + 1) r' c') (f : Fr (x + 1) (x + 21) h h') : EC h' x r' c' nr nm t T q ru rc mu ms := by
  obtain ⟨O, W, A1, P, ⟨q1, q2, u, w, B⟩, A2, A3, ⟨ww, H⟩, ⟨sz, nn, ch, tk, co, wl, R, z⟩, D, K⟩ := E
  exact ⟨O.fr f (by omega), W', A1.at (f.2 _ (by omega)), P.fr f (by omega), ⟨q1, q2, u, w, B.fr f (by omega)⟩, A2.at (f.2 _ (by omega)), A3.at (f.2 _ (by omega)), ⟨ww, H.at (f.2 _ (by omega))⟩, ⟨sz, nn, ch, tk, co, wl, R.fr f (by omega), z⟩, fun k a b => (D k a b).fr f (by omega), fun k a b => (K k a b).fr f (by omega)⟩
/-- what a look at the WEIGHTS leaves -/
theorem EC.look (E : EC h x r c nr nm t T q ru rc mu ms) {ww : Int → Int} (H' : AI h' (x + 28) 0 10 ww) (D' : ∀ k : Int, 0 ≤ k → k < 8 → RDx h' (x + 35 + 3 * k.toNat) (ru k) (rc k)) (R' : ∃ sz nn ch tk co wl, RO h' (x + 29) sz nn ch tk co wl ∧ wl 0 = J 0) (f : Fr (x + 28) (x + 59) h h') : EC h' x r c nr nm t T q ru rc mu ms := by
  obtain ⟨O, W, A1, P, ⟨q1, q2, u, w, B⟩, A2, A3, -, -, -, K⟩ := E
  exact ⟨O.fr f (by omega), W.fr f (by omega), A1.at (f.2 _ (by omega)), P.fr f (by omega), ⟨q1, q2, u, w, B.fr f (by omega)⟩, A2.at (f.2 _ (by omega)), A3.at (f.2 _ (by omega)), ⟨ww, H'⟩, R', D', fun k a b => (K k a b).fr f (by omega)⟩
theorem EC.row (E : EC h x r c nr nm t T q ru rc mu ms) (e : ∀ z, x + 29 ≤ z → z < x + 35 → h'.2 z = h.2 z) : ∃ sz nn ch tk co wl, RO h' (x + 29) sz nn ch tk co wl ∧ wl 0 = J 0 := by
  obtain ⟨-, -, -, -, -, -, -, -, ⟨sz, nn, ch, tk, co, wl, R, z⟩, -, -⟩ := E
  exact ⟨sz, nn, ch, tk, co, wl, ⟨R.1.at (e _ (by omega) (by omega)), R.2.1.at (e _ (by omega) (by omega)), R.2.2.1.at (e _ (by omega) (by omega)), R.2.2.2.1.at (e _ (by omega) (by omega)), R.2.2.2.2.1.at (e _ (by omega) (by omega)), R.2.2.2.2.2.at (e _ (by omega) (by omega))⟩, z⟩
theorem EC.tape (E : EC h x r c nr nm t T q ru rc mu ms) {t' : Nat → Int} {T' : Int → Int} (P' : TP h' (x + 22) t' T') (f : Fr (x + 22) (x + 24) h h') : EC h' x r c nr nm t' T' q ru rc mu ms := by
  obtain ⟨O, W, A1, P, ⟨q1, q2, u, w, B⟩, A2, A3, ⟨ww, H⟩, ⟨sz, nn, ch, tk, co, wl, R, z⟩, D, K⟩ := E
  exact ⟨O.fr f (by omega), W.fr f (by omega), A1.at (f.2 _ (by omega)), P', ⟨q1, q2, u, w, B.fr f (by omega)⟩, A2.at (f.2 _ (by omega)), A3.at (f.2 _ (by omega)), ⟨ww, H.at (f.2 _ (by omega))⟩, ⟨sz, nn, ch, tk, co, wl, R.fr f (by omega), z⟩, fun k a b => (D k a b).fr f (by omega), fun k a b => (K k a b).fr f (by omega)⟩
theorem EI.fr {m : Nat} (E : EI h m q g) {lo hi : Nat} (f : Fr lo hi h h') (d : hi ≤ m + 24) : EI h' m q g := by
  obtain ⟨a, b, e⟩ := E
  refine ⟨by rw [f.1]; exact a, fun k k0 k1 => ?_, e⟩
  rcases b k k0 k1 with z | ⟨p, rk, ck, z1, z2, z3, z4, W, z5⟩
  · exact .inl z
  · exact .inr ⟨p, rk, ck, z1, z2, z3, by rw [f.1]; exact z4, W.fr f (by omega), z5⟩
theorem EI.im {m : Nat} (E : EI h m q g) (e22 : g' 22 = g 22) (e23 : g' 23 = g 23) : EI h m q g' := by
  obtain ⟨a, b, e⟩ := E
  exact ⟨a, fun k k0 k1 => by rw [e22, e23]; exact b k k0 k1, e⟩
theorem RM.eqs {k : Int} {u : Nat → Int} {cd sg cl : Int → Int} {nc : Int} (Y : RM g k u cd sg cl nc) (e : ∀ j, 2 ≤ j → j ≤ 13 → g' j = g j) : RM g' k u cd sg cl nc := by
  obtain ⟨a1, a2, a3, a4, a5, a6⟩ := Y
  exact ⟨fun j => by rw [e 3 (by omega) (by omega)]; exact a1 j, fun j => by rw [e 5 (by omega) (by omega)]; exact a2 j, by rw [e 6 (by omega) (by omega)]; exact a3, by rw [e 7 (by omega) (by omega)]; exact a4, by rw [e 8 (by omega) (by omega)]; exact a5, a6⟩
theorem MM.eqs {k : Int} {u : Nat → Int} {sr : Int → Int} (Y : MM g k u sr) (e : ∀ j, 2 ≤ j → j ≤ 13 → g' j = g j) : MM g' k u sr := by
  obtain ⟨a1, a2, a3, a4, a5⟩ := Y
  exact ⟨by rw [e 9 (by omega) (by omega)]; exact a1, by rw [e 10 (by omega) (by omega)]; exact a2, by rw [e 13 (by omega) (by omega)]; exact a3, by rw [e 12 (by omega) (by omega)]; exact a4, fun i i0 i1 => by rw [e 11 (by omega) (by omega)]; exact a5 i i0 i1⟩
theorem EL.vg (L : EL v g nr nm t T ru rc sg cl nc mu ms) (e2 : v' 2 = v 2) (e14 : v' 14 = v 14) (e15 : v' 15 = v 15) (e : ∀ j, 2 ≤ j → j ≤ 13 → g' j = g j) : EL v' g' nr nm t T ru rc sg cl nc mu ms := by
  obtain ⟨l1, l2, l3, l4, l5, l6, l7, l8, l9, l10, l11, l12⟩ := L
  exact ⟨e14.trans l1, e15.trans l2, l3, l4, l5, l6, by rw [e 2 (by omega) (by omega), e2]; exact l7, l8.trans e2.symm, by rw [e2]; exact l9, by rw [e2]; exact l10, fun k a b => (l11 k a b).eqs e, fun k a b => ⟨(l12 k a b).1, (l12 k a b).2.eqs e⟩⟩
/-- a write into the tables of each side -/
theorem EST.write {se' : Int64} {gl : Nat → Int → Int64} {h1 h2 : AH} (C : EC h x (g 1) c nr nm t T q ru rc mu ms) (E : EI h (x + 71) q g) (L : EL v g nr nm t T ru rc sg cl nc mu ms) (W1 : WD h1 (x + 1) r' c') (F1 : Fr (x + 1) (x + 21) h h1) (M2 : MO h2 (x + 71) v se' (uf g 1 r') gl) (F2 : Fr (x + 71) (x + 71 + 24) h1 h2) : EST h2 x := by
  refine ⟨c', nr, nm, t, T, q, ru, rc, mu, ms, sg, cl, nc, v, se', uf g 1 r', gl, ?_, M2, ?_, L.vg rfl rfl rfl (fun j a b => uf_ne (by omega))⟩
  · rw [uf_eq]; exact (C.world W1 F1).fr F2 (by omega)
  · exact ((E.fr F1 (by omega)).fr F2 (by omega)).im (uf_ne (by omega)) (uf_ne (by omega))
/-- the reference alone has moved, its table apart -/
theorem EST.moved {se' : Int64} {gl' : Nat → Int → Int64} (C : EC h x (g 1) c nr nm t T q ru rc mu ms) (E : EI h (x + 71) q g) (L : EL v g nr nm t T ru rc sg cl nc mu ms) (M2 : MO h' (x + 71) v' se' g' gl') (F2 : Fr (x + 71) (x + 71 + 24) h h') (ev : ∀ j, j ≠ 26 → v' j = v j) (eg : ∀ j, j ≤ 13 ∨ 22 ≤ j → g' j = g j) : EST h' x := by
  refine ⟨c, nr, nm, t, T, q, ru, rc, mu, ms, sg, cl, nc, v', se', g', gl', ?_, M2, ?_, L.vg (ev _ (by omega)) (ev _ (by omega)) (ev _ (by omega)) (fun j a b => eg j (.inl b))⟩
  · rw [eg 1 (by omega)]; exact C.fr F2 (by omega)
  · exact (E.fr F2 (by omega)).im (eg _ (by omega)) (eg _ (by omega))
end
