/-! image, back: both sides -/
section
variable {h h' : AH} {x : Nat}
theorem MO.kp {m : Nat} {v : Nat → Int} {se : Int64} {g : Nat → Int → Int} {gl : Nat → Int → Int64} (M : MO h m v se g gl) (e : ∀ z, m ≤ z → z < m + 24 → h'.2 z = h.2 z) : MO h' m v se g gl := ⟨M.1.at (e _ (by omega) (by omega)), fun a a0 a1 a2 a3 => (M.2.1 a a0 a1 a2 a3).at (e _ (by omega) (by omega)), M.2.2.1.at (e _ (by omega) (by omega)), M.2.2.2.at (e _ (by omega) (by omega))⟩
theorem EC.img {r : Int → Int} {c : Nat → Int → Int} {nr nm : Int} {t : Nat → Int} {T : Int → Int} {q q' : Int → Option Nat} {ru : Int → Nat → Int} {rc : Int → Int → Int} {mu : Int → Nat → Int} {ms : Int → Int → Int} (E : EC h x r c nr nm t T q ru rc mu ms) (f : ∀ z, x ≤ z → z < x + 71 → z ≠ x + 21 → h'.2 z = h.2 z) (A' : AQ h' (x + 21) 4 4 q') : EC h' x r c nr nm t T q' ru rc mu ms := by
  have N := E.row (h' := h') (fun z z0 z1 => f z (by omega) (by omega) (by omega))
  obtain ⟨O, W, A1, P, ⟨q1, q2, u, w, B⟩, A2, A3, ⟨ww, H⟩, -, D, K⟩ := E
  exact ⟨OB.at O (f x (by omega) (by omega) (by omega)), W.kp (fun z z0 z1 => f z (by omega) (by omega) (by omega)), A', ⟨P.1.at (f _ (by omega) (by omega) (by omega)), P.2.at (f _ (by omega) (by omega) (by omega))⟩, ⟨q1, q2, u, w, B.1.at (f _ (by omega) (by omega) (by omega)), B.2.at (f _ (by omega) (by omega) (by omega))⟩, A2.at (f _ (by omega) (by omega) (by omega)), A3.at (f _ (by omega) (by omega) (by omega)), ⟨ww, H.at (f _ (by omega) (by omega) (by omega))⟩, N, fun k k0 k1 => (D k k0 k1).kp (fun z z0 z1 => f z (by omega) (by omega) (by omega)), fun k k0 k1 => (K k k0 k1).kp (fun z z0 z1 => f z (by omega) (by omega) (by omega))⟩
theorem EI.img {m : Nat} {q q' : Int → Option Nat} {g : Nat → Int → Int} (E : EI h m q g) {k : Int} (k0 : 0 ≤ k) (k3 : k ≤ 3) {a : Nat} {c1 : Nat → Int → Int} (W1 : WD h' a (g 1) c1) (hk : q' k = some a) (hj : ∀ j, j ≠ k → q' j = q j) (ma : m + 24 ≤ a) (ah : a + 20 ≤ h'.1) (hh : h.1 ≤ h'.1) (dis : ∀ (j : Int) (b : Nat), 0 ≤ j → j < 4 → j ≠ k → q j = some b → b + 20 ≤ h.1 → a + 20 ≤ b ∨ b + 20 ≤ a) (keep : ∀ (j : Int) (b : Nat), 0 ≤ j → j < 4 → j ≠ k → q j = some b → m + 24 ≤ b → b + 20 ≤ h.1 → ∀ z, b ≤ z → z < b + 20 → h'.2 z = h.2 z) : EI h' m q' (uf (uf g 23 (up (g 23) k 1)) 22 (cp (g 1) (g 22) 0 (5070 * k) 5070)) := by
  obtain ⟨e1, e2, e3⟩ := E
  refine ⟨by omega, fun j j0 j1 => ?_, fun i j b d i0 i1 j0 j1 hi hd ne => ?_⟩
  · rw [uf_eq, uf_ne (by omega), uf_eq]
    by_cases e : j = k
    · refine .inr ⟨a, g 1, c1, by rw [e]; exact hk, by rw [e, up_eq], ma, ah, W1, fun i i0 i1 => ?_⟩
      unfold cp
      rw [if_pos (by omega)]
      congr 1
      omega
    · rw [hj j e, up_ne e]
      rcases e2 j j0 j1 with y | ⟨b, rk, ck, y1, y2, y3, y4, y5, y6⟩
      · exact .inl y
      · refine .inr ⟨b, rk, ck, y1, y2, y3, by omega, y5.kp (keep j b j0 j1 e y1 y3 y4), fun i i0 i1 => ?_⟩
        rw [y6 i i0 i1]
        unfold cp
        rw [if_neg (by omega)]
  · have end_ : ∀ (j : Int) (b : Nat), 0 ≤ j → j < 4 → q j = some b → b + 20 ≤ h.1 := fun j b j0 j1 hb => by
      rcases e2 j j0 j1 with y | ⟨b', rk, ck, y1, y2, y3, y4, y5, y6⟩
      · rw [y.1] at hb; cases hb
      · rw [y1] at hb
        have := Option.some.inj hb
        omega
    by_cases e : i = k
    · have nj : j ≠ k := fun y => ne (e.trans y.symm)
      rw [e, hk] at hi
      rw [hj j nj] at hd
      have := Option.some.inj hi
      rcases dis j d j0 j1 nj hd (end_ j d j0 j1 hd) with y | y <;> omega
    · by_cases e' : j = k
      · rw [e', hk] at hd
        rw [hj i e] at hi
        have := Option.some.inj hd
        rcases dis i b i0 i1 e hi (end_ i b i0 i1 hi) with y | y <;> omega
      · rw [hj i e] at hi
        rw [hj j e'] at hd
        exact e3 i j b d i0 i1 j0 j1 hi hd ne
theorem EL.im {v : Nat → Int} {g : Nat → Int → Int} {nr nm : Int} {t : Nat → Int} {T : Int → Int} {ru : Int → Nat → Int} {rc sg cl : Int → Int → Int} {nc : Int → Int} {mu : Int → Nat → Int} {ms : Int → Int → Int} (L : EL v g nr nm t T ru rc sg cl nc mu ms) (a b : Int → Int) : EL v (uf (uf g 23 a) 22 b) nr nm t T ru rc sg cl nc mu ms := L.vg rfl rfl rfl (fun j j0 j1 => by rw [uf_ne (by omega), uf_ne (by omega)])
theorem c_back (S : EST h x) {k : Int} (k0 : -2147483648 ≤ k) (k1 : k < 2147483648) : EB x h (fun h => f8_back h x (I k)) (fun h => f9_back h (x + 71) (I k)) := by
  obtain ⟨c, nr, nm, t, T, q, ru, rc, mu, ms, sg, cl, nc, v, se, g, gl, C, M, E, L⟩ := S
  have S' : EST h x := ⟨c, nr, nm, t, T, q, ru, rc, mu, ms, sg, cl, nc, v, se, g, gl, C, M, E, L⟩
  by_cases ok : 0 ≤ k ∧ k ≤ 3
  · rcases E.2.1 k ok.1 (by omega) with y | ⟨a, rk, ck, y1, y2, y3, y4, y5, y6⟩
    · exact ⟨_, h, h, C.1.backN C.2.2.1 k0 k1 (.inr y.1), M.backN k0 k1 (.inr y.2), S'⟩
    · obtain ⟨h1, c1, e1, W1, F1⟩ := C.1.back C.2.1 C.2.2.1 ok.1 ok.2 y1 (by omega) y5
      obtain ⟨h2, e2, M2, F2⟩ := (M.fr F1 (by omega)).back ok.1 ok.2 y2
      have ev : ∀ i, 0 ≤ i → i < 5070 → cp (g 22) (g 1) (5070 * k) 0 5070 i = rk i := fun i i0 i1 => by
        rw [y6 i i0 i1]
        unfold cp
        rw [if_pos (by omega), show i - 0 = i by omega]
      rw [ev 0 (by omega) (by omega)] at e2
      exact ⟨_, h1, h2, e1, e2, EST.write C E L (W1.row ev) F1 M2 F2⟩
  · exact ⟨_, h, h, C.1.backN C.2.2.1 k0 k1 (.inl ok), M.backN k0 k1 (.inl ok), S'⟩
theorem c_image (S : EST h x) {k : Int} (k0 : -2147483648 ≤ k) (k1 : k < 2147483648) : EB x h (fun h => f8_image h x (I k)) (fun h => f9_image h (x + 71) (I k)) := by
  obtain ⟨c, nr, nm, t, T, q, ru, rc, mu, ms, sg, cl, nc, v, se, g, gl, C, M, E, L⟩ := S
  by_cases ok : 0 ≤ k ∧ k ≤ 3
  · rcases E.2.1 k ok.1 (by omega) with y | ⟨a, rk, ck, y1, y2, y3, y4, y5, y6⟩
    · have b := E.1
      obtain ⟨h1, c1, e1, W1, A1, s1, b1⟩ := C.1.imageB C.2.1 C.2.2.1 ok.1 ok.2 y.1 rfl (by omega)
      have M1 : MO h1 (x + 71) v se g gl := M.kp (fun z z0 z1 => b1 z (by omega) (by omega))
      obtain ⟨h2, e2, M2, F2⟩ := M1.image ok.1 ok.2
      have C1 := C.img (fun z z0 z1 z2 => b1 z (by omega) z2) A1
      have E1 := E.img ok.1 ok.2 W1 uo_eq (fun j hj => uo_ne hj) b (by omega) (by omega) (fun j b j0 j1 ne hb hq => .inr hq) (fun j b j0 j1 ne hb hm hq z z0 z1 => b1 z (by omega) (by omega))
      exact ⟨_, h1, h2, e1, e2, c, nr, nm, t, T, _, ru, rc, mu, ms, sg, cl, nc, v, se, uf (uf g 23 (up (g 23) k 1)) 22 (cp (g 1) (g 22) 0 (5070 * k) 5070), gl, by rw [uf_ne (by omega), uf_ne (by omega)]; exact C1.fr F2 (by omega), M2, E1.fr F2 (by omega), L.im _ _⟩
    · obtain ⟨h1, c1, e1, W1, F1⟩ := C.1.imageA C.2.1 C.2.2.1 ok.1 ok.2 y1 (by omega) y5
      obtain ⟨h2, e2, M2, F2⟩ := (M.fr F1 (by omega)).image ok.1 ok.2
      have E1 := E.img (q' := q) ok.1 ok.2 W1 y1 (fun j hj => rfl) y3 (by rw [F1.1]; exact y4) (by rw [F1.1]; exact Nat.le_refl _) (fun j b j0 j1 ne hb hq => E.2.2 k j a b ok.1 (by omega) j0 j1 y1 hb (Ne.symm ne)) (fun j b j0 j1 ne hb hm hq z z0 z1 => F1.2 z (by have := E.2.2 k j a b ok.1 (by omega) j0 j1 y1 hb (Ne.symm ne); omega))
      exact ⟨_, h1, h2, e1, e2, c, nr, nm, t, T, q, ru, rc, mu, ms, sg, cl, nc, v, se, uf (uf g 23 (up (g 23) k 1)) 22 (cp (g 1) (g 22) 0 (5070 * k) 5070), gl, by rw [uf_ne (by omega), uf_ne (by omega)]; exact (C.fr F1 (by omega)).fr F2 (by omega), M2, E1.fr F2 (by omega), L.im _ _⟩
  · exact ⟨_, h, h, C.1.imageN C.2.2.1 k0 k1 ok, M.imageN k0 k1 ok, ⟨c, nr, nm, t, T, q, ru, rc, mu, ms, sg, cl, nc, v, se, g, gl, C, M, E, L⟩⟩
end
