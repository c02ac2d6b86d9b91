/-! a new World; IMAGES of the class (gen68.py) -/
theorem hN_at {h : AH} {e : AE} {q : Nat} (c : q = h.1) : (hN h e).2 q = some e := by subst c; simp only [hN, if_pos]
theorem hN_ne {h : AH} {e : AE} {q : Nat} (c : q ≠ h.1) : (hN h e).2 q = h.2 q := by simp only [hN, if_neg c]
theorem nO_of {h : AH} {o ci : Nat} {fs : List Value} (e : h.1 = o) : nO ci fs h = some (o, hN h (.inr (ci, fs))) := by subst e; rfl
theorem nB0_of {h : AH} {o B : Nat} {n : Int} (e : h.1 = o) (h0 : 0 ≤ n) (h1 : n ≤ B) (hB : B < 2147483648) : nB 0 B h (I n) = some (o, hN h (.inl (0, n.toNat, .inl fun _ => I 0))) := by
  subst e
  have l : (I n < I 0) = (n < 0) := I_lt (by omega) (by omega) (by omega) (by omega)
  have c : ¬ I n < I 0 := by rw [l]; omega
  unfold nB nA
  rw [I_0, I_clamp h0 (by omega), if_neg (show ¬ (I n < I 0 ∨ B < n.toNat) from fun z => z.elim c (by omega)), if_neg c]
  rfl
/-- below o nothing is changed -/
def FB (o : Nat) (h h' : AH) : Prop := ∀ q, q < o → h'.2 q = h.2 q
theorem initR {h : AH} {o : Nat} {lim wid : Int} (e : h.1 = o) (l0 : 0 ≤ lim) (l1 : lim ≤ 200) (w0 : 1 ≤ wid) (w1 : wid ≤ 10) (lw : lim * wid ≤ 900) : ∃ h', f5_init (hN h (.inr (5, [.null, .int 0, .int 0, .int 0]))) o (I lim) (I wid) = some h' ∧ RW h' o lim wid 0 (fun _ => 0) ∧ h'.1 = o + 2 ∧ FB o h h' := by
  have m0 : 0 ≤ lim * wid := Int.mul_nonneg l0 (by omega)
  have O0 : OB (hN h (.inr (5, [.null, .int 0, .int 0, .int 0]))) o 5 [.null, .int 0, .int 0, .int 0] := hN_at e.symm
  have s0 : (hN h (.inr (5, [.null, .int 0, .int 0, .int 0]))).1 = o + 1 := by rw [← e]; rfl
  have b0 : FB o h (hN h (.inr (5, [.null, .int 0, .int 0, .int 0]))) := fun q hq => hN_ne (by omega)
  generalize hN h (.inr (5, [.null, .int 0, .int 0, .int 0])) = h0 at *
  obtain ⟨h1, e1, O1, F1⟩ := O0.set 3 (.int (I 0)) (by simp)
  obtain ⟨h2, e2, O2, F2⟩ := O1.set 2 (.int (I lim)) (by simp)
  obtain ⟨h3, e3, O3, F3⟩ := O2.set 1 (.int (I wid)) (by simp)
  have s3 : h3.1 = o + 1 := by rw [F3.1, F2.1, F1.1, s0]
  have en := nB0_of (h := h3) (B := 900) (n := lim * wid) s3 m0 lw (by omega)
  have O4 : OB (hN h3 (.inl (0, (lim * wid).toNat, .inl fun _ => I 0))) o 5 _ := OB.at O3 (hN_ne (by omega))
  have A4 : AI (hN h3 (.inl (0, (lim * wid).toNat, .inl fun _ => I 0))) (o + 1) 0 (lim * wid) (fun _ => 0) := ⟨hN_at s3.symm, m0, by omega⟩
  have s4 : (hN h3 (.inl (0, (lim * wid).toNat, .inl fun _ => I 0))).1 = o + 2 := by show h3.1 + 1 = _; omega
  have b4 : ∀ q, q < o → (hN h3 (.inl (0, (lim * wid).toNat, .inl fun _ => I 0))).2 q = h.2 q := fun q hq => by
    rw [hN_ne (by omega), F3.2 q (by omega), F2.2 q (by omega), F1.2 q (by omega), b0 q hq]
  generalize hN h3 (.inl (0, (lim * wid).toNat, .inl fun _ => I 0)) = h4 at *
  obtain ⟨h5, e5, O5, F5⟩ := O4.set 0 (.ref (o + 1)) (by simp)
  refine ⟨h5, ?_, ⟨O5, A4.at (F5.2 _ (by omega)), by omega, by omega, l1, w0, w1⟩, by rw [F5.1, s4], fun q hq => by rw [F5.2 q (by omega), b4 q hq]⟩
  have c1 : ¬ I lim < I 0 := by
    have l : (I lim < I 0) = (lim < 0) := I_lt (by omega) (by omega) (by omega) (by omega)
    rw [l]; omega
  have c2 : ¬ I wid < I 0 := by
    have l : (I wid < I 0) = (wid < 0) := I_lt (by omega) (by omega) (by omega) (by omega)
    rw [l]; omega
  have c3 : ¬ I (lim * wid) < I 0 := by
    have l : (I (lim * wid) < I 0) = (lim * wid < 0) := I_lt (by omega) (by omega) (by omega) (by omega)
    rw [l]; omega
  rw [f5_init, O0.o, Option.bind_some, I_0, e1, Option.bind_some, if_neg c1, Option.bind_some, e2, Option.bind_some, if_neg c2, Option.bind_some, e3, Option.bind_some, O3.i 2 rfl, Option.bind_some, O3.i 1 rfl, Option.bind_some, I_mul, if_neg c3, Option.bind_some, en, Option.bind_some, e5, Option.bind_some]
theorem initP {h : AH} {o : Nat} {cap : Int} (e : h.1 = o) (l0 : 0 ≤ cap) (l1 : cap ≤ 400) : ∃ h', f2_init (hN h (.inr (2, [.null, .null, .int 0]))) o (I cap) = some h' ∧ PL h' o cap 0 (fun _ => 0) (fun _ => 0) ∧ h'.1 = o + 3 ∧ FB o h h' := by
  have O0 : OB (hN h (.inr (2, [.null, .null, .int 0]))) o 2 [.null, .null, .int 0] := hN_at e.symm
  have s0 : (hN h (.inr (2, [.null, .null, .int 0]))).1 = o + 1 := by rw [← e]; rfl
  have b0 : FB o h (hN h (.inr (2, [.null, .null, .int 0]))) := fun q hq => hN_ne (by omega)
  generalize hN h (.inr (2, [.null, .null, .int 0])) = h0 at *
  obtain ⟨h1, e1, O1, F1⟩ := O0.set 2 (.int (I 0)) (by simp)
  have s1 : h1.1 = o + 1 := by rw [F1.1, s0]
  have en := nB0_of (h := h1) (B := 400) (n := cap) s1 l0 l1 (by omega)
  have O2 : OB (hN h1 (.inl (0, cap.toNat, .inl fun _ => I 0))) o 2 _ := OB.at O1 (hN_ne (by omega))
  have A2 : AI (hN h1 (.inl (0, cap.toNat, .inl fun _ => I 0))) (o + 1) 0 cap (fun _ => 0) := ⟨hN_at s1.symm, l0, by omega⟩
  have s2 : (hN h1 (.inl (0, cap.toNat, .inl fun _ => I 0))).1 = o + 2 := by show h1.1 + 1 = _; omega
  have b2 : ∀ q, q < o → (hN h1 (.inl (0, cap.toNat, .inl fun _ => I 0))).2 q = h.2 q := fun q hq => by
    rw [hN_ne (by omega), F1.2 q (by omega), b0 q hq]
  generalize hN h1 (.inl (0, cap.toNat, .inl fun _ => I 0)) = h2 at *
  obtain ⟨h3, e3, O3, F3⟩ := O2.set 0 (.ref (o + 1)) (by simp)
  have A3 := A2.at (F3.2 (o + 1) (by omega))
  have s3 : h3.1 = o + 2 := by rw [F3.1, s2]
  have en2 := nB0_of (h := h3) (B := 400) (n := cap) s3 l0 l1 (by omega)
  have O4 : OB (hN h3 (.inl (0, cap.toNat, .inl fun _ => I 0))) o 2 _ := OB.at O3 (hN_ne (by omega))
  have A4 : AI (hN h3 (.inl (0, cap.toNat, .inl fun _ => I 0))) (o + 1) 0 cap (fun _ => 0) := A3.at (hN_ne (by omega))
  have Q4 : AI (hN h3 (.inl (0, cap.toNat, .inl fun _ => I 0))) (o + 2) 0 cap (fun _ => 0) := ⟨hN_at s3.symm, l0, by omega⟩
  have s4 : (hN h3 (.inl (0, cap.toNat, .inl fun _ => I 0))).1 = o + 3 := by show h3.1 + 1 = _; omega
  have b4 : ∀ q, q < o → (hN h3 (.inl (0, cap.toNat, .inl fun _ => I 0))).2 q = h.2 q := fun q hq => by
    rw [hN_ne (by omega), F3.2 q (by omega), b2 q hq]
  generalize hN h3 (.inl (0, cap.toNat, .inl fun _ => I 0)) = h4 at *
  obtain ⟨h5, e5, O5, F5⟩ := O4.set 1 (.ref (o + 2)) (by simp)
  refine ⟨h5, ?_, ⟨O5, A4.at (F5.2 _ (by omega)), Q4.at (F5.2 _ (by omega)), fun i j i0 i1 i2 => by omega, fun i i0 i1 => by omega, by omega, l0, l1⟩, by rw [F5.1, s4], fun q hq => by rw [F5.2 q (by omega), b4 q hq]⟩
  have c1 : ¬ I cap < I 0 := by
    have l : (I cap < I 0) = (cap < 0) := I_lt (by omega) (by omega) (by omega) (by omega)
    rw [l]; omega
  rw [f2_init, O0.o, Option.bind_some, I_0, e1, Option.bind_some, if_neg c1, Option.bind_some, en, Option.bind_some, e3, Option.bind_some, Option.bind_some, en2, Option.bind_some, e5, Option.bind_some]
theorem keep8 {w : Nat} {h1 h2 h3 h4 h5 h6 h7 h8 k1 k2 k3 k4 k5 k6 k7 k8 : AH} (G1 : Fr w (w + 1) h1 k1) (G2 : Fr w (w + 1) h2 k2) (G3 : Fr w (w + 1) h3 k3) (G4 : Fr w (w + 1) h4 k4) (G5 : Fr w (w + 1) h5 k5) (G6 : Fr w (w + 1) h6 k6) (G7 : Fr w (w + 1) h7 k7) (G8 : Fr w (w + 1) h8 k8) (c2 : FB (w + 3) k1 h2) (c3 : FB (w + 6) k2 h3) (c4 : FB (w + 9) k3 h4) (c5 : FB (w + 11) k4 h5) (c6 : FB (w + 14) k5 h6) (c7 : FB (w + 16) k6 h7) (c8 : FB (w + 18) k7 h8) : (∀ q, w < q → q < w + 3 → k8.2 q = h1.2 q) ∧ (∀ q, w < q → q < w + 6 → k8.2 q = h2.2 q) ∧ (∀ q, w < q → q < w + 9 → k8.2 q = h3.2 q) ∧ (∀ q, w < q → q < w + 11 → k8.2 q = h4.2 q) ∧ (∀ q, w < q → q < w + 14 → k8.2 q = h5.2 q) ∧ (∀ q, w < q → q < w + 16 → k8.2 q = h6.2 q) ∧ (∀ q, w < q → q < w + 18 → k8.2 q = h7.2 q) ∧ (∀ q, w < q → q < w + 20 → k8.2 q = h8.2 q) := by
  have g1 : ∀ q, w < q → k1.2 q = h1.2 q := fun q hq => G1.2 q (.inr hq)
  have g2 : ∀ q, w < q → k2.2 q = h2.2 q := fun q hq => G2.2 q (.inr hq)
  have g3 : ∀ q, w < q → k3.2 q = h3.2 q := fun q hq => G3.2 q (.inr hq)
  have g4 : ∀ q, w < q → k4.2 q = h4.2 q := fun q hq => G4.2 q (.inr hq)
  have g5 : ∀ q, w < q → k5.2 q = h5.2 q := fun q hq => G5.2 q (.inr hq)
  have g6 : ∀ q, w < q → k6.2 q = h6.2 q := fun q hq => G6.2 q (.inr hq)
  have g7 : ∀ q, w < q → k7.2 q = h7.2 q := fun q hq => G7.2 q (.inr hq)
  have g8 : ∀ q, w < q → k8.2 q = h8.2 q := fun q hq => G8.2 q (.inr hq)
  have r8 : ∀ q, w < q → q < w + 20 → k8.2 q = h8.2 q := fun q a _ => g8 q a
  have r7 : ∀ q, w < q → q < w + 18 → k8.2 q = h7.2 q := fun q a b => (r8 q a (by omega)).trans ((c8 q b).trans (g7 q a))
  have r6 : ∀ q, w < q → q < w + 16 → k8.2 q = h6.2 q := fun q a b => (r7 q a (by omega)).trans ((c7 q b).trans (g6 q a))
  have r5 : ∀ q, w < q → q < w + 14 → k8.2 q = h5.2 q := fun q a b => (r6 q a (by omega)).trans ((c6 q b).trans (g5 q a))
  have r4 : ∀ q, w < q → q < w + 11 → k8.2 q = h4.2 q := fun q a b => (r5 q a (by omega)).trans ((c5 q b).trans (g4 q a))
  have r3 : ∀ q, w < q → q < w + 9 → k8.2 q = h3.2 q := fun q a b => (r4 q a (by omega)).trans ((c4 q b).trans (g3 q a))
  have r2 : ∀ q, w < q → q < w + 6 → k8.2 q = h2.2 q := fun q a b => (r3 q a (by omega)).trans ((c3 q b).trans (g2 q a))
  have r1 : ∀ q, w < q → q < w + 3 → k8.2 q = h1.2 q := fun q a b => (r2 q a (by omega)).trans ((c2 q b).trans (g1 q a))
  exact ⟨r1, r2, r3, r4, r5, r6, r7, r8⟩
theorem vac0 {P : Prop} {k : Int} (a : 0 ≤ k) (b : k < 0) : P := by omega
theorem RI_zero : RI (fun _ => 0) := ⟨by simp, fun k k0 k1 => vac0 k0 k1, fun k k0 k1 => vac0 k0 k1, fun k k0 k1 => vac0 k0 k1, fun k k0 k1 => vac0 k0 k1, fun j k j0 j1 k1 => vac0 (Int.le_trans j0 j1) k1, fun k k0 k1 => vac0 k0 k1, fun k k0 k1 => vac0 k0 k1, fun k k0 k1 => vac0 k0 k1, fun j k j0 j1 k1 => vac0 (Int.le_trans j0 j1) k1, fun k k0 k1 => vac0 k0 k1⟩
theorem CW_zero : CW (fun _ => 0) (fun _ _ => 0) := ⟨RI_zero, fun k k0 k1 => rfl, fun d => rfl, fun s d _ _ _ _ => rfl, fun k k0 k1 => rfl, fun q => rfl, fun k k0 k1 => vac0 k0 k1, fun k k0 k1 => rfl, fun k k0 k1 => rfl⟩
set_option maxHeartbeats 400000 in
theorem WD.init {h : AH} {w : Nat} (e : h.1 = w) : ∃ h', f7_init (hN h (.inr (7, [.int 0, .null, .null, .null, .null, .null, .null, .null, .null]))) w = some h' ∧ WD h' w (fun _ => 0) (fun _ _ => 0) ∧ h'.1 = w + 20 ∧ FB w h h' := by
  have O0 : OB (hN h (.inr (7, [.int 0, .null, .null, .null, .null, .null, .null, .null, .null]))) w 7 [.int 0, .null, .null, .null, .null, .null, .null, .null, .null] := hN_at e.symm
  have s0 : (hN h (.inr (7, [.int 0, .null, .null, .null, .null, .null, .null, .null, .null]))).1 = w + 1 := by rw [← e]; rfl
  have b0 : FB w h (hN h (.inr (7, [.int 0, .null, .null, .null, .null, .null, .null, .null, .null]))) := fun q hq => hN_ne (by omega)
  generalize hN h (.inr (7, [.int 0, .null, .null, .null, .null, .null, .null, .null, .null])) = h0 at *
  obtain ⟨k0, q0, B0, G0⟩ := O0.set 0 (.int (I 0)) (by simp)
  have t0 : k0.1 = w + 1 := by rw [G0.1, s0]
  obtain ⟨h1, p1, T1, u1, c1⟩ := initR (lim := 10) (wid := 2) t0 (by omega) (by omega) (by omega) (by omega) (by omega)
  have D1 := OB.at B0 (c1 w (by omega))
  obtain ⟨k1, q1, B1, G1⟩ := D1.set 1 (.ref (w + 1)) (by simp)
  have t1 : k1.1 = w + 3 := by rw [G1.1, u1]
  obtain ⟨h2, p2, T2, u2, c2⟩ := initP (cap := 200) t1 (by omega) (by omega)
  have D2 := OB.at B1 (c2 w (by omega))
  obtain ⟨k2, q2, B2, G2⟩ := D2.set 2 (.ref (w + 3)) (by simp)
  have t2 : k2.1 = w + 6 := by rw [G2.1, u2]
  obtain ⟨h3, p3, T3, u3, c3⟩ := initP (cap := 300) t2 (by omega) (by omega)
  have D3 := OB.at B2 (c3 w (by omega))
  obtain ⟨k3, q3, B3, G3⟩ := D3.set 3 (.ref (w + 6)) (by simp)
  have t3 : k3.1 = w + 9 := by rw [G3.1, u3]
  obtain ⟨h4, p4, T4, u4, c4⟩ := initR (lim := 90) (wid := 10) t3 (by omega) (by omega) (by omega) (by omega) (by omega)
  have D4 := OB.at B3 (c4 w (by omega))
  obtain ⟨k4, q4, B4, G4⟩ := D4.set 4 (.ref (w + 9)) (by simp)
  have t4 : k4.1 = w + 11 := by rw [G4.1, u4]
  obtain ⟨h5, p5, T5, u5, c5⟩ := initP (cap := 400) t4 (by omega) (by omega)
  have D5 := OB.at B4 (c5 w (by omega))
  obtain ⟨k5, q5, B5, G5⟩ := D5.set 5 (.ref (w + 11)) (by simp)
  have t5 : k5.1 = w + 14 := by rw [G5.1, u5]
  obtain ⟨h6, p6, T6, u6, c6⟩ := initR (lim := 200) (wid := 4) t5 (by omega) (by omega) (by omega) (by omega) (by omega)
  have D6 := OB.at B5 (c6 w (by omega))
  obtain ⟨k6, q6, B6, G6⟩ := D6.set 6 (.ref (w + 14)) (by simp)
  have t6 : k6.1 = w + 16 := by rw [G6.1, u6]
  obtain ⟨h7, p7, T7, u7, c7⟩ := initR (lim := 200) (wid := 3) t6 (by omega) (by omega) (by omega) (by omega) (by omega)
  have D7 := OB.at B6 (c7 w (by omega))
  obtain ⟨k7, q7, B7, G7⟩ := D7.set 7 (.ref (w + 16)) (by simp)
  have t7 : k7.1 = w + 18 := by rw [G7.1, u7]
  obtain ⟨h8, p8, T8, u8, c8⟩ := initR (lim := 8) (wid := 5) t7 (by omega) (by omega) (by omega) (by omega) (by omega)
  have D8 := OB.at B7 (c8 w (by omega))
  obtain ⟨k8, q8, B8, G8⟩ := D8.set 8 (.ref (w + 18)) (by simp)
  have t8 : k8.1 = w + 20 := by rw [G8.1, u8]
  obtain ⟨y1, y2, y3, y4, y5, y6, y7, y8⟩ := keep8 G1 G2 G3 G4 G5 G6 G7 G8 c2 c3 c4 c5 c6 c7 c8
  have X : WD k8 w (fun _ => 0) (fun _ _ => 0) := ⟨B8, ⟨T1.1.at (y1 (w + 1) (Nat.lt_add_of_pos_right (by decide)) (Nat.add_lt_add_left (by decide) _)), T1.2.1.at (y1 (w + 2) (Nat.lt_add_of_pos_right (by decide)) (Nat.add_lt_add_left (by decide) _)), T1.2.2⟩, ⟨T2.1.at (y2 (w + 3) (Nat.lt_add_of_pos_right (by decide)) (Nat.add_lt_add_left (by decide) _)), T2.2.1.at (y2 (w + 4) (Nat.lt_add_of_pos_right (by decide)) (Nat.add_lt_add_left (by decide) _)), T2.2.2.1.at (y2 (w + 5) (Nat.lt_add_of_pos_right (by decide)) (Nat.add_lt_add_left (by decide) _)), T2.2.2.2⟩, ⟨T3.1.at (y3 (w + 6) (Nat.lt_add_of_pos_right (by decide)) (Nat.add_lt_add_left (by decide) _)), T3.2.1.at (y3 (w + 7) (Nat.lt_add_of_pos_right (by decide)) (Nat.add_lt_add_left (by decide) _)), T3.2.2.1.at (y3 (w + 8) (Nat.lt_add_of_pos_right (by decide)) (Nat.add_lt_add_left (by decide) _)), T3.2.2.2⟩, ⟨T4.1.at (y4 (w + 9) (Nat.lt_add_of_pos_right (by decide)) (Nat.add_lt_add_left (by decide) _)), T4.2.1.at (y4 (w + 10) (Nat.lt_add_of_pos_right (by decide)) (Nat.add_lt_add_left (by decide) _)), T4.2.2⟩, ⟨T5.1.at (y5 (w + 11) (Nat.lt_add_of_pos_right (by decide)) (Nat.add_lt_add_left (by decide) _)), T5.2.1.at (y5 (w + 12) (Nat.lt_add_of_pos_right (by decide)) (Nat.add_lt_add_left (by decide) _)), T5.2.2.1.at (y5 (w + 13) (Nat.lt_add_of_pos_right (by decide)) (Nat.add_lt_add_left (by decide) _)), T5.2.2.2⟩, ⟨T6.1.at (y6 (w + 14) (Nat.lt_add_of_pos_right (by decide)) (Nat.add_lt_add_left (by decide) _)), T6.2.1.at (y6 (w + 15) (Nat.lt_add_of_pos_right (by decide)) (Nat.add_lt_add_left (by decide) _)), T6.2.2⟩, ⟨T7.1.at (y7 (w + 16) (Nat.lt_add_of_pos_right (by decide)) (Nat.add_lt_add_left (by decide) _)), T7.2.1.at (y7 (w + 17) (Nat.lt_add_of_pos_right (by decide)) (Nat.add_lt_add_left (by decide) _)), T7.2.2⟩, ⟨T8.1.at (y8 (w + 18) (Nat.lt_add_of_pos_right (by decide)) (Nat.add_lt_add_left (by decide) _)), T8.2.1.at (y8 (w + 19) (Nat.lt_add_of_pos_right (by decide)) (Nat.add_lt_add_left (by decide) _)), T8.2.2⟩, CW_zero⟩
  have Y : FB w h k8 := fun q hq => (G8.2 q (.inl hq)).trans ((c8 q (Nat.lt_of_lt_of_le hq (Nat.le_add_right _ _))).trans ((G7.2 q (.inl hq)).trans ((c7 q (Nat.lt_of_lt_of_le hq (Nat.le_add_right _ _))).trans ((G6.2 q (.inl hq)).trans ((c6 q (Nat.lt_of_lt_of_le hq (Nat.le_add_right _ _))).trans ((G5.2 q (.inl hq)).trans ((c5 q (Nat.lt_of_lt_of_le hq (Nat.le_add_right _ _))).trans ((G4.2 q (.inl hq)).trans ((c4 q (Nat.lt_of_lt_of_le hq (Nat.le_add_right _ _))).trans ((G3.2 q (.inl hq)).trans ((c3 q (Nat.lt_of_lt_of_le hq (Nat.le_add_right _ _))).trans ((G2.2 q (.inl hq)).trans ((c2 q (Nat.lt_of_lt_of_le hq (Nat.le_add_right _ _))).trans ((G1.2 q (.inl hq)).trans ((c1 q (Nat.lt_of_lt_of_le hq (Nat.le_add_right _ _))).trans ((G0.2 q (.inl hq)).trans (b0 q hq)))))))))))))))))
  refine ⟨k8, ?_, X, t8, Y⟩
  clear X Y y1 y2 y3 y4 y5 y6 y7 y8
  have q0_ : fS 7 0 h0 w (.int (0 : Int32)) = some k0 := by rw [I_0]; exact q0
  rw [f7_init]
  simp only [I_lit]
  simp only [← I_0]
  rw [O0.o, Option.bind_some, q0_, Option.bind_some]
  rw [nO_of t0, Option.bind_some]
  dsimp only
  rw [p1, Option.bind_some, q1, Option.bind_some]
  rw [nO_of t1, Option.bind_some]
  dsimp only
  rw [p2, Option.bind_some, q2, Option.bind_some]
  rw [nO_of t2, Option.bind_some]
  dsimp only
  rw [p3, Option.bind_some, q3, Option.bind_some]
  rw [nO_of t3, Option.bind_some]
  dsimp only
  rw [p4, Option.bind_some, q4, Option.bind_some]
  rw [nO_of t4, Option.bind_some]
  dsimp only
  rw [p5, Option.bind_some, q5, Option.bind_some]
  rw [nO_of t5, Option.bind_some]
  dsimp only
  rw [p6, Option.bind_some, q6, Option.bind_some]
  rw [nO_of t6, Option.bind_some]
  dsimp only
  rw [p7, Option.bind_some, q7, Option.bind_some]
  rw [nO_of t7, Option.bind_some]
  dsimp only
  rw [p8, Option.bind_some, q8, Option.bind_some]
