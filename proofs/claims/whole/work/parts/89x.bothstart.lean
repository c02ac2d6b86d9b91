/-! the class at the start; both at the start (gen89x.py) -/
theorem keeps {x : Nat} {h1 h2 h3 h4 h5 h6 h7 h8 h9 h10 h11 h12 h13 h14 : AH} (F2 : Fr x (x + 1) h1 h2) (c3 : ∀ q, q < x + 21 → q ≠ x → h3.2 q = h2.2 q) (b4 : FB (x + 22) h3 h4) (F5 : Fr x (x + 1) h4 h5) (b6 : FB (x + 24) h5 h6) (F7 : Fr x (x + 1) h6 h7) (c8 : ∀ q, q < x + 26 → q ≠ x → h8.2 q = h7.2 q) (F9 : Fr x (x + 1) h8 h9) (c10 : ∀ q, q < x + 27 → q ≠ x → h10.2 q = h9.2 q) (F11 : Fr x (x + 1) h10 h11) (c12 : ∀ q, q < x + 28 → q ≠ x → h12.2 q = h11.2 q) (b13 : FB (x + 29) h12 h13) (F14 : Fr x (x + 1) h13 h14) : (∀ q, q ≠ x → q < x + 35 → h14.2 q = h13.2 q) ∧ (∀ q, q ≠ x → q < x + 29 → h14.2 q = h12.2 q) ∧ (∀ q, q ≠ x → q < x + 28 → h14.2 q = h10.2 q) ∧ (∀ q, q ≠ x → q < x + 27 → h14.2 q = h8.2 q) ∧ (∀ q, q ≠ x → q < x + 26 → h14.2 q = h6.2 q) ∧ (∀ q, q ≠ x → q < x + 24 → h14.2 q = h4.2 q) ∧ (∀ q, q ≠ x → q < x + 22 → h14.2 q = h3.2 q) ∧ (∀ q, q ≠ x → q < x + 21 → h14.2 q = h1.2 q) := by
  have K13 : ∀ q, q ≠ x → q < x + 35 → h14.2 q = h13.2 q := fun q a b => F14.2 q (by omega)
  have K12 : ∀ q, q ≠ x → q < x + 29 → h14.2 q = h12.2 q := fun q a b => (K13 q a (by omega)).trans (b13 q b)
  have K11 : ∀ q, q ≠ x → q < x + 28 → h14.2 q = h11.2 q := fun q a b => (K12 q a (by omega)).trans (c12 q b a)
  have K10 : ∀ q, q ≠ x → q < x + 28 → h14.2 q = h10.2 q := fun q a b => (K11 q a (by omega)).trans (F11.2 q (by omega))
  have K9 : ∀ q, q ≠ x → q < x + 27 → h14.2 q = h9.2 q := fun q a b => (K10 q a (by omega)).trans (c10 q b a)
  have K8 : ∀ q, q ≠ x → q < x + 27 → h14.2 q = h8.2 q := fun q a b => (K9 q a (by omega)).trans (F9.2 q (by omega))
  have K7 : ∀ q, q ≠ x → q < x + 26 → h14.2 q = h7.2 q := fun q a b => (K8 q a (by omega)).trans (c8 q b a)
  have K6 : ∀ q, q ≠ x → q < x + 26 → h14.2 q = h6.2 q := fun q a b => (K7 q a (by omega)).trans (F7.2 q (by omega))
  have K5 : ∀ q, q ≠ x → q < x + 24 → h14.2 q = h5.2 q := fun q a b => (K6 q a (by omega)).trans (b6 q b)
  have K4 : ∀ q, q ≠ x → q < x + 24 → h14.2 q = h4.2 q := fun q a b => (K5 q a (by omega)).trans (F5.2 q (by omega))
  have K3 : ∀ q, q ≠ x → q < x + 22 → h14.2 q = h3.2 q := fun q a b => (K4 q a (by omega)).trans (b4 q b)
  have K2 : ∀ q, q ≠ x → q < x + 21 → h14.2 q = h2.2 q := fun q a b => (K3 q a (by omega)).trans (c3 q b a)
  have K1 : ∀ q, q ≠ x → q < x + 21 → h14.2 q = h1.2 q := fun q a b => (K2 q a (by omega)).trans (F2.2 q (by omega))
  exact ⟨K13, K12, K10, K8, K6, K4, K3, K1⟩
set_option maxHeartbeats 4000000 in
theorem initX0 {h : AH} {x : Nat} (e : h.1 = x) : ∃ h', f8_init (hN h (.inr (8, [.null, .null, .null, .null, .null, .int 0, .null, .int 0, .null, .null]))) x = some h' ∧ EC h' x (fun _ => 0) (fun _ _ => 0) 0 0 (fun j => if j = 4 then 34 else 0) (fun _ => 0) (fun _ => none) ruZ (fun _ _ => 0) muZ (fun _ _ => 0) ∧ h'.1 = x + 71 ∧ FB x h h' := by
  have O0 : OB (hN h (.inr (8, [.null, .null, .null, .null, .null, .int 0, .null, .int 0, .null, .null]))) x 8 [.null, .null, .null, .null, .null, .int 0, .null, .int 0, .null, .null] := hN_at e.symm
  have s0 : (hN h (.inr (8, [.null, .null, .null, .null, .null, .int 0, .null, .int 0, .null, .null]))).1 = x + 1 := by rw [← e]; rfl
  have b0 : FB x h (hN h (.inr (8, [.null, .null, .null, .null, .null, .int 0, .null, .int 0, .null, .null]))) := fun q hq => hN_ne (by omega)
  generalize hN h (.inr (8, [.null, .null, .null, .null, .null, .int 0, .null, .int 0, .null, .null])) = h0 at *
  obtain ⟨h1, e1, W1, s1, b1⟩ := WD.init s0
  have O1 := OB.at O0 (b1 x (by omega))
  obtain ⟨h2, e2, O2, F2⟩ := O1.set 0 (.ref (x + 1)) (by simp)
  have O2 : OB h2 x 8 [.ref (x + 1), .null, .null, .null, .null, .int 0, .null, .int 0, .null, .null] := O2
  have s2 : h2.1 = x + 21 := by rw [F2.1, s1]
  obtain ⟨k3, h3, d3, e3, O3, Q3, s3, c3⟩ := newQ (t := 4) (n := 4) (B := 4) s2 O2 (by omega) 1 (by simp) (by omega) (by omega) (by omega)
  have O3 : OB h3 x 8 [.ref (x + 1), .ref (x + 21), .null, .null, .null, .int 0, .null, .int 0, .null, .null] := O3
  have d3' : nQ 4 4 h2 (4 : Int32) = some (x + 21, k3) := by rw [I_lit 4]; exact d3
  have s3' : h3.1 = x + 22 := s3
  obtain ⟨h4, e4, T4, s4, b4⟩ := initT s3'
  have O4 := OB.at O3 (b4 x (by omega))
  obtain ⟨h5, e5, O5, F5⟩ := O4.set 2 (.ref (x + 22)) (by simp)
  have O5 : OB h5 x 8 [.ref (x + 1), .ref (x + 21), .ref (x + 22), .null, .null, .int 0, .null, .int 0, .null, .null] := O5
  have s5 : h5.1 = x + 24 := by rw [F5.1, s4]
  obtain ⟨h6, e6, P6, s6, b6⟩ := initPB s5
  have O6 := OB.at O5 (b6 x (by omega))
  obtain ⟨h7, e7, O7, F7⟩ := O6.set 3 (.ref (x + 24)) (by simp)
  have O7 : OB h7 x 8 [.ref (x + 1), .ref (x + 21), .ref (x + 22), .ref (x + 24), .null, .int 0, .null, .int 0, .null, .null] := O7
  have s7 : h7.1 = x + 26 := by rw [F7.1, s6]
  obtain ⟨k8, h8, d8, e8, O8, Q8, s8, c8⟩ := newQ (t := 5) (n := 8) (B := 8) s7 O7 (by omega) 4 (by simp) (by omega) (by omega) (by omega)
  have O8 : OB h8 x 8 [.ref (x + 1), .ref (x + 21), .ref (x + 22), .ref (x + 24), .ref (x + 26), .int 0, .null, .int 0, .null, .null] := O8
  have d8' : nQ 5 8 h7 (8 : Int32) = some (x + 26, k8) := by rw [I_lit 8]; exact d8
  obtain ⟨h9, e9, O9, F9⟩ := O8.set 5 (.int 0) (by simp)
  have O9 : OB h9 x 8 [.ref (x + 1), .ref (x + 21), .ref (x + 22), .ref (x + 24), .ref (x + 26), .int 0, .null, .int 0, .null, .null] := O9
  have s9 : h9.1 = x + 27 := by rw [F9.1, s8]
  obtain ⟨k10, h10, d10, e10, O10, Q10, s10, c10⟩ := newQ (t := 6) (n := 6) (B := 6) s9 O9 (by omega) 6 (by simp) (by omega) (by omega) (by omega)
  have O10 : OB h10 x 8 [.ref (x + 1), .ref (x + 21), .ref (x + 22), .ref (x + 24), .ref (x + 26), .int 0, .ref (x + 27), .int 0, .null, .null] := O10
  have d10' : nQ 6 6 h9 (6 : Int32) = some (x + 27, k10) := by rw [I_lit 6]; exact d10
  obtain ⟨h11, e11, O11, F11⟩ := O10.set 7 (.int 0) (by simp)
  have O11 : OB h11 x 8 [.ref (x + 1), .ref (x + 21), .ref (x + 22), .ref (x + 24), .ref (x + 26), .int 0, .ref (x + 27), .int 0, .null, .null] := O11
  have s11 : h11.1 = x + 28 := by rw [F11.1, s10]
  obtain ⟨k12, h12, d12, e12, O12, A12, s12, c12⟩ := newI (t := 0) (n := 10) (B := 10) s11 O11 (by omega) 8 (by simp) (by omega) (by omega) (by omega) (by omega)
  have O12 : OB h12 x 8 [.ref (x + 1), .ref (x + 21), .ref (x + 22), .ref (x + 24), .ref (x + 26), .int 0, .ref (x + 27), .int 0, .ref (x + 28), .null] := O12
  have d12' : nB 0 10 h11 (10 : Int32) = some (x + 28, k12) := by rw [I_lit 10]; exact d12
  have s12' : h12.1 = x + 29 := s12
  obtain ⟨h13, e13, R13, s13, b13⟩ := initRO s12'
  have O13 := OB.at O12 (b13 x (by omega))
  obtain ⟨h14, e14, O14, F14⟩ := O13.set 9 (.ref (x + 29)) (by simp)
  have O14 : OB h14 x 8 [.ref (x + 1), .ref (x + 21), .ref (x + 22), .ref (x + 24), .ref (x + 26), .int 0, .ref (x + 27), .int 0, .ref (x + 28), .ref (x + 29)] := O14
  have s14 : h14.1 = x + 35 := by rw [F14.1, s13]
  have X14 : XO h14 x 0 0 := by
    exact O14
  obtain ⟨K13, K12, K10, K8, K6, K4, K3, K1⟩ := keeps F2 c3 b4 F5 b6 F7 c8 F9 c10 F11 c12 b13 F14
  clear F2 c3 b4 F5 b6 F7 c8 F9 c10 F11 c12 b13 F14 s2 s4 s6 s7 s8 s9 s10 s11
  have Q8' := Q8.at (K8 (x + 26) (by omega) (by omega))
  obtain ⟨h15, e15, X15, s15, A15, D15, k15⟩ := rdLoop 8 9 0 h14 (by omega) (by omega) X14 (by omega) (Q8'.cong (fun k k0 k1 => (if_neg (by omega)).symm)) (fun k k0 k1 => by omega)
  have Q10' := (Q10.at (K10 (x + 27) (by omega) (by omega))).at (k15 (x + 27) (by omega) (by omega))
  obtain ⟨h16, e16, X16, s16, A16, D16, k16⟩ := mkLoop 6 7 0 h15 (by omega) (by omega) X15 (by omega) (Q10'.cong (fun k k0 k1 => (if_neg (by omega)).symm)) (fun k k0 k1 => by omega)
  have z0 : I ((0 : Nat) : Int) = (0 : Int32) := I_0.symm
  rw [z0] at e15 e16
  have kk : ∀ q, q < x + 35 → q ≠ x + 26 → q ≠ x + 27 → h16.2 q = h14.2 q := fun q a b c => (k16 q (by omega) c).trans (k15 q a b)
  refine ⟨h16, ?_, ⟨X16, W1.kp (fun z z0 z1 => (kk z (by omega) (by omega) (by omega)).trans (K1 z (by omega) (by omega))), Q3.at ((kk _ (by omega) (by omega) (by omega)).trans (K3 _ (by omega) (by omega))), ⟨T4.1.at ((kk _ (by omega) (by omega) (by omega)).trans (K4 _ (by omega) (by omega))), T4.2.at ((kk _ (by omega) (by omega) (by omega)).trans (K4 _ (by omega) (by omega)))⟩, ⟨none, none, _, _, P6.1.at ((kk _ (by omega) (by omega) (by omega)).trans (K6 _ (by omega) (by omega))), P6.2.at ((kk _ (by omega) (by omega) (by omega)).trans (K6 _ (by omega) (by omega)))⟩, A15.at (k16 _ (by omega) (by omega)), A16, ⟨_, A12.at ((kk _ (by omega) (by omega) (by omega)).trans (K12 _ (by omega) (by omega)))⟩, ⟨0, fun _ => 0, fun _ => 0, fun _ => 0, fun _ => 0, fun _ => J 0, ?_, rfl⟩, fun k k0 k1 => (D15 k k0 k1).kp (fun z z0 z1 => k16 z (by omega) (by omega)), D16⟩, s16, fun q hq => ?_⟩
  · rw [f8_init, O0.o, Option.bind_some, nO_of s0, Option.bind_some]
    dsimp only
    rw [e1, Option.bind_some, e2, Option.bind_some, d3', Option.bind_some]
    dsimp only
    rw [e3, Option.bind_some, nO_of s3', Option.bind_some]
    dsimp only
    rw [e4, Option.bind_some, e5, Option.bind_some, nO_of s5, Option.bind_some]
    dsimp only
    rw [e6, Option.bind_some, e7, Option.bind_some, d8', Option.bind_some]
    dsimp only
    rw [e8, Option.bind_some, e9, Option.bind_some, d10', Option.bind_some]
    dsimp only
    rw [e10, Option.bind_some, e11, Option.bind_some, d12', Option.bind_some]
    dsimp only
    rw [e12, Option.bind_some, nO_of s12', Option.bind_some]
    dsimp only
    rw [e13, Option.bind_some, e14, Option.bind_some, e15, e16]
  · have R14 : ∀ z, x + 29 ≤ z → z < x + 35 → h16.2 z = h13.2 z := fun z z0 z1 => (kk z (by omega) (by omega) (by omega)).trans (K13 z (by omega) (by omega))
    exact ⟨R13.1.at (R14 _ (by omega) (by omega)), R13.2.1.at (R14 _ (by omega) (by omega)), R13.2.2.1.at (R14 _ (by omega) (by omega)), R13.2.2.2.1.at (R14 _ (by omega) (by omega)), R13.2.2.2.2.1.at (R14 _ (by omega) (by omega)), R13.2.2.2.2.2.at (R14 _ (by omega) (by omega))⟩
  · rw [kk q (by omega) (by omega) (by omega), K1 q (by omega) (by omega), b1 q (by omega), b0 q hq]
theorem law_start (base : Nat) : ∃ h2, (∀ (xs : Nat → Int32) (N : Nat), fL_law xs N (base, fun _ => none) = fL_law_18 xs N base (base + 71) 513 h2 0) ∧ EST h2 base := by
  obtain ⟨h1, e1, C1, s1, b1⟩ := initX0 (h := (base, fun _ => none)) (x := base) rfl
  obtain ⟨h2, e2, M2, s2, b2⟩ := initMO (m := base + 71) s1
  have C2 := C1.img (h' := h2) (fun z z0 z1 z2 => b2 z (by omega)) (C1.2.2.1.at (b2 _ (by omega)))
  refine ⟨h2, fun xs N => ?_, fun _ _ => 0, 0, 0, fun j => if j = 4 then 34 else 0, fun _ => 0, fun _ => none, ruZ, fun _ _ => 0, muZ, fun _ _ => 0, fun _ _ => 0, fun _ _ => 0, fun _ => 0, fun _ => 0, 0, fun _ _ => 0, fun _ _ => J 0, C2, M2, ⟨by omega, fun k k0 k1 => .inl ⟨rfl, rfl⟩, fun j k a b j0 j1 k0 k1 y => (by cases y)⟩, rfl, rfl, by omega, by omega, by omega, by omega, fun i i0 i1 => vac0 i0 i1, rfl, Int.le_refl 0, by show (0 : Int) ≤ 400; omega, fun k k0 k1 => vac0 k0 k1, fun k k0 k1 => vac0 k0 k1⟩
  rw [fL_law, nO_of (h := (base, fun _ => none)) (o := base) rfl, Option.bind_some]
  dsimp only
  rw [e1, Option.bind_some, nO_of s1, Option.bind_some]
  dsimp only
  rw [e2, Option.bind_some]
