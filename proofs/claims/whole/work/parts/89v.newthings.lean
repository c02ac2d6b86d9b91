/-! new things: arrays, the objects of the class (gen89v.py) -/
theorem nBi_of {h : AH} {o t B : Nat} {n : Int} (e : h.1 = o) (ht : t = 0 ∨ t = 2 ∨ t = 3) (h0 : 0 ≤ n) (h1 : n ≤ B) (hB : B < 2147483648) : nB t B h (I n) = some (o, hN h (.inl (t, n.toNat, .inl fun _ => I 0))) := by
  subst e
  have l : (I n < I 0) = (n < 0) := I_lt (by omega) (by omega) (by omega) (by omega)
  have c : ¬ I n < I 0 := by rw [l]; omega
  rcases ht with y | y | y <;> subst y <;> (unfold nB nA; rw [I_0, I_clamp h0 (by omega), if_neg (show ¬ (I n < I 0 ∨ B < n.toNat) from fun z => z.elim c (by omega)), if_neg c]; rfl)
theorem nBl_of {h : AH} {o B : Nat} {n : Int} (e : h.1 = o) (h0 : 0 ≤ n) (h1 : n ≤ B) (hB : B < 2147483648) : nB 1 B h (I n) = some (o, hN h (.inl (1, n.toNat, .inr (.inl fun _ => J 0)))) := by
  subst e
  have l : (I n < I 0) = (n < 0) := I_lt (by omega) (by omega) (by omega) (by omega)
  have c : ¬ I n < I 0 := by rw [l]; omega
  unfold nB nA
  rw [I_0, I_clamp h0 (by omega), if_neg (show ¬ (I n < I 0 ∨ B < n.toNat) from fun z => z.elim c (by omega)), if_neg c]
  rfl
theorem nQ_of {h : AH} {o t B : Nat} {n : Int} (e : h.1 = o) (h0 : 0 ≤ n) (h1 : n ≤ B) (hB : B < 2147483648) : nQ t B h (I n) = some (o, hN h (.inl (t, n.toNat, .inr (.inr (.inr (.inr fun _ => none)))))) := by
  subst e
  have l : (I n < I 0) = (n < 0) := I_lt (by omega) (by omega) (by omega) (by omega)
  have c : ¬ I n < I 0 := by rw [l]; omega
  unfold nQ
  rw [I_0, I_clamp h0 (by omega), if_neg (show ¬ (I n < I 0 ∨ B < n.toNat) from fun z => z.elim c (by omega))]
/-- a new row of ints, set into an object -/
theorem newI {h : AH} {o m ci t : Nat} {n : Int} {fs : List Value} (e : h.1 = o) (O : OB h m ci fs) (mo : m < o) (k : Nat) (hk : k < fs.length) {B : Nat} (ht : t = 0 ∨ t = 2 ∨ t = 3) (h0 : 0 ≤ n) (h1 : n ≤ B) (hB : B < 2147483648) : ∃ h1 h', nB t B h (I n) = some (o, h1) ∧ fS ci k h1 m (.ref o) = some h' ∧ OB h' m ci (fs.set k (.ref o)) ∧ AI h' o t n (fun _ => 0) ∧ h'.1 = o + 1 ∧ ∀ q, q < o → q ≠ m → h'.2 q = h.2 q := by
  have O1 : OB (hN h (.inl (t, n.toNat, .inl fun _ => I 0))) m ci fs := OB.at O (hN_ne (by omega))
  obtain ⟨h2, e2, O2, F2⟩ := O1.set k (.ref o) hk
  exact ⟨_, h2, nBi_of e ht h0 h1 hB, e2, O2, ⟨by rw [F2.2 o (by omega)]; exact hN_at e.symm, h0, by omega⟩, by rw [F2.1]; show h.1 + 1 = _; omega, fun q q0 q1 => by rw [F2.2 q (by omega), hN_ne (by omega)]⟩
theorem newL {h : AH} {o m ci : Nat} {n : Int} {fs : List Value} (e : h.1 = o) (O : OB h m ci fs) (mo : m < o) (k : Nat) (hk : k < fs.length) {B : Nat} (h0 : 0 ≤ n) (h1 : n ≤ B) (hB : B < 2147483648) : ∃ h1 h', nB 1 B h (I n) = some (o, h1) ∧ fS ci k h1 m (.ref o) = some h' ∧ OB h' m ci (fs.set k (.ref o)) ∧ AL h' o n (fun _ => J 0) ∧ h'.1 = o + 1 ∧ ∀ q, q < o → q ≠ m → h'.2 q = h.2 q := by
  have O1 : OB (hN h (.inl (1, n.toNat, .inr (.inl fun _ => J 0)))) m ci fs := OB.at O (hN_ne (by omega))
  obtain ⟨h2, e2, O2, F2⟩ := O1.set k (.ref o) hk
  exact ⟨_, h2, nBl_of e h0 h1 hB, e2, O2, ⟨by rw [F2.2 o (by omega)]; exact hN_at e.symm, h0, by omega⟩, by rw [F2.1]; show h.1 + 1 = _; omega, fun q q0 q1 => by rw [F2.2 q (by omega), hN_ne (by omega)]⟩
theorem newQ {h : AH} {o m ci t : Nat} {n : Int} {fs : List Value} (e : h.1 = o) (O : OB h m ci fs) (mo : m < o) (k : Nat) (hk : k < fs.length) {B : Nat} (h0 : 0 ≤ n) (h1 : n ≤ B) (hB : B < 2147483648) : ∃ h1 h', nQ t B h (I n) = some (o, h1) ∧ fS ci k h1 m (.ref o) = some h' ∧ OB h' m ci (fs.set k (.ref o)) ∧ AQ h' o t n (fun _ => none) ∧ h'.1 = o + 1 ∧ ∀ q, q < o → q ≠ m → h'.2 q = h.2 q := by
  have O1 : OB (hN h (.inl (t, n.toNat, .inr (.inr (.inr (.inr fun _ => none)))))) m ci fs := OB.at O (hN_ne (by omega))
  obtain ⟨h2, e2, O2, F2⟩ := O1.set k (.ref o) hk
  exact ⟨_, h2, nQ_of e h0 h1 hB, e2, O2, ⟨⟨_, by rw [F2.2 o (by omega)]; exact hN_at e.symm, fun _ _ _ => rfl⟩, h0, by omega⟩, by rw [F2.1]; show h.1 + 1 = _; omega, fun q q0 q1 => by rw [F2.2 q (by omega), hN_ne (by omega)]⟩
theorem initT {h : AH} {o : Nat} (e : h.1 = o) : ∃ h', f6_init (hN h (.inr (6, [.null, .int 0, .int 0, .int 0, .int 0, .int 0, .int 0]))) o = some h' ∧ TP h' o (fun j => if j = 4 then 34 else 0) (fun _ => 0) ∧ h'.1 = o + 2 ∧ FB o h h' := by
  have O0 : OB (hN h (.inr (6, [.null, .int 0, .int 0, .int 0, .int 0, .int 0, .int 0]))) o 6 [.null, .int 0, .int 0, .int 0, .int 0, .int 0, .int 0] := hN_at e.symm
  have s0 : (hN h (.inr (6, [.null, .int 0, .int 0, .int 0, .int 0, .int 0, .int 0]))).1 = o + 1 := by rw [← e]; rfl
  have b0 : FB o h (hN h (.inr (6, [.null, .int 0, .int 0, .int 0, .int 0, .int 0, .int 0]))) := fun q hq => hN_ne (by omega)
  generalize hN h (.inr (6, [.null, .int 0, .int 0, .int 0, .int 0, .int 0, .int 0])) = h0 at *
  obtain ⟨k1, h1, d1, e1, O1, A1_1, s1, c1⟩ := newI (t := 0) (n := 400) (B := 400) s0 O0 (by omega) 0 (by simp) (by omega) (by omega) (by omega) (by omega)
  have b1 : FB o h h1 := fun q hq => by rw [c1 q (by omega) (by omega), b0 q hq]
  obtain ⟨h2, e2, O2, F2⟩ := O1.set 1 (.int (I 0)) (by simp)
  have s2 : h2.1 = o + 2 := by rw [F2.1, s1]
  have b2 : FB o h h2 := fun q hq => by rw [F2.2 q (by omega), b1 q hq]
  have A1_2 := A1_1.at (F2.2 _ (by omega))
  obtain ⟨h3, e3, O3, F3⟩ := O2.set 2 (.int (I 0)) (by simp)
  have s3 : h3.1 = o + 2 := by rw [F3.1, s2]
  have b3 : FB o h h3 := fun q hq => by rw [F3.2 q (by omega), b2 q hq]
  have A1_3 := A1_2.at (F3.2 _ (by omega))
  obtain ⟨h4, e4, O4, F4⟩ := O3.set 3 (.int (I 0)) (by simp)
  have s4 : h4.1 = o + 2 := by rw [F4.1, s3]
  have b4 : FB o h h4 := fun q hq => by rw [F4.2 q (by omega), b3 q hq]
  have A1_4 := A1_3.at (F4.2 _ (by omega))
  obtain ⟨h5, e5, O5, F5⟩ := O4.set 4 (.int (I 34)) (by simp)
  have s5 : h5.1 = o + 2 := by rw [F5.1, s4]
  have b5 : FB o h h5 := fun q hq => by rw [F5.2 q (by omega), b4 q hq]
  have A1_5 := A1_4.at (F5.2 _ (by omega))
  obtain ⟨h6, e6, O6, F6⟩ := O5.set 5 (.int (I 0)) (by simp)
  have s6 : h6.1 = o + 2 := by rw [F6.1, s5]
  have b6 : FB o h h6 := fun q hq => by rw [F6.2 q (by omega), b5 q hq]
  have A1_6 := A1_5.at (F6.2 _ (by omega))
  obtain ⟨h7, e7, O7, F7⟩ := O6.set 6 (.int (I 0)) (by simp)
  have s7 : h7.1 = o + 2 := by rw [F7.1, s6]
  have b7 : FB o h h7 := fun q hq => by rw [F7.2 q (by omega), b6 q hq]
  have A1_7 := A1_6.at (F7.2 _ (by omega))
  refine ⟨h7, ?_, ⟨O7, A1_7⟩, s7, b7⟩
  rw [f6_init]
  simp only [I_lit, I_neg]
  rw [O0.o, Option.bind_some, d1, Option.bind_some]
  dsimp only
  rw [e1, Option.bind_some, e2, Option.bind_some, e3, Option.bind_some, e4, Option.bind_some, e5, Option.bind_some, e6, Option.bind_some, e7, Option.bind_some]
theorem initRO {h : AH} {o : Nat} (e : h.1 = o) : ∃ h', f4_init (hN h (.inr (4, [.null, .null, .null, .null, .int 0, .null]))) o = some h' ∧ RO h' o 0 (fun _ => 0) (fun _ => 0) (fun _ => 0) (fun _ => 0) (fun _ => J 0) ∧ h'.1 = o + 6 ∧ FB o h h' := by
  have O0 : OB (hN h (.inr (4, [.null, .null, .null, .null, .int 0, .null]))) o 4 [.null, .null, .null, .null, .int 0, .null] := hN_at e.symm
  have s0 : (hN h (.inr (4, [.null, .null, .null, .null, .int 0, .null]))).1 = o + 1 := by rw [← e]; rfl
  have b0 : FB o h (hN h (.inr (4, [.null, .null, .null, .null, .int 0, .null]))) := fun q hq => hN_ne (by omega)
  generalize hN h (.inr (4, [.null, .null, .null, .null, .int 0, .null])) = h0 at *
  obtain ⟨k1, h1, d1, e1, O1, A1_1, s1, c1⟩ := newI (t := 0) (n := 6) (B := 6) s0 O0 (by omega) 0 (by simp) (by omega) (by omega) (by omega) (by omega)
  have b1 : FB o h h1 := fun q hq => by rw [c1 q (by omega) (by omega), b0 q hq]
  obtain ⟨k2, h2, d2, e2, O2, A2_2, s2, c2⟩ := newI (t := 0) (n := 6) (B := 6) s1 O1 (by omega) 1 (by simp) (by omega) (by omega) (by omega) (by omega)
  have b2 : FB o h h2 := fun q hq => by rw [c2 q (by omega) (by omega), b1 q hq]
  have A1_2 := A1_1.at (c2 _ (by omega) (by omega))
  obtain ⟨k3, h3, d3, e3, O3, A3_3, s3, c3⟩ := newI (t := 0) (n := 6) (B := 6) s2 O2 (by omega) 2 (by simp) (by omega) (by omega) (by omega) (by omega)
  have b3 : FB o h h3 := fun q hq => by rw [c3 q (by omega) (by omega), b2 q hq]
  have A1_3 := A1_2.at (c3 _ (by omega) (by omega))
  have A2_3 := A2_2.at (c3 _ (by omega) (by omega))
  obtain ⟨k4, h4, d4, e4, O4, A4_4, s4, c4⟩ := newI (t := 0) (n := 6) (B := 6) s3 O3 (by omega) 3 (by simp) (by omega) (by omega) (by omega) (by omega)
  have b4 : FB o h h4 := fun q hq => by rw [c4 q (by omega) (by omega), b3 q hq]
  have A1_4 := A1_3.at (c4 _ (by omega) (by omega))
  have A2_4 := A2_3.at (c4 _ (by omega) (by omega))
  have A3_4 := A3_3.at (c4 _ (by omega) (by omega))
  obtain ⟨h5, e5, O5, F5⟩ := O4.set 4 (.int (I 0)) (by simp)
  have s5 : h5.1 = o + 5 := by rw [F5.1, s4]
  have b5 : FB o h h5 := fun q hq => by rw [F5.2 q (by omega), b4 q hq]
  have A1_5 := A1_4.at (F5.2 _ (by omega))
  have A2_5 := A2_4.at (F5.2 _ (by omega))
  have A3_5 := A3_4.at (F5.2 _ (by omega))
  have A4_5 := A4_4.at (F5.2 _ (by omega))
  obtain ⟨k6, h6, d6, e6, O6, A5_6, s6, c6⟩ := newL (n := 64) (B := 64) s5 O5 (by omega) 5 (by simp) (by omega) (by omega) (by omega)
  have b6 : FB o h h6 := fun q hq => by rw [c6 q (by omega) (by omega), b5 q hq]
  have A1_6 := A1_5.at (c6 _ (by omega) (by omega))
  have A2_6 := A2_5.at (c6 _ (by omega) (by omega))
  have A3_6 := A3_5.at (c6 _ (by omega) (by omega))
  have A4_6 := A4_5.at (c6 _ (by omega) (by omega))
  refine ⟨h6, ?_, ⟨O6, A1_6, A2_6, A3_6, A4_6, A5_6⟩, s6, b6⟩
  rw [f4_init]
  simp only [I_lit, I_neg]
  rw [O0.o, Option.bind_some, d1, Option.bind_some]
  dsimp only
  rw [e1, Option.bind_some, d2, Option.bind_some]
  dsimp only
  rw [e2, Option.bind_some, d3, Option.bind_some]
  dsimp only
  rw [e3, Option.bind_some, d4, Option.bind_some]
  dsimp only
  rw [e4, Option.bind_some, e5, Option.bind_some, d6, Option.bind_some]
  dsimp only
  rw [e6, Option.bind_some]
theorem initRD {h : AH} {o : Nat} (e : h.1 = o) : ∃ h', f3_init (hN h (.inr (3, [.int 0, .int 0, .null, .int 0, .null, .int 0]))) o = some h' ∧ RD h' o (fun j => if j < 2 then 1 else 0) (fun _ => 0) (fun _ => J 0) ∧ h'.1 = o + 3 ∧ FB o h h' := by
  have O0 : OB (hN h (.inr (3, [.int 0, .int 0, .null, .int 0, .null, .int 0]))) o 3 [.int 0, .int 0, .null, .int 0, .null, .int 0] := hN_at e.symm
  have s0 : (hN h (.inr (3, [.int 0, .int 0, .null, .int 0, .null, .int 0]))).1 = o + 1 := by rw [← e]; rfl
  have b0 : FB o h (hN h (.inr (3, [.int 0, .int 0, .null, .int 0, .null, .int 0]))) := fun q hq => hN_ne (by omega)
  generalize hN h (.inr (3, [.int 0, .int 0, .null, .int 0, .null, .int 0])) = h0 at *
  obtain ⟨h1, e1, O1, F1⟩ := O0.set 0 (.int (I 1)) (by simp)
  have s1 : h1.1 = o + 1 := by rw [F1.1, s0]
  have b1 : FB o h h1 := fun q hq => by rw [F1.2 q (by omega), b0 q hq]
  obtain ⟨h2, e2, O2, F2⟩ := O1.set 1 (.int (I 1)) (by simp)
  have s2 : h2.1 = o + 1 := by rw [F2.1, s1]
  have b2 : FB o h h2 := fun q hq => by rw [F2.2 q (by omega), b1 q hq]
  obtain ⟨k3, h3, d3, e3, O3, A1_3, s3, c3⟩ := newI (t := 0) (n := 400) (B := 400) s2 O2 (by omega) 2 (by simp) (by omega) (by omega) (by omega) (by omega)
  have b3 : FB o h h3 := fun q hq => by rw [c3 q (by omega) (by omega), b2 q hq]
  obtain ⟨h4, e4, O4, F4⟩ := O3.set 3 (.int (I 0)) (by simp)
  have s4 : h4.1 = o + 2 := by rw [F4.1, s3]
  have b4 : FB o h h4 := fun q hq => by rw [F4.2 q (by omega), b3 q hq]
  have A1_4 := A1_3.at (F4.2 _ (by omega))
  obtain ⟨k5, h5, d5, e5, O5, A2_5, s5, c5⟩ := newL (n := 60) (B := 60) s4 O4 (by omega) 4 (by simp) (by omega) (by omega) (by omega)
  have b5 : FB o h h5 := fun q hq => by rw [c5 q (by omega) (by omega), b4 q hq]
  have A1_5 := A1_4.at (c5 _ (by omega) (by omega))
  obtain ⟨h6, e6, O6, F6⟩ := O5.set 5 (.int (I 0)) (by simp)
  have s6 : h6.1 = o + 3 := by rw [F6.1, s5]
  have b6 : FB o h h6 := fun q hq => by rw [F6.2 q (by omega), b5 q hq]
  have A1_6 := A1_5.at (F6.2 _ (by omega))
  have A2_6 := A2_5.at (F6.2 _ (by omega))
  refine ⟨h6, ?_, ⟨O6, A1_6, A2_6⟩, s6, b6⟩
  rw [f3_init]
  simp only [I_lit, I_neg]
  rw [O0.o, Option.bind_some, e1, Option.bind_some, e2, Option.bind_some, d3, Option.bind_some]
  dsimp only
  rw [e3, Option.bind_some, e4, Option.bind_some, d5, Option.bind_some]
  dsimp only
  rw [e5, Option.bind_some, e6, Option.bind_some]
theorem initMK {h : AH} {o : Nat} (e : h.1 = o) : ∃ h', f0_init (hN h (.inr (0, [.int 0, .int 0, .int 0, .null, .int 0]))) o = some h' ∧ MK h' o (fun j => if j = 0 then 1 else 0) (fun _ => 0) ∧ h'.1 = o + 2 ∧ FB o h h' := by
  have O0 : OB (hN h (.inr (0, [.int 0, .int 0, .int 0, .null, .int 0]))) o 0 [.int 0, .int 0, .int 0, .null, .int 0] := hN_at e.symm
  have s0 : (hN h (.inr (0, [.int 0, .int 0, .int 0, .null, .int 0]))).1 = o + 1 := by rw [← e]; rfl
  have b0 : FB o h (hN h (.inr (0, [.int 0, .int 0, .int 0, .null, .int 0]))) := fun q hq => hN_ne (by omega)
  generalize hN h (.inr (0, [.int 0, .int 0, .int 0, .null, .int 0])) = h0 at *
  obtain ⟨h1, e1, O1, F1⟩ := O0.set 0 (.int (I 1)) (by simp)
  have s1 : h1.1 = o + 1 := by rw [F1.1, s0]
  have b1 : FB o h h1 := fun q hq => by rw [F1.2 q (by omega), b0 q hq]
  obtain ⟨h2, e2, O2, F2⟩ := O1.set 1 (.int (I 0)) (by simp)
  have s2 : h2.1 = o + 1 := by rw [F2.1, s1]
  have b2 : FB o h h2 := fun q hq => by rw [F2.2 q (by omega), b1 q hq]
  obtain ⟨h3, e3, O3, F3⟩ := O2.set 2 (.int (I 0)) (by simp)
  have s3 : h3.1 = o + 1 := by rw [F3.1, s2]
  have b3 : FB o h h3 := fun q hq => by rw [F3.2 q (by omega), b2 q hq]
  obtain ⟨k4, h4, d4, e4, O4, A1_4, s4, c4⟩ := newI (t := 0) (n := 12) (B := 12) s3 O3 (by omega) 3 (by simp) (by omega) (by omega) (by omega) (by omega)
  have b4 : FB o h h4 := fun q hq => by rw [c4 q (by omega) (by omega), b3 q hq]
  obtain ⟨h5, e5, O5, F5⟩ := O4.set 4 (.int (I 0)) (by simp)
  have s5 : h5.1 = o + 2 := by rw [F5.1, s4]
  have b5 : FB o h h5 := fun q hq => by rw [F5.2 q (by omega), b4 q hq]
  have A1_5 := A1_4.at (F5.2 _ (by omega))
  refine ⟨h5, ?_, ⟨O5, A1_5⟩, s5, b5⟩
  rw [f0_init]
  simp only [I_lit, I_neg]
  rw [O0.o, Option.bind_some, e1, Option.bind_some, e2, Option.bind_some, e3, Option.bind_some, d4, Option.bind_some]
  dsimp only
  rw [e4, Option.bind_some, e5, Option.bind_some]
theorem initPB {h : AH} {o : Nat} (e : h.1 = o) : ∃ h', f1_init (hN h (.inr (1, [.null, .null, .int 0, .int 0, .int 0, .int 0, .int 0, .int 0, .int 0, .null, .int 0, .int 0, .int 0]))) o = some h' ∧ PB h' o none none (fun j => if j = 4 then -1 else 0) (fun _ => 0) ∧ h'.1 = o + 2 ∧ FB o h h' := by
  have O0 : OB (hN h (.inr (1, [.null, .null, .int 0, .int 0, .int 0, .int 0, .int 0, .int 0, .int 0, .null, .int 0, .int 0, .int 0]))) o 1 [.null, .null, .int 0, .int 0, .int 0, .int 0, .int 0, .int 0, .int 0, .null, .int 0, .int 0, .int 0] := hN_at e.symm
  have s0 : (hN h (.inr (1, [.null, .null, .int 0, .int 0, .int 0, .int 0, .int 0, .int 0, .int 0, .null, .int 0, .int 0, .int 0]))).1 = o + 1 := by rw [← e]; rfl
  have b0 : FB o h (hN h (.inr (1, [.null, .null, .int 0, .int 0, .int 0, .int 0, .int 0, .int 0, .int 0, .null, .int 0, .int 0, .int 0]))) := fun q hq => hN_ne (by omega)
  generalize hN h (.inr (1, [.null, .null, .int 0, .int 0, .int 0, .int 0, .int 0, .int 0, .int 0, .null, .int 0, .int 0, .int 0])) = h0 at *
  obtain ⟨h1, e1, O1, F1⟩ := O0.set 0 (.null) (by simp)
  have s1 : h1.1 = o + 1 := by rw [F1.1, s0]
  have b1 : FB o h h1 := fun q hq => by rw [F1.2 q (by omega), b0 q hq]
  obtain ⟨h2, e2, O2, F2⟩ := O1.set 1 (.null) (by simp)
  have s2 : h2.1 = o + 1 := by rw [F2.1, s1]
  have b2 : FB o h h2 := fun q hq => by rw [F2.2 q (by omega), b1 q hq]
  obtain ⟨h3, e3, O3, F3⟩ := O2.set 2 (.int (I 0)) (by simp)
  have s3 : h3.1 = o + 1 := by rw [F3.1, s2]
  have b3 : FB o h h3 := fun q hq => by rw [F3.2 q (by omega), b2 q hq]
  obtain ⟨h4, e4, O4, F4⟩ := O3.set 3 (.int (I 0)) (by simp)
  have s4 : h4.1 = o + 1 := by rw [F4.1, s3]
  have b4 : FB o h h4 := fun q hq => by rw [F4.2 q (by omega), b3 q hq]
  obtain ⟨h5, e5, O5, F5⟩ := O4.set 4 (.int (I (-1))) (by simp)
  have s5 : h5.1 = o + 1 := by rw [F5.1, s4]
  have b5 : FB o h h5 := fun q hq => by rw [F5.2 q (by omega), b4 q hq]
  obtain ⟨h6, e6, O6, F6⟩ := O5.set 5 (.int (I 0)) (by simp)
  have s6 : h6.1 = o + 1 := by rw [F6.1, s5]
  have b6 : FB o h h6 := fun q hq => by rw [F6.2 q (by omega), b5 q hq]
  obtain ⟨h7, e7, O7, F7⟩ := O6.set 6 (.int (I 0)) (by simp)
  have s7 : h7.1 = o + 1 := by rw [F7.1, s6]
  have b7 : FB o h h7 := fun q hq => by rw [F7.2 q (by omega), b6 q hq]
  obtain ⟨h8, e8, O8, F8⟩ := O7.set 7 (.int (I 0)) (by simp)
  have s8 : h8.1 = o + 1 := by rw [F8.1, s7]
  have b8 : FB o h h8 := fun q hq => by rw [F8.2 q (by omega), b7 q hq]
  obtain ⟨h9, e9, O9, F9⟩ := O8.set 8 (.int (I 0)) (by simp)
  have s9 : h9.1 = o + 1 := by rw [F9.1, s8]
  have b9 : FB o h h9 := fun q hq => by rw [F9.2 q (by omega), b8 q hq]
  obtain ⟨k10, h10, d10, e10, O10, A10, s10, c10⟩ := newI (t := 0) (n := 400) (B := 400) s9 O9 (by omega) 9 (by simp) (by omega) (by omega) (by omega) (by omega)
  have b10 : FB o h h10 := fun q hq => by rw [c10 q (by omega) (by omega), b9 q hq]
  obtain ⟨h11, e11, O11, F11⟩ := O10.set 10 (.int (I 0)) (by simp)
  have s11 : h11.1 = o + 2 := by rw [F11.1, s10]
  have b11 : FB o h h11 := fun q hq => by rw [F11.2 q (by omega), b10 q hq]
  have A11 := A10.at (F11.2 _ (by omega))
  obtain ⟨h12, e12, O12, F12⟩ := O11.set 11 (.int (I 0)) (by simp)
  have s12 : h12.1 = o + 2 := by rw [F12.1, s11]
  have b12 : FB o h h12 := fun q hq => by rw [F12.2 q (by omega), b11 q hq]
  have A12 := A11.at (F12.2 _ (by omega))
  obtain ⟨h13, e13, O13, F13⟩ := O12.set 12 (.int (I 0)) (by simp)
  have s13 : h13.1 = o + 2 := by rw [F13.1, s12]
  have b13 : FB o h h13 := fun q hq => by rw [F13.2 q (by omega), b12 q hq]
  have A13 := A12.at (F13.2 _ (by omega))
  refine ⟨h13, ?_, ⟨O13, A13⟩, s13, b13⟩
  rw [f1_init]
  simp only [I_lit, I_neg]
  rw [O0.o, Option.bind_some, e1, Option.bind_some, e2, Option.bind_some, e3, Option.bind_some, e4, Option.bind_some, e5, Option.bind_some, e6, Option.bind_some, e7, Option.bind_some, e8, Option.bind_some, e9, Option.bind_some, d10, Option.bind_some]
  dsimp only
  rw [e10, Option.bind_some, e11, Option.bind_some, e12, Option.bind_some, e13, Option.bind_some]
