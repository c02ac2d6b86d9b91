/-! THE REFERENCE'S OBJECT: its fields' numbers v (by their place), the long seed se, its rows g (by their cell), of longs gl -/
def us (v : Nat → Int) (k : Nat) (x : Int) : Nat → Int := fun j => if j = k then x else v j
theorem us_eq {v : Nat → Int} {k : Nat} {x : Int} : us v k x k = x := if_pos rfl
theorem us_ne {v : Nat → Int} {k j : Nat} {x : Int} (h : j ≠ k) : us v k x j = v j := if_neg h
def uf (g : Nat → Int → Int) (k : Nat) (x : Int → Int) : Nat → Int → Int := fun j => if j = k then x else g j
theorem uf_eq {g : Nat → Int → Int} {k : Nat} {x : Int → Int} : uf g k x k = x := if_pos rfl
theorem uf_ne {g : Nat → Int → Int} {k j : Nat} {x : Int → Int} (h : j ≠ k) : uf g k x j = g j := if_neg h
def ug (g : Nat → Int → Int64) (k : Nat) (x : Int → Int64) : Nat → Int → Int64 := fun j => if j = k then x else g j
theorem ug_eq {g : Nat → Int → Int64} {k : Nat} {x : Int → Int64} : ug g k x k = x := if_pos rfl
theorem ug_ne {g : Nat → Int → Int64} {k j : Nat} {x : Int → Int64} (h : j ≠ k) : ug g k x j = g j := if_neg h
def MF (m : Nat) (v : Nat → Int) (se : Int64) : List Value := [.ref (m + 1), .ref (m + 2), .int (I (v 2)), .ref (m + 3), .ref (m + 4), .ref (m + 5), .ref (m + 6), .ref (m + 7), .ref (m + 8), .ref (m + 9), .ref (m + 10), .ref (m + 11), .ref (m + 12), .ref (m + 13), .int (I (v 14)), .int (I (v 15)), .int (I (v 16)), .int (I (v 17)), .int (I (v 18)), .int (I (v 19)), .int (I (v 20)), .int (I (v 21)), .int (I (v 22)), .ref (m + 14), .int (I (v 24)), .ref (m + 15), .int (I (v 26)), .ref (m + 16), .ref (m + 17), .ref (m + 18), .long se, .ref (m + 19), .ref (m + 20), .ref (m + 21), .ref (m + 22), .ref (m + 23)]
def m_t (a : Nat) : Nat := if a = 2 then 2 else if a = 23 then 3 else 0
def m_n (a : Nat) : Int := if a = 1 then 5070 else if a = 2 then 400 else if a = 3 then 5600 else if a = 5 then 672 else if a = 11 then 168 else if a = 14 then 400 else if a = 17 then 90 else if a = 18 then 90 else if a = 19 then 6 else if a = 20 then 6 else if a = 21 then 8 else if a = 22 then 20280 else if a = 23 then 4 else 14
def MO (h : AH) (m : Nat) (v : Nat → Int) (se : Int64) (g : Nat → Int → Int) (gl : Nat → Int → Int64) : Prop :=
  OB h m 9 (MF m v se) ∧ (∀ a : Nat, 1 ≤ a → a ≤ 23 → a ≠ 15 → a ≠ 16 → AI h (m + a) (m_t a) (m_n a) (g a)) ∧ AL h (m + 15) 64 (gl 15) ∧ AL h (m + 16) 10 (gl 16)
section
variable {h h' : AH} {m : Nat} {v : Nat → Int} {se : Int64} {g : Nat → Int → Int} {gl : Nat → Int → Int64}
theorem MO.o (M : MO h m v se g gl) : hObj 9 h m = some (MF m v se) := M.1.o
theorem MO.f0 (M : MO h m v se g gl) : fR 9 0 h m = some (m + 1) := M.1.r 0 rfl
theorem MO.f1 (M : MO h m v se g gl) : fR 9 1 h m = some (m + 2) := M.1.r 1 rfl
theorem MO.f3 (M : MO h m v se g gl) : fR 9 3 h m = some (m + 3) := M.1.r 3 rfl
theorem MO.f4 (M : MO h m v se g gl) : fR 9 4 h m = some (m + 4) := M.1.r 4 rfl
theorem MO.f5 (M : MO h m v se g gl) : fR 9 5 h m = some (m + 5) := M.1.r 5 rfl
theorem MO.f6 (M : MO h m v se g gl) : fR 9 6 h m = some (m + 6) := M.1.r 6 rfl
theorem MO.f7 (M : MO h m v se g gl) : fR 9 7 h m = some (m + 7) := M.1.r 7 rfl
theorem MO.f8 (M : MO h m v se g gl) : fR 9 8 h m = some (m + 8) := M.1.r 8 rfl
theorem MO.f9 (M : MO h m v se g gl) : fR 9 9 h m = some (m + 9) := M.1.r 9 rfl
theorem MO.f10 (M : MO h m v se g gl) : fR 9 10 h m = some (m + 10) := M.1.r 10 rfl
theorem MO.f11 (M : MO h m v se g gl) : fR 9 11 h m = some (m + 11) := M.1.r 11 rfl
theorem MO.f12 (M : MO h m v se g gl) : fR 9 12 h m = some (m + 12) := M.1.r 12 rfl
theorem MO.f13 (M : MO h m v se g gl) : fR 9 13 h m = some (m + 13) := M.1.r 13 rfl
theorem MO.f23 (M : MO h m v se g gl) : fR 9 23 h m = some (m + 14) := M.1.r 23 rfl
theorem MO.f25 (M : MO h m v se g gl) : fR 9 25 h m = some (m + 15) := M.1.r 25 rfl
theorem MO.f27 (M : MO h m v se g gl) : fR 9 27 h m = some (m + 16) := M.1.r 27 rfl
theorem MO.f28 (M : MO h m v se g gl) : fR 9 28 h m = some (m + 17) := M.1.r 28 rfl
theorem MO.f29 (M : MO h m v se g gl) : fR 9 29 h m = some (m + 18) := M.1.r 29 rfl
theorem MO.f31 (M : MO h m v se g gl) : fR 9 31 h m = some (m + 19) := M.1.r 31 rfl
theorem MO.f32 (M : MO h m v se g gl) : fR 9 32 h m = some (m + 20) := M.1.r 32 rfl
theorem MO.f33 (M : MO h m v se g gl) : fR 9 33 h m = some (m + 21) := M.1.r 33 rfl
theorem MO.f34 (M : MO h m v se g gl) : fR 9 34 h m = some (m + 22) := M.1.r 34 rfl
theorem MO.f35 (M : MO h m v se g gl) : fR 9 35 h m = some (m + 23) := M.1.r 35 rfl
theorem MO.f2 (M : MO h m v se g gl) : fI 9 2 h m = some (I (v 2)) := M.1.i 2 rfl
theorem MO.f14 (M : MO h m v se g gl) : fI 9 14 h m = some (I (v 14)) := M.1.i 14 rfl
theorem MO.f15 (M : MO h m v se g gl) : fI 9 15 h m = some (I (v 15)) := M.1.i 15 rfl
theorem MO.f16 (M : MO h m v se g gl) : fI 9 16 h m = some (I (v 16)) := M.1.i 16 rfl
theorem MO.f17 (M : MO h m v se g gl) : fI 9 17 h m = some (I (v 17)) := M.1.i 17 rfl
theorem MO.f18 (M : MO h m v se g gl) : fI 9 18 h m = some (I (v 18)) := M.1.i 18 rfl
theorem MO.f19 (M : MO h m v se g gl) : fI 9 19 h m = some (I (v 19)) := M.1.i 19 rfl
theorem MO.f20 (M : MO h m v se g gl) : fI 9 20 h m = some (I (v 20)) := M.1.i 20 rfl
theorem MO.f21 (M : MO h m v se g gl) : fI 9 21 h m = some (I (v 21)) := M.1.i 21 rfl
theorem MO.f22 (M : MO h m v se g gl) : fI 9 22 h m = some (I (v 22)) := M.1.i 22 rfl
theorem MO.f24 (M : MO h m v se g gl) : fI 9 24 h m = some (I (v 24)) := M.1.i 24 rfl
theorem MO.f26 (M : MO h m v se g gl) : fI 9 26 h m = some (I (v 26)) := M.1.i 26 rfl
theorem MO.f30 (M : MO h m v se g gl) : fL 9 30 h m = some se := M.1.l 30 rfl
theorem MO.a1 (M : MO h m v se g gl) : AI h (m + 1) 0 5070 (g 1) := M.2.1 1 (by omega) (by omega) (by omega) (by omega)
theorem MO.r1 (M : MO h m v se g gl) {i : Int} (h0 : 0 ≤ i) (h1 : i < 5070) : aI 0 h (m + 1) (I i) = some (I (g 1 i)) := M.a1.g h0 h1
theorem MO.a2 (M : MO h m v se g gl) : AI h (m + 2) 2 400 (g 2) := M.2.1 2 (by omega) (by omega) (by omega) (by omega)
theorem MO.r2 (M : MO h m v se g gl) {i : Int} (h0 : 0 ≤ i) (h1 : i < 400) : aI 2 h (m + 2) (I i) = some (I (g 2 i)) := M.a2.g h0 h1
theorem MO.a3 (M : MO h m v se g gl) : AI h (m + 3) 0 5600 (g 3) := M.2.1 3 (by omega) (by omega) (by omega) (by omega)
theorem MO.r3 (M : MO h m v se g gl) {i : Int} (h0 : 0 ≤ i) (h1 : i < 5600) : aI 0 h (m + 3) (I i) = some (I (g 3 i)) := M.a3.g h0 h1
theorem MO.a4 (M : MO h m v se g gl) : AI h (m + 4) 0 14 (g 4) := M.2.1 4 (by omega) (by omega) (by omega) (by omega)
theorem MO.r4 (M : MO h m v se g gl) {i : Int} (h0 : 0 ≤ i) (h1 : i < 14) : aI 0 h (m + 4) (I i) = some (I (g 4 i)) := M.a4.g h0 h1
theorem MO.a5 (M : MO h m v se g gl) : AI h (m + 5) 0 672 (g 5) := M.2.1 5 (by omega) (by omega) (by omega) (by omega)
theorem MO.r5 (M : MO h m v se g gl) {i : Int} (h0 : 0 ≤ i) (h1 : i < 672) : aI 0 h (m + 5) (I i) = some (I (g 5 i)) := M.a5.g h0 h1
theorem MO.a6 (M : MO h m v se g gl) : AI h (m + 6) 0 14 (g 6) := M.2.1 6 (by omega) (by omega) (by omega) (by omega)
theorem MO.r6 (M : MO h m v se g gl) {i : Int} (h0 : 0 ≤ i) (h1 : i < 14) : aI 0 h (m + 6) (I i) = some (I (g 6 i)) := M.a6.g h0 h1
theorem MO.a7 (M : MO h m v se g gl) : AI h (m + 7) 0 14 (g 7) := M.2.1 7 (by omega) (by omega) (by omega) (by omega)
theorem MO.r7 (M : MO h m v se g gl) {i : Int} (h0 : 0 ≤ i) (h1 : i < 14) : aI 0 h (m + 7) (I i) = some (I (g 7 i)) := M.a7.g h0 h1
theorem MO.a8 (M : MO h m v se g gl) : AI h (m + 8) 0 14 (g 8) := M.2.1 8 (by omega) (by omega) (by omega) (by omega)
theorem MO.r8 (M : MO h m v se g gl) {i : Int} (h0 : 0 ≤ i) (h1 : i < 14) : aI 0 h (m + 8) (I i) = some (I (g 8 i)) := M.a8.g h0 h1
theorem MO.a9 (M : MO h m v se g gl) : AI h (m + 9) 0 14 (g 9) := M.2.1 9 (by omega) (by omega) (by omega) (by omega)
theorem MO.r9 (M : MO h m v se g gl) {i : Int} (h0 : 0 ≤ i) (h1 : i < 14) : aI 0 h (m + 9) (I i) = some (I (g 9 i)) := M.a9.g h0 h1
theorem MO.a10 (M : MO h m v se g gl) : AI h (m + 10) 0 14 (g 10) := M.2.1 10 (by omega) (by omega) (by omega) (by omega)
theorem MO.r10 (M : MO h m v se g gl) {i : Int} (h0 : 0 ≤ i) (h1 : i < 14) : aI 0 h (m + 10) (I i) = some (I (g 10 i)) := M.a10.g h0 h1
theorem MO.a11 (M : MO h m v se g gl) : AI h (m + 11) 0 168 (g 11) := M.2.1 11 (by omega) (by omega) (by omega) (by omega)
theorem MO.r11 (M : MO h m v se g gl) {i : Int} (h0 : 0 ≤ i) (h1 : i < 168) : aI 0 h (m + 11) (I i) = some (I (g 11 i)) := M.a11.g h0 h1
theorem MO.a12 (M : MO h m v se g gl) : AI h (m + 12) 0 14 (g 12) := M.2.1 12 (by omega) (by omega) (by omega) (by omega)
theorem MO.r12 (M : MO h m v se g gl) {i : Int} (h0 : 0 ≤ i) (h1 : i < 14) : aI 0 h (m + 12) (I i) = some (I (g 12 i)) := M.a12.g h0 h1
theorem MO.a13 (M : MO h m v se g gl) : AI h (m + 13) 0 14 (g 13) := M.2.1 13 (by omega) (by omega) (by omega) (by omega)
theorem MO.r13 (M : MO h m v se g gl) {i : Int} (h0 : 0 ≤ i) (h1 : i < 14) : aI 0 h (m + 13) (I i) = some (I (g 13 i)) := M.a13.g h0 h1
theorem MO.a14 (M : MO h m v se g gl) : AI h (m + 14) 0 400 (g 14) := M.2.1 14 (by omega) (by omega) (by omega) (by omega)
theorem MO.r14 (M : MO h m v se g gl) {i : Int} (h0 : 0 ≤ i) (h1 : i < 400) : aI 0 h (m + 14) (I i) = some (I (g 14 i)) := M.a14.g h0 h1
theorem MO.a17 (M : MO h m v se g gl) : AI h (m + 17) 0 90 (g 17) := M.2.1 17 (by omega) (by omega) (by omega) (by omega)
theorem MO.r17 (M : MO h m v se g gl) {i : Int} (h0 : 0 ≤ i) (h1 : i < 90) : aI 0 h (m + 17) (I i) = some (I (g 17 i)) := M.a17.g h0 h1
theorem MO.a18 (M : MO h m v se g gl) : AI h (m + 18) 0 90 (g 18) := M.2.1 18 (by omega) (by omega) (by omega) (by omega)
theorem MO.r18 (M : MO h m v se g gl) {i : Int} (h0 : 0 ≤ i) (h1 : i < 90) : aI 0 h (m + 18) (I i) = some (I (g 18 i)) := M.a18.g h0 h1
theorem MO.a19 (M : MO h m v se g gl) : AI h (m + 19) 0 6 (g 19) := M.2.1 19 (by omega) (by omega) (by omega) (by omega)
theorem MO.r19 (M : MO h m v se g gl) {i : Int} (h0 : 0 ≤ i) (h1 : i < 6) : aI 0 h (m + 19) (I i) = some (I (g 19 i)) := M.a19.g h0 h1
theorem MO.a20 (M : MO h m v se g gl) : AI h (m + 20) 0 6 (g 20) := M.2.1 20 (by omega) (by omega) (by omega) (by omega)
theorem MO.r20 (M : MO h m v se g gl) {i : Int} (h0 : 0 ≤ i) (h1 : i < 6) : aI 0 h (m + 20) (I i) = some (I (g 20 i)) := M.a20.g h0 h1
theorem MO.a21 (M : MO h m v se g gl) : AI h (m + 21) 0 8 (g 21) := M.2.1 21 (by omega) (by omega) (by omega) (by omega)
theorem MO.r21 (M : MO h m v se g gl) {i : Int} (h0 : 0 ≤ i) (h1 : i < 8) : aI 0 h (m + 21) (I i) = some (I (g 21 i)) := M.a21.g h0 h1
theorem MO.a22 (M : MO h m v se g gl) : AI h (m + 22) 0 20280 (g 22) := M.2.1 22 (by omega) (by omega) (by omega) (by omega)
theorem MO.r22 (M : MO h m v se g gl) {i : Int} (h0 : 0 ≤ i) (h1 : i < 20280) : aI 0 h (m + 22) (I i) = some (I (g 22 i)) := M.a22.g h0 h1
theorem MO.a23 (M : MO h m v se g gl) : AI h (m + 23) 3 4 (g 23) := M.2.1 23 (by omega) (by omega) (by omega) (by omega)
theorem MO.r23 (M : MO h m v se g gl) {i : Int} (h0 : 0 ≤ i) (h1 : i < 4) : aI 3 h (m + 23) (I i) = some (I (g 23 i)) := M.a23.g h0 h1
theorem MO.r15 (M : MO h m v se g gl) {i : Int} (h0 : 0 ≤ i) (h1 : i < 64) : aL' h (m + 15) (I i) = some (gl 15 i) := M.2.2.1.g h0 h1
theorem MO.r16 (M : MO h m v se g gl) {i : Int} (h0 : 0 ≤ i) (h1 : i < 10) : aL' h (m + 16) (I i) = some (gl 16 i) := M.2.2.2.g h0 h1
theorem MO.fr (M : MO h m v se g gl) {lo hi : Nat} (f : Fr lo hi h h') (d : m + 24 ≤ lo ∨ hi ≤ m) : MO h' m v se g gl := ⟨M.1.at (f.2 _ (by omega)), fun a a0 a1 a2 a3 => (M.2.1 a a0 a1 a2 a3).at (f.2 _ (by omega)), M.2.2.1.at (f.2 _ (by omega)), M.2.2.2.at (f.2 _ (by omega))⟩
theorem MO.setF (M : MO h m v se g gl) {k : Nat} {x : Value} {v' : Nat → Int} {se' : Int64} (e : (MF m v se).set k x = MF m v' se') (hk : k < 36) : ∃ h', fS 9 k h m x = some h' ∧ MO h' m v' se' g gl ∧ Fr m (m + 24) h h' := by
  obtain ⟨h', e1, O1, F1⟩ := M.1.set k x hk
  rw [e] at O1
  exact ⟨h', e1, ⟨O1, fun a a0 a1 a2 a3 => (M.2.1 a a0 a1 a2 a3).at (F1.2 _ (by omega)), M.2.2.1.at (F1.2 _ (by omega)), M.2.2.2.at (F1.2 _ (by omega))⟩, F1.mono (by omega) (by omega)⟩
theorem MO.setA (M : MO h m v se g gl) {a : Nat} (a0 : 1 ≤ a) (a1 : a ≤ 23) (a2 : a ≠ 15) (a3 : a ≠ 16) {i x : Int} (h0 : 0 ≤ i) (h1 : i < m_n a) : ∃ h', sI (m_t a) h (m + a) (I i) (I x) = some h' ∧ MO h' m v se (uf g a (up (g a) i x)) gl ∧ Fr m (m + 24) h h' := by
  obtain ⟨h', e1, A1, F1⟩ := (M.2.1 a a0 a1 a2 a3).set (v := x) h0 h1
  refine ⟨h', e1, ⟨M.1.at (F1.2 _ (by omega)), fun b b0 b1 b2 b3 => ?_, M.2.2.1.at (F1.2 _ (by omega)), M.2.2.2.at (F1.2 _ (by omega))⟩, F1.mono (by omega) (by omega)⟩
  by_cases c : b = a
  · subst c; rw [uf_eq]; exact A1
  · rw [uf_ne c]; exact (M.2.1 b b0 b1 b2 b3).at (F1.2 _ (by omega))
theorem MO.w15 (M : MO h m v se g gl) {i : Int} (x : Int64) (h0 : 0 ≤ i) (h1 : i < 64) : ∃ h', sL h (m + 15) (I i) x = some h' ∧ MO h' m v se g (ug gl 15 (ul (gl 15) i x)) ∧ Fr m (m + 24) h h' := by
  obtain ⟨h', e1, A1, F1⟩ := M.2.2.1.set x h0 h1
  refine ⟨h', e1, ⟨M.1.at (F1.2 _ (by omega)), fun b b0 b1 b2 b3 => (M.2.1 b b0 b1 b2 b3).at (F1.2 _ (by omega)), by rw [ug_eq]; exact A1, by rw [ug_ne (by omega)]; exact M.2.2.2.at (F1.2 _ (by omega))⟩, F1.mono (by omega) (by omega)⟩
theorem MO.w16 (M : MO h m v se g gl) {i : Int} (x : Int64) (h0 : 0 ≤ i) (h1 : i < 10) : ∃ h', sL h (m + 16) (I i) x = some h' ∧ MO h' m v se g (ug gl 16 (ul (gl 16) i x)) ∧ Fr m (m + 24) h h' := by
  obtain ⟨h', e1, A1, F1⟩ := M.2.2.2.set x h0 h1
  refine ⟨h', e1, ⟨M.1.at (F1.2 _ (by omega)), fun b b0 b1 b2 b3 => (M.2.1 b b0 b1 b2 b3).at (F1.2 _ (by omega)), by rw [ug_ne (by omega)]; exact M.2.2.1.at (F1.2 _ (by omega)), by rw [ug_eq]; exact A1⟩, F1.mono (by omega) (by omega)⟩
theorem MO.w1 (M : MO h m v se g gl) {i : Int} (x : Int) (h0 : 0 ≤ i) (h1 : i < 5070) : ∃ h', sI 0 h (m + 1) (I i) (I x) = some h' ∧ MO h' m v se (uf g 1 (up (g 1) i x)) gl ∧ Fr m (m + 24) h h' := M.setA (a := 1) (by omega) (by omega) (by omega) (by omega) h0 h1
theorem MO.w2 (M : MO h m v se g gl) {i : Int} (x : Int) (h0 : 0 ≤ i) (h1 : i < 400) : ∃ h', sI 2 h (m + 2) (I i) (I x) = some h' ∧ MO h' m v se (uf g 2 (up (g 2) i x)) gl ∧ Fr m (m + 24) h h' := M.setA (a := 2) (by omega) (by omega) (by omega) (by omega) h0 h1
theorem MO.w3 (M : MO h m v se g gl) {i : Int} (x : Int) (h0 : 0 ≤ i) (h1 : i < 5600) : ∃ h', sI 0 h (m + 3) (I i) (I x) = some h' ∧ MO h' m v se (uf g 3 (up (g 3) i x)) gl ∧ Fr m (m + 24) h h' := M.setA (a := 3) (by omega) (by omega) (by omega) (by omega) h0 h1
theorem MO.w4 (M : MO h m v se g gl) {i : Int} (x : Int) (h0 : 0 ≤ i) (h1 : i < 14) : ∃ h', sI 0 h (m + 4) (I i) (I x) = some h' ∧ MO h' m v se (uf g 4 (up (g 4) i x)) gl ∧ Fr m (m + 24) h h' := M.setA (a := 4) (by omega) (by omega) (by omega) (by omega) h0 h1
theorem MO.w5 (M : MO h m v se g gl) {i : Int} (x : Int) (h0 : 0 ≤ i) (h1 : i < 672) : ∃ h', sI 0 h (m + 5) (I i) (I x) = some h' ∧ MO h' m v se (uf g 5 (up (g 5) i x)) gl ∧ Fr m (m + 24) h h' := M.setA (a := 5) (by omega) (by omega) (by omega) (by omega) h0 h1
theorem MO.w6 (M : MO h m v se g gl) {i : Int} (x : Int) (h0 : 0 ≤ i) (h1 : i < 14) : ∃ h', sI 0 h (m + 6) (I i) (I x) = some h' ∧ MO h' m v se (uf g 6 (up (g 6) i x)) gl ∧ Fr m (m + 24) h h' := M.setA (a := 6) (by omega) (by omega) (by omega) (by omega) h0 h1
theorem MO.w7 (M : MO h m v se g gl) {i : Int} (x : Int) (h0 : 0 ≤ i) (h1 : i < 14) : ∃ h', sI 0 h (m + 7) (I i) (I x) = some h' ∧ MO h' m v se (uf g 7 (up (g 7) i x)) gl ∧ Fr m (m + 24) h h' := M.setA (a := 7) (by omega) (by omega) (by omega) (by omega) h0 h1
theorem MO.w8 (M : MO h m v se g gl) {i : Int} (x : Int) (h0 : 0 ≤ i) (h1 : i < 14) : ∃ h', sI 0 h (m + 8) (I i) (I x) = some h' ∧ MO h' m v se (uf g 8 (up (g 8) i x)) gl ∧ Fr m (m + 24) h h' := M.setA (a := 8) (by omega) (by omega) (by omega) (by omega) h0 h1
theorem MO.w9 (M : MO h m v se g gl) {i : Int} (x : Int) (h0 : 0 ≤ i) (h1 : i < 14) : ∃ h', sI 0 h (m + 9) (I i) (I x) = some h' ∧ MO h' m v se (uf g 9 (up (g 9) i x)) gl ∧ Fr m (m + 24) h h' := M.setA (a := 9) (by omega) (by omega) (by omega) (by omega) h0 h1
theorem MO.w10 (M : MO h m v se g gl) {i : Int} (x : Int) (h0 : 0 ≤ i) (h1 : i < 14) : ∃ h', sI 0 h (m + 10) (I i) (I x) = some h' ∧ MO h' m v se (uf g 10 (up (g 10) i x)) gl ∧ Fr m (m + 24) h h' := M.setA (a := 10) (by omega) (by omega) (by omega) (by omega) h0 h1
theorem MO.w11 (M : MO h m v se g gl) {i : Int} (x : Int) (h0 : 0 ≤ i) (h1 : i < 168) : ∃ h', sI 0 h (m + 11) (I i) (I x) = some h' ∧ MO h' m v se (uf g 11 (up (g 11) i x)) gl ∧ Fr m (m + 24) h h' := M.setA (a := 11) (by omega) (by omega) (by omega) (by omega) h0 h1
theorem MO.w12 (M : MO h m v se g gl) {i : Int} (x : Int) (h0 : 0 ≤ i) (h1 : i < 14) : ∃ h', sI 0 h (m + 12) (I i) (I x) = some h' ∧ MO h' m v se (uf g 12 (up (g 12) i x)) gl ∧ Fr m (m + 24) h h' := M.setA (a := 12) (by omega) (by omega) (by omega) (by omega) h0 h1
theorem MO.w13 (M : MO h m v se g gl) {i : Int} (x : Int) (h0 : 0 ≤ i) (h1 : i < 14) : ∃ h', sI 0 h (m + 13) (I i) (I x) = some h' ∧ MO h' m v se (uf g 13 (up (g 13) i x)) gl ∧ Fr m (m + 24) h h' := M.setA (a := 13) (by omega) (by omega) (by omega) (by omega) h0 h1
theorem MO.w14 (M : MO h m v se g gl) {i : Int} (x : Int) (h0 : 0 ≤ i) (h1 : i < 400) : ∃ h', sI 0 h (m + 14) (I i) (I x) = some h' ∧ MO h' m v se (uf g 14 (up (g 14) i x)) gl ∧ Fr m (m + 24) h h' := M.setA (a := 14) (by omega) (by omega) (by omega) (by omega) h0 h1
theorem MO.w17 (M : MO h m v se g gl) {i : Int} (x : Int) (h0 : 0 ≤ i) (h1 : i < 90) : ∃ h', sI 0 h (m + 17) (I i) (I x) = some h' ∧ MO h' m v se (uf g 17 (up (g 17) i x)) gl ∧ Fr m (m + 24) h h' := M.setA (a := 17) (by omega) (by omega) (by omega) (by omega) h0 h1
theorem MO.w18 (M : MO h m v se g gl) {i : Int} (x : Int) (h0 : 0 ≤ i) (h1 : i < 90) : ∃ h', sI 0 h (m + 18) (I i) (I x) = some h' ∧ MO h' m v se (uf g 18 (up (g 18) i x)) gl ∧ Fr m (m + 24) h h' := M.setA (a := 18) (by omega) (by omega) (by omega) (by omega) h0 h1
theorem MO.w19 (M : MO h m v se g gl) {i : Int} (x : Int) (h0 : 0 ≤ i) (h1 : i < 6) : ∃ h', sI 0 h (m + 19) (I i) (I x) = some h' ∧ MO h' m v se (uf g 19 (up (g 19) i x)) gl ∧ Fr m (m + 24) h h' := M.setA (a := 19) (by omega) (by omega) (by omega) (by omega) h0 h1
theorem MO.w20 (M : MO h m v se g gl) {i : Int} (x : Int) (h0 : 0 ≤ i) (h1 : i < 6) : ∃ h', sI 0 h (m + 20) (I i) (I x) = some h' ∧ MO h' m v se (uf g 20 (up (g 20) i x)) gl ∧ Fr m (m + 24) h h' := M.setA (a := 20) (by omega) (by omega) (by omega) (by omega) h0 h1
theorem MO.w21 (M : MO h m v se g gl) {i : Int} (x : Int) (h0 : 0 ≤ i) (h1 : i < 8) : ∃ h', sI 0 h (m + 21) (I i) (I x) = some h' ∧ MO h' m v se (uf g 21 (up (g 21) i x)) gl ∧ Fr m (m + 24) h h' := M.setA (a := 21) (by omega) (by omega) (by omega) (by omega) h0 h1
theorem MO.w22 (M : MO h m v se g gl) {i : Int} (x : Int) (h0 : 0 ≤ i) (h1 : i < 20280) : ∃ h', sI 0 h (m + 22) (I i) (I x) = some h' ∧ MO h' m v se (uf g 22 (up (g 22) i x)) gl ∧ Fr m (m + 24) h h' := M.setA (a := 22) (by omega) (by omega) (by omega) (by omega) h0 h1
theorem MO.w23 (M : MO h m v se g gl) {i : Int} (x : Int) (h0 : 0 ≤ i) (h1 : i < 4) : ∃ h', sI 3 h (m + 23) (I i) (I x) = some h' ∧ MO h' m v se (uf g 23 (up (g 23) i x)) gl ∧ Fr m (m + 24) h h' := M.setA (a := 23) (by omega) (by omega) (by omega) (by omega) h0 h1
theorem MO.s2 (M : MO h m v se g gl) (x : Int) : ∃ h', fS 9 2 h m (.int (I x)) = some h' ∧ MO h' m (us v 2 x) se g gl ∧ Fr m (m + 24) h h' := M.setF rfl (by omega)
theorem MO.s14 (M : MO h m v se g gl) (x : Int) : ∃ h', fS 9 14 h m (.int (I x)) = some h' ∧ MO h' m (us v 14 x) se g gl ∧ Fr m (m + 24) h h' := M.setF rfl (by omega)
theorem MO.s15 (M : MO h m v se g gl) (x : Int) : ∃ h', fS 9 15 h m (.int (I x)) = some h' ∧ MO h' m (us v 15 x) se g gl ∧ Fr m (m + 24) h h' := M.setF rfl (by omega)
theorem MO.s16 (M : MO h m v se g gl) (x : Int) : ∃ h', fS 9 16 h m (.int (I x)) = some h' ∧ MO h' m (us v 16 x) se g gl ∧ Fr m (m + 24) h h' := M.setF rfl (by omega)
theorem MO.s17 (M : MO h m v se g gl) (x : Int) : ∃ h', fS 9 17 h m (.int (I x)) = some h' ∧ MO h' m (us v 17 x) se g gl ∧ Fr m (m + 24) h h' := M.setF rfl (by omega)
theorem MO.s18 (M : MO h m v se g gl) (x : Int) : ∃ h', fS 9 18 h m (.int (I x)) = some h' ∧ MO h' m (us v 18 x) se g gl ∧ Fr m (m + 24) h h' := M.setF rfl (by omega)
theorem MO.s19 (M : MO h m v se g gl) (x : Int) : ∃ h', fS 9 19 h m (.int (I x)) = some h' ∧ MO h' m (us v 19 x) se g gl ∧ Fr m (m + 24) h h' := M.setF rfl (by omega)
theorem MO.s20 (M : MO h m v se g gl) (x : Int) : ∃ h', fS 9 20 h m (.int (I x)) = some h' ∧ MO h' m (us v 20 x) se g gl ∧ Fr m (m + 24) h h' := M.setF rfl (by omega)
theorem MO.s21 (M : MO h m v se g gl) (x : Int) : ∃ h', fS 9 21 h m (.int (I x)) = some h' ∧ MO h' m (us v 21 x) se g gl ∧ Fr m (m + 24) h h' := M.setF rfl (by omega)
theorem MO.s22 (M : MO h m v se g gl) (x : Int) : ∃ h', fS 9 22 h m (.int (I x)) = some h' ∧ MO h' m (us v 22 x) se g gl ∧ Fr m (m + 24) h h' := M.setF rfl (by omega)
theorem MO.s24 (M : MO h m v se g gl) (x : Int) : ∃ h', fS 9 24 h m (.int (I x)) = some h' ∧ MO h' m (us v 24 x) se g gl ∧ Fr m (m + 24) h h' := M.setF rfl (by omega)
theorem MO.s26 (M : MO h m v se g gl) (x : Int) : ∃ h', fS 9 26 h m (.int (I x)) = some h' ∧ MO h' m (us v 26 x) se g gl ∧ Fr m (m + 24) h h' := M.setF rfl (by omega)
theorem MO.s30 (M : MO h m v se g gl) (x : Int64) : ∃ h', fS 9 30 h m (.long x) = some h' ∧ MO h' m v x g gl ∧ Fr m (m + 24) h h' := M.setF rfl (by omega)
end
