/-! the row and the tables behind each call that writes (gen42.py) -/
section
variable {r : Int → Int} {c : Nat → Int → Int}
theorem RI_stuff {y co : Int} (R : RI r) (n : r 1 < 10) (y0 : 1800 ≤ y) (y1 : y ≤ 1999) (q0 : 1 ≤ co) (q1 : co ≤ 99) : RI (rStuff r y co) := by
  have b := R.1
  have ev : ∀ k, (k ≠ 1 ∧ (k < 10 + 2 * r 1 ∨ 10 + 2 * r 1 + 2 ≤ k)) → (rStuff r y co) k = r k := fun k hk => by simp (disch := omega) only [rStuff, up_ne]
  have vn : (rStuff r y co) 1 = r 1 + 1 := up_eq
  have a0 : (rStuff r y co) (10 + 2 * r 1) = y := by simp (disch := omega) only [rStuff, up_ne, up_eq]
  have a1 : (rStuff r y co) (10 + 2 * r 1 + 1) = co := by simp (disch := omega) only [rStuff, up_ne, up_eq]
  generalize rStuff r y co = r' at ev vn a0 a1 ⊢
  have z0 := ev 0 (by omega)
  have z2 := ev 2 (by omega)
  have z3 := ev 3 (by omega)
  have z4 := ev 4 (by omega)
  have z5 := ev 5 (by omega)
  have z6 := ev 6 (by omega)
  have z7 := ev 7 (by omega)
  have z8 := ev 8 (by omega)
  exact ⟨by omega, (fun k k0 k1 => by
    by_cases e : k = r 1
    · subst e; rw [a0, a1]; omega
    · rw [ev (10 + 2 * k) (by omega), ev (10 + 2 * k + 1) (by omega)]; exact R.2.1 k k0 (by omega)), R3s R z2 (fun k k0 k1 => ev k (by omega)), R4s R z3 (fun k k0 k1 => ev k (by omega)), R5s R (by omega) (by omega) z4 (fun k k0 k1 => ev k (by omega)), R6s R z4 (fun k k0 k1 => ev k (by omega)), R7s R (by omega) z5 (fun k k0 k1 => ev k (by omega)), R8s R (by omega) z6 (fun k k0 k1 => ev k (by omega)), R9s R (by omega) (by omega) (by omega) z7 (fun k k0 k1 => ev k (by omega)), R10s R z7 (fun k k0 k1 => ev k (by omega)), R11s R z8 (fun k k0 k1 => ev k (by omega))⟩
theorem CW_stuff {y co : Int} (C : CW r c) (n : r 1 < 10) (y0 : 1800 ≤ y) (y1 : y ≤ 1999) (q0 : 1 ≤ co) (q1 : co ≤ 99) {X : Int → Int} (hX : ∀ k, 0 ≤ k → k < 2 * r 1 → X k = c 0 k) (hX0 : X (2 * r 1) = y) (hX1 : X (2 * r 1 + 1) = co) : CW (rStuff r y co) (uf c 0 X) := by
  have R := C.1
  have R' := RI_stuff R n y0 y1 q0 q1
  have b := R.1
  have ev : ∀ k, (k ≠ 1 ∧ (k < 10 + 2 * r 1 ∨ 10 + 2 * r 1 + 2 ≤ k)) → (rStuff r y co) k = r k := fun k hk => by simp (disch := omega) only [rStuff, up_ne]
  have vn : (rStuff r y co) 1 = r 1 + 1 := up_eq
  have a0 : (rStuff r y co) (10 + 2 * r 1) = y := by simp (disch := omega) only [rStuff, up_ne, up_eq]
  have a1 : (rStuff r y co) (10 + 2 * r 1 + 1) = co := by simp (disch := omega) only [rStuff, up_ne, up_eq]
  generalize rStuff r y co = r' at ev vn a0 a1 R' ⊢
  have z0 := ev 0 (by omega)
  have z2 := ev 2 (by omega)
  have z3 := ev 3 (by omega)
  have z4 := ev 4 (by omega)
  have z5 := ev 5 (by omega)
  have z6 := ev 6 (by omega)
  have z7 := ev 7 (by omega)
  have z8 := ev 8 (by omega)
  exact ⟨R', (fun k k0 k1 => by
    by_cases e : k < 2 * r 1
    · rw [ev (10 + k) (by omega)]; exact (hX k k0 e).trans (C.2.1 k k0 e)
    · by_cases e2 : k = 2 * r 1
      · subst e2; rw [a0]; exact hX0
      · have e3 : k = 2 * r 1 + 1 := by omega
        subst e3; rw [← Int.add_assoc, a1]; exact hX1), C3s C z2 rfl rfl (fun k k0 k1 => ev k (by omega)), C4s C z3 rfl rfl (fun k k0 k1 => ev k (by omega)), C5s C z4 rfl (fun k k0 k1 => ev k (by omega)), C6s C z5 rfl rfl (fun k k0 k1 => ev k (by omega)), C7s C (by omega) z6 rfl (fun k k0 k1 => ev k (by omega)) (fun k k0 k1 => ev _ (by omega)), C8s C z7 rfl (fun k k0 k1 => ev k (by omega)), C9s C z8 rfl (fun k k0 k1 => ev k (by omega))⟩
theorem RI_truth {d l : Int} (R : RI r) (n : r 2 < 200) (y0 : 0 ≤ d) (y1 : d ≤ 9999) (q0 : 0 ≤ l) (q1 : l ≤ 99) : RI (rTruth r d l) := by
  have b := R.1
  have ev : ∀ k, (k ≠ 2 ∧ (k < 30 + 2 * r 2 ∨ 30 + 2 * r 2 + 2 ≤ k)) → (rTruth r d l) k = r k := fun k hk => by simp (disch := omega) only [rTruth, up_ne]
  have vn : (rTruth r d l) 2 = r 2 + 1 := up_eq
  have a0 : (rTruth r d l) (30 + 2 * r 2) = d := by simp (disch := omega) only [rTruth, up_ne, up_eq]
  have a1 : (rTruth r d l) (30 + 2 * r 2 + 1) = l := by simp (disch := omega) only [rTruth, up_ne, up_eq]
  generalize rTruth r d l = r' at ev vn a0 a1 ⊢
  have z0 := ev 0 (by omega)
  have z1 := ev 1 (by omega)
  have z3 := ev 3 (by omega)
  have z4 := ev 4 (by omega)
  have z5 := ev 5 (by omega)
  have z6 := ev 6 (by omega)
  have z7 := ev 7 (by omega)
  have z8 := ev 8 (by omega)
  exact ⟨by omega, R2s R z1 (fun k k0 k1 => ev k (by omega)), (fun k k0 k1 => by
    by_cases e : k = r 2
    · subst e; rw [a0, a1]; omega
    · rw [ev (30 + 2 * k) (by omega), ev (30 + 2 * k + 1) (by omega)]; exact R.2.2.1 k k0 (by omega)), R4s R z3 (fun k k0 k1 => ev k (by omega)), R5s R (by omega) (by omega) z4 (fun k k0 k1 => ev k (by omega)), R6s R z4 (fun k k0 k1 => ev k (by omega)), R7s R (by omega) z5 (fun k k0 k1 => ev k (by omega)), R8s R (by omega) z6 (fun k k0 k1 => ev k (by omega)), R9s R (by omega) (by omega) (by omega) z7 (fun k k0 k1 => ev k (by omega)), R10s R z7 (fun k k0 k1 => ev k (by omega)), R11s R z8 (fun k k0 k1 => ev k (by omega))⟩
theorem CW_truth {d l : Int} (C : CW r c) (n : r 2 < 200) (y0 : 0 ≤ d) (y1 : d ≤ 9999) (q0 : 0 ≤ l) (q1 : l ≤ 99) {X Y : Int → Int} (hno : Tl r d = -1) (hXY : ∀ x, pof X Y (r 2 + 1) x = if x = d then l else pof (c 1) (c 2) (r 2) x) : CW (rTruth r d l) (uf (uf c 1 X) 2 Y) := by
  have R := C.1
  have R' := RI_truth R n y0 y1 q0 q1
  have b := R.1
  have ev : ∀ k, (k ≠ 2 ∧ (k < 30 + 2 * r 2 ∨ 30 + 2 * r 2 + 2 ≤ k)) → (rTruth r d l) k = r k := fun k hk => by simp (disch := omega) only [rTruth, up_ne]
  have vn : (rTruth r d l) 2 = r 2 + 1 := up_eq
  have a0 : (rTruth r d l) (30 + 2 * r 2) = d := by simp (disch := omega) only [rTruth, up_ne, up_eq]
  have a1 : (rTruth r d l) (30 + 2 * r 2 + 1) = l := by simp (disch := omega) only [rTruth, up_ne, up_eq]
  generalize rTruth r d l = r' at ev vn a0 a1 R' ⊢
  have z0 := ev 0 (by omega)
  have z1 := ev 1 (by omega)
  have z3 := ev 3 (by omega)
  have z4 := ev 4 (by omega)
  have z5 := ev 5 (by omega)
  have z6 := ev 6 (by omega)
  have z7 := ev 7 (by omega)
  have z8 := ev 8 (by omega)
  exact ⟨R', C2s C z1 rfl (fun k k0 k1 => ev k (by omega)), (fun x => by
    show pof X Y (r' 2) x = _
    rw [vn, hXY x, C.2.2.1 x]
    have e : Tl r' x = if Tl r x = -1 then (if d = x then l else -1) else Tl r x := by
      have e1 : Tl r' x = fst (fun k => decide (r' (30 + 2 * k) = x)) (fun k => r' (30 + 2 * k + 1)) ((r 2).toNat + 1) 0 := by
        unfold Tl; rw [vn, show (r 2 + 1).toNat = (r 2).toNat + 1 by omega]
      have e2 : fst (fun k => decide (r' (30 + 2 * k) = x)) (fun k => r' (30 + 2 * k + 1)) (r 2).toNat 0 = Tl r x := fst_cong _ _ fun j j0 j1 => by
        rw [ev (30 + 2 * j) (by omega), ev (30 + 2 * j + 1) (by omega)]; exact ⟨rfl, rfl⟩
      rw [e1, fst_last _ _ _ _ (fun j j0 j1 => by rw [ev (30 + 2 * j + 1) (by omega)]; have := R.2.2.1 j (by omega) (by omega); omega), e2, show (0 : Int) + ((r 2).toNat : Nat) = r 2 by omega]
      simp only [a0, a1, decide_eq_true_eq]
    rw [e]
    by_cases c1 : x = d
    · subst c1; rw [if_pos rfl, if_pos hno, if_pos rfl]
    · rw [if_neg c1, if_neg (show ¬ d = x from fun z => c1 z.symm)]
      by_cases c2 : Tl r x = -1
      · rw [if_pos c2, c2]
      · rw [if_neg c2]), C4s C z3 rfl rfl (fun k k0 k1 => ev k (by omega)), C5s C z4 rfl (fun k k0 k1 => ev k (by omega)), C6s C z5 rfl rfl (fun k k0 k1 => ev k (by omega)), C7s C (by omega) z6 rfl (fun k k0 k1 => ev k (by omega)) (fun k k0 k1 => ev _ (by omega)), C8s C z7 rfl (fun k k0 k1 => ev k (by omega)), C9s C z8 rfl (fun k k0 k1 => ev k (by omega))⟩
theorem RI_fact {s d l : Int} (R : RI r) (n : r 3 < 300) (s0 : 0 ≤ s) (s1 : s ≤ 5) (y0 : 0 ≤ d) (y1 : d ≤ 9999) (q0 : 0 ≤ l) (q1 : l ≤ 99) : RI (rFact r s d l) := by
  have b := R.1
  have ev : ∀ k, (k ≠ 3 ∧ (k < 430 + 3 * r 3 ∨ 430 + 3 * r 3 + 3 ≤ k)) → (rFact r s d l) k = r k := fun k hk => by simp (disch := omega) only [rFact, up_ne]
  have vn : (rFact r s d l) 3 = r 3 + 1 := up_eq
  have a0 : (rFact r s d l) (430 + 3 * r 3) = s := by simp (disch := omega) only [rFact, up_ne, up_eq]
  have a1 : (rFact r s d l) (430 + 3 * r 3 + 1) = d := by simp (disch := omega) only [rFact, up_ne, up_eq]
  have a2 : (rFact r s d l) (430 + 3 * r 3 + 2) = l := by simp (disch := omega) only [rFact, up_ne, up_eq]
  generalize rFact r s d l = r' at ev vn a0 a1 a2 ⊢
  have z0 := ev 0 (by omega)
  have z1 := ev 1 (by omega)
  have z2 := ev 2 (by omega)
  have z4 := ev 4 (by omega)
  have z5 := ev 5 (by omega)
  have z6 := ev 6 (by omega)
  have z7 := ev 7 (by omega)
  have z8 := ev 8 (by omega)
  exact ⟨by omega, R2s R z1 (fun k k0 k1 => ev k (by omega)), R3s R z2 (fun k k0 k1 => ev k (by omega)), (fun k k0 k1 => by
    by_cases e : k = r 3
    · subst e; rw [a0, a1, a2]; omega
    · rw [ev (430 + 3 * k) (by omega), ev (430 + 3 * k + 1) (by omega), ev (430 + 3 * k + 2) (by omega)]; exact R.2.2.2.1 k k0 (by omega)), R5s R (by omega) (by omega) z4 (fun k k0 k1 => ev k (by omega)), R6s R z4 (fun k k0 k1 => ev k (by omega)), R7s R (by omega) z5 (fun k k0 k1 => ev k (by omega)), R8s R (by omega) z6 (fun k k0 k1 => ev k (by omega)), R9s R (by omega) (by omega) (by omega) z7 (fun k k0 k1 => ev k (by omega)), R10s R z7 (fun k k0 k1 => ev k (by omega)), R11s R z8 (fun k k0 k1 => ev k (by omega))⟩
theorem CW_fact {s d l : Int} (C : CW r c) (n : r 3 < 300) (s0 : 0 ≤ s) (s1 : s ≤ 5) (y0 : 0 ≤ d) (y1 : d ≤ 9999) (q0 : 0 ≤ l) (q1 : l ≤ 99) {X Y : Int → Int} (hno : Fl r s d = -1) (hXY : ∀ x, pof X Y (r 3 + 1) x = if x = s * 10000 + d then l else pof (c 3) (c 4) (r 3) x) : CW (rFact r s d l) (uf (uf c 3 X) 4 Y) := by
  have R := C.1
  have R' := RI_fact R n s0 s1 y0 y1 q0 q1
  have b := R.1
  have ev : ∀ k, (k ≠ 3 ∧ (k < 430 + 3 * r 3 ∨ 430 + 3 * r 3 + 3 ≤ k)) → (rFact r s d l) k = r k := fun k hk => by simp (disch := omega) only [rFact, up_ne]
  have vn : (rFact r s d l) 3 = r 3 + 1 := up_eq
  have a0 : (rFact r s d l) (430 + 3 * r 3) = s := by simp (disch := omega) only [rFact, up_ne, up_eq]
  have a1 : (rFact r s d l) (430 + 3 * r 3 + 1) = d := by simp (disch := omega) only [rFact, up_ne, up_eq]
  have a2 : (rFact r s d l) (430 + 3 * r 3 + 2) = l := by simp (disch := omega) only [rFact, up_ne, up_eq]
  generalize rFact r s d l = r' at ev vn a0 a1 a2 R' ⊢
  have z0 := ev 0 (by omega)
  have z1 := ev 1 (by omega)
  have z2 := ev 2 (by omega)
  have z4 := ev 4 (by omega)
  have z5 := ev 5 (by omega)
  have z6 := ev 6 (by omega)
  have z7 := ev 7 (by omega)
  have z8 := ev 8 (by omega)
  exact ⟨R', C2s C z1 rfl (fun k k0 k1 => ev k (by omega)), C3s C z2 rfl rfl (fun k k0 k1 => ev k (by omega)), (fun t x t0 t1 x0 x1 => by
    show pof X Y (r' 3) (t * 10000 + x) = _
    rw [vn, hXY (t * 10000 + x), C.2.2.2.1 t x t0 t1 x0 x1]
    have e : Fl r' t x = if Fl r t x = -1 then (if s = t ∧ d = x then l else -1) else Fl r t x := by
      have e1 : Fl r' t x = fst (fun k => decide (r' (430 + 3 * k) = t ∧ r' (430 + 3 * k + 1) = x)) (fun k => r' (430 + 3 * k + 2)) ((r 3).toNat + 1) 0 := by
        unfold Fl; rw [vn, show (r 3 + 1).toNat = (r 3).toNat + 1 by omega]
      have e2 : fst (fun k => decide (r' (430 + 3 * k) = t ∧ r' (430 + 3 * k + 1) = x)) (fun k => r' (430 + 3 * k + 2)) (r 3).toNat 0 = Fl r t x := fst_cong _ _ fun j j0 j1 => by
        rw [ev (430 + 3 * j) (by omega), ev (430 + 3 * j + 1) (by omega), ev (430 + 3 * j + 2) (by omega)]; exact ⟨rfl, rfl⟩
      rw [e1, fst_last _ _ _ _ (fun j j0 j1 => by rw [ev (430 + 3 * j + 2) (by omega)]; have := R.2.2.2.1 j (by omega) (by omega); omega), e2, show (0 : Int) + ((r 3).toNat : Nat) = r 3 by omega]
      simp only [a0, a1, a2, decide_eq_true_eq]
    rw [e]
    by_cases c1 : t * 10000 + x = s * 10000 + d
    · have ct : t = s := by omega
      have cx : x = d := by omega
      subst ct cx; rw [if_pos rfl, if_pos hno, if_pos ⟨rfl, rfl⟩]
    · rw [if_neg c1, if_neg (show ¬ (s = t ∧ d = x) by omega)]
      by_cases c2 : Fl r t x = -1
      · rw [if_pos c2, c2]
      · rw [if_neg c2]), C5s C z4 rfl (fun k k0 k1 => ev k (by omega)), C6s C z5 rfl rfl (fun k k0 k1 => ev k (by omega)), C7s C (by omega) z6 rfl (fun k k0 k1 => ev k (by omega)) (fun k k0 k1 => ev _ (by omega)), C8s C z7 rfl (fun k k0 k1 => ev k (by omega)), C9s C z8 rfl (fun k k0 k1 => ev k (by omega))⟩
theorem RI_piece {so a_ b_ d_ e_ f_ st pr : Int} (R : RI r) (n : r 4 < 90) (o0 : 0 ≤ so) (o1 : so ≤ 2) (a0 : 0 ≤ a_) (a1 : a_ ≤ 99) (b0 : 0 ≤ b_) (b1 : b_ ≤ 99) (d0 : 0 ≤ d_) (d1 : d_ ≤ 99) (e0 : 0 ≤ e_) (e1 : e_ ≤ 99) (f0 : 0 ≤ f_) (f1 : f_ ≤ 99) (t0 : 0 ≤ st) (t1 : st < 2 ^ (r 1).toNat) (p0 : 0 ≤ pr) (p1 : pr ≤ 9999) : RI (rPiece r so a_ b_ d_ e_ f_ st pr) := by
  have b := R.1
  have ev : ∀ k, (k ≠ 4 ∧ (k < 1330 + 10 * r 4 ∨ 1330 + 10 * r 4 + 10 ≤ k)) → (rPiece r so a_ b_ d_ e_ f_ st pr) k = r k := fun k hk => by simp (disch := omega) only [rPiece, up_ne]
  have vn : (rPiece r so a_ b_ d_ e_ f_ st pr) 4 = r 4 + 1 := up_eq
  have a0 : (rPiece r so a_ b_ d_ e_ f_ st pr) (1330 + 10 * r 4) = so := by simp (disch := omega) only [rPiece, up_ne, up_eq]
  have a1 : (rPiece r so a_ b_ d_ e_ f_ st pr) (1330 + 10 * r 4 + 1) = a_ := by simp (disch := omega) only [rPiece, up_ne, up_eq]
  have a2 : (rPiece r so a_ b_ d_ e_ f_ st pr) (1330 + 10 * r 4 + 2) = b_ := by simp (disch := omega) only [rPiece, up_ne, up_eq]
  have a3 : (rPiece r so a_ b_ d_ e_ f_ st pr) (1330 + 10 * r 4 + 3) = d_ := by simp (disch := omega) only [rPiece, up_ne, up_eq]
  have a4 : (rPiece r so a_ b_ d_ e_ f_ st pr) (1330 + 10 * r 4 + 4) = e_ := by simp (disch := omega) only [rPiece, up_ne, up_eq]
  have a5 : (rPiece r so a_ b_ d_ e_ f_ st pr) (1330 + 10 * r 4 + 5) = f_ := by simp (disch := omega) only [rPiece, up_ne, up_eq]
  have a6 : (rPiece r so a_ b_ d_ e_ f_ st pr) (1330 + 10 * r 4 + 6) = st := by simp (disch := omega) only [rPiece, up_ne, up_eq]
  have a7 : (rPiece r so a_ b_ d_ e_ f_ st pr) (1330 + 10 * r 4 + 7) = pr := by simp (disch := omega) only [rPiece, up_ne, up_eq]
  have a8 : (rPiece r so a_ b_ d_ e_ f_ st pr) (1330 + 10 * r 4 + 8) = r 0 := by simp (disch := omega) only [rPiece, up_ne, up_eq]
  have a9 : (rPiece r so a_ b_ d_ e_ f_ st pr) (1330 + 10 * r 4 + 9) = 0 := by simp (disch := omega) only [rPiece, up_ne, up_eq]
  generalize rPiece r so a_ b_ d_ e_ f_ st pr = r' at ev vn a0 a1 a2 a3 a4 a5 a6 a7 a8 a9 ⊢
  have z0 := ev 0 (by omega)
  have z1 := ev 1 (by omega)
  have z2 := ev 2 (by omega)
  have z3 := ev 3 (by omega)
  have z5 := ev 5 (by omega)
  have z6 := ev 6 (by omega)
  have z7 := ev 7 (by omega)
  have z8 := ev 8 (by omega)
  exact ⟨by omega, R2s R z1 (fun k k0 k1 => ev k (by omega)), R3s R z2 (fun k k0 k1 => ev k (by omega)), R4s R z3 (fun k k0 k1 => ev k (by omega)), (fun k k0 k1 => by
    by_cases e : k = r 4
    · subst e
      rw [a0, a6, a7, a8, a9, z0, z1]
      refine ⟨by omega, fun c c0 c1 => ?_, ⟨t0, t1⟩, by omega, by omega, by omega⟩
      have cc : c = 1 ∨ c = 2 ∨ c = 3 ∨ c = 4 ∨ c = 5 := by omega
      rcases cc with e | e | e | e | e <;> subst e
      · rw [a1]; omega
      · rw [a2]; omega
      · rw [a3]; omega
      · rw [a4]; omega
      · rw [a5]; omega
    · have x := pi_rng R k0 (k := k) (by omega)
      rw [ev (1330 + 10 * k) (by omega), ev (1330 + 10 * k + 6) (by omega), ev (1330 + 10 * k + 7) (by omega), ev (1330 + 10 * k + 8) (by omega), ev (1330 + 10 * k + 9) (by omega), z0, z1]
      exact ⟨x.1, fun c c0 c1 => by rw [ev (1330 + 10 * k + c) (by omega)]; exact x.2.1 c c0 c1, x.2.2⟩), (fun j k j0 j1 k1 => by
    by_cases e : k = r 4
    · subst e
      rw [a8]
      by_cases e2 : j = r 4
      · subst e2; rw [a8]; omega
      · have x := (pi_rng R j0 (k := j) (by omega)).2.2.2.2.1
        rw [ev (1330 + 10 * j + 8) (by omega)]; omega
    · rw [ev (1330 + 10 * j + 8) (by omega), ev (1330 + 10 * k + 8) (by omega)]
      exact R.2.2.2.2.2.1 j k j0 j1 (by omega)), R7s R (by omega) z5 (fun k k0 k1 => ev k (by omega)), R8s R (by omega) z6 (fun k k0 k1 => ev k (by omega)), R9s R (by omega) (by omega) (by omega) z7 (fun k k0 k1 => ev k (by omega)), R10s R z7 (fun k k0 k1 => ev k (by omega)), R11s R z8 (fun k k0 k1 => ev k (by omega))⟩
theorem CW_piece {so a_ b_ d_ e_ f_ st pr : Int} (C : CW r c) (n : r 4 < 90) (o0 : 0 ≤ so) (o1 : so ≤ 2) (a0 : 0 ≤ a_) (a1 : a_ ≤ 99) (b0 : 0 ≤ b_) (b1 : b_ ≤ 99) (d0 : 0 ≤ d_) (d1 : d_ ≤ 99) (e0 : 0 ≤ e_) (e1 : e_ ≤ 99) (f0 : 0 ≤ f_) (f1 : f_ ≤ 99) (t0 : 0 ≤ st) (t1 : st < 2 ^ (r 1).toNat) (p0 : 0 ≤ pr) (p1 : pr ≤ 9999) {X : Int → Int} (hX : ∀ k, 0 ≤ k → k < 10 * r 4 → X k = c 5 k) (hX0 : X (10 * r 4) = so) (hX1 : X (10 * r 4 + 1) = a_) (hX2 : X (10 * r 4 + 2) = b_) (hX3 : X (10 * r 4 + 3) = d_) (hX4 : X (10 * r 4 + 4) = e_) (hX5 : X (10 * r 4 + 5) = f_) (hX6 : X (10 * r 4 + 6) = st) (hX7 : X (10 * r 4 + 7) = pr) (hX8 : X (10 * r 4 + 8) = r 0) (hX9 : X (10 * r 4 + 9) = 0) : CW (rPiece r so a_ b_ d_ e_ f_ st pr) (uf c 5 X) := by
  have R := C.1
  have R' := RI_piece R n o0 o1 a0 a1 b0 b1 d0 d1 e0 e1 f0 f1 t0 t1 p0 p1
  have b := R.1
  have ev : ∀ k, (k ≠ 4 ∧ (k < 1330 + 10 * r 4 ∨ 1330 + 10 * r 4 + 10 ≤ k)) → (rPiece r so a_ b_ d_ e_ f_ st pr) k = r k := fun k hk => by simp (disch := omega) only [rPiece, up_ne]
  have vn : (rPiece r so a_ b_ d_ e_ f_ st pr) 4 = r 4 + 1 := up_eq
  have a0 : (rPiece r so a_ b_ d_ e_ f_ st pr) (1330 + 10 * r 4) = so := by simp (disch := omega) only [rPiece, up_ne, up_eq]
  have a1 : (rPiece r so a_ b_ d_ e_ f_ st pr) (1330 + 10 * r 4 + 1) = a_ := by simp (disch := omega) only [rPiece, up_ne, up_eq]
  have a2 : (rPiece r so a_ b_ d_ e_ f_ st pr) (1330 + 10 * r 4 + 2) = b_ := by simp (disch := omega) only [rPiece, up_ne, up_eq]
  have a3 : (rPiece r so a_ b_ d_ e_ f_ st pr) (1330 + 10 * r 4 + 3) = d_ := by simp (disch := omega) only [rPiece, up_ne, up_eq]
  have a4 : (rPiece r so a_ b_ d_ e_ f_ st pr) (1330 + 10 * r 4 + 4) = e_ := by simp (disch := omega) only [rPiece, up_ne, up_eq]
  have a5 : (rPiece r so a_ b_ d_ e_ f_ st pr) (1330 + 10 * r 4 + 5) = f_ := by simp (disch := omega) only [rPiece, up_ne, up_eq]
  have a6 : (rPiece r so a_ b_ d_ e_ f_ st pr) (1330 + 10 * r 4 + 6) = st := by simp (disch := omega) only [rPiece, up_ne, up_eq]
  have a7 : (rPiece r so a_ b_ d_ e_ f_ st pr) (1330 + 10 * r 4 + 7) = pr := by simp (disch := omega) only [rPiece, up_ne, up_eq]
  have a8 : (rPiece r so a_ b_ d_ e_ f_ st pr) (1330 + 10 * r 4 + 8) = r 0 := by simp (disch := omega) only [rPiece, up_ne, up_eq]
  have a9 : (rPiece r so a_ b_ d_ e_ f_ st pr) (1330 + 10 * r 4 + 9) = 0 := by simp (disch := omega) only [rPiece, up_ne, up_eq]
  generalize rPiece r so a_ b_ d_ e_ f_ st pr = r' at ev vn a0 a1 a2 a3 a4 a5 a6 a7 a8 a9 R' ⊢
  have z0 := ev 0 (by omega)
  have z1 := ev 1 (by omega)
  have z2 := ev 2 (by omega)
  have z3 := ev 3 (by omega)
  have z5 := ev 5 (by omega)
  have z6 := ev 6 (by omega)
  have z7 := ev 7 (by omega)
  have z8 := ev 8 (by omega)
  exact ⟨R', C2s C z1 rfl (fun k k0 k1 => ev k (by omega)), C3s C z2 rfl rfl (fun k k0 k1 => ev k (by omega)), C4s C z3 rfl rfl (fun k k0 k1 => ev k (by omega)), (fun k k0 k1 => by
    by_cases e : k < 10 * r 4
    · rw [ev (1330 + k) (by omega)]; exact (hX k k0 e).trans (C.2.2.2.2.1 k k0 e)
    · have cc : k = 10 * r 4 ∨ k = 10 * r 4 + 1 ∨ k = 10 * r 4 + 2 ∨ k = 10 * r 4 + 3 ∨ k = 10 * r 4 + 4 ∨ k = 10 * r 4 + 5 ∨ k = 10 * r 4 + 6 ∨ k = 10 * r 4 + 7 ∨ k = 10 * r 4 + 8 ∨ k = 10 * r 4 + 9 := by omega
      rcases cc with e | e | e | e | e | e | e | e | e | e <;> subst e
      · rw [a0]; exact hX0
      · rw [← Int.add_assoc, a1]; exact hX1
      · rw [← Int.add_assoc, a2]; exact hX2
      · rw [← Int.add_assoc, a3]; exact hX3
      · rw [← Int.add_assoc, a4]; exact hX4
      · rw [← Int.add_assoc, a5]; exact hX5
      · rw [← Int.add_assoc, a6]; exact hX6
      · rw [← Int.add_assoc, a7]; exact hX7
      · rw [← Int.add_assoc, a8]; exact hX8
      · rw [← Int.add_assoc, a9]; exact hX9), C6s C z5 rfl rfl (fun k k0 k1 => ev k (by omega)), C7s C (by omega) z6 rfl (fun k k0 k1 => ev k (by omega)) (fun k k0 k1 => ev _ (by omega)), C8s C z7 rfl (fun k k0 k1 => ev k (by omega)), C9s C z8 rfl (fun k k0 k1 => ev k (by omega))⟩
theorem RI_page {p d l : Int} (R : RI r) (n : r 5 < 400) (s0 : 0 ≤ p) (s1 : p < r 4) (y0 : 0 ≤ d) (y1 : d ≤ 9999) (q0 : 0 ≤ l) (q1 : l ≤ 99) : RI (rPage r p d l) := by
  have b := R.1
  have ev : ∀ k, (k ≠ 5 ∧ (k < 2230 + 3 * r 5 ∨ 2230 + 3 * r 5 + 3 ≤ k)) → (rPage r p d l) k = r k := fun k hk => by simp (disch := omega) only [rPage, up_ne]
  have vn : (rPage r p d l) 5 = r 5 + 1 := up_eq
  have a0 : (rPage r p d l) (2230 + 3 * r 5) = p := by simp (disch := omega) only [rPage, up_ne, up_eq]
  have a1 : (rPage r p d l) (2230 + 3 * r 5 + 1) = d := by simp (disch := omega) only [rPage, up_ne, up_eq]
  have a2 : (rPage r p d l) (2230 + 3 * r 5 + 2) = l := by simp (disch := omega) only [rPage, up_ne, up_eq]
  generalize rPage r p d l = r' at ev vn a0 a1 a2 ⊢
  have z0 := ev 0 (by omega)
  have z1 := ev 1 (by omega)
  have z2 := ev 2 (by omega)
  have z3 := ev 3 (by omega)
  have z4 := ev 4 (by omega)
  have z6 := ev 6 (by omega)
  have z7 := ev 7 (by omega)
  have z8 := ev 8 (by omega)
  exact ⟨by omega, R2s R z1 (fun k k0 k1 => ev k (by omega)), R3s R z2 (fun k k0 k1 => ev k (by omega)), R4s R z3 (fun k k0 k1 => ev k (by omega)), R5s R (by omega) (by omega) z4 (fun k k0 k1 => ev k (by omega)), R6s R z4 (fun k k0 k1 => ev k (by omega)), (fun k k0 k1 => by
    by_cases e : k = r 5
    · subst e; rw [a0, a1, a2]; omega
    · rw [ev (2230 + 3 * k) (by omega), ev (2230 + 3 * k + 1) (by omega), ev (2230 + 3 * k + 2) (by omega)]
      have x := pg_rng R k0 (k := k) (by omega)
      omega), R8s R (by omega) z6 (fun k k0 k1 => ev k (by omega)), R9s R (by omega) (by omega) (by omega) z7 (fun k k0 k1 => ev k (by omega)), R10s R z7 (fun k k0 k1 => ev k (by omega)), R11s R z8 (fun k k0 k1 => ev k (by omega))⟩
theorem CW_page {p d l : Int} (C : CW r c) (n : r 5 < 400) (s0 : 0 ≤ p) (s1 : p < r 4) (y0 : 0 ≤ d) (y1 : d ≤ 9999) (q0 : 0 ≤ l) (q1 : l ≤ 99) {X Y : Int → Int} (hXY : ∀ q : Int → Int → Int → Bool, cn (fun i => q (X i / 10000) (X i % 10000) (Y i)) (r 5 + 1).toNat 0 = cn (fun i => q (c 6 i / 10000) (c 6 i % 10000) (c 7 i)) (r 5).toNat 0 + (if q p d l = true then 1 else 0)) : CW (rPage r p d l) (uf (uf c 6 X) 7 Y) := by
  have R := C.1
  have R' := RI_page R n s0 s1 y0 y1 q0 q1
  have b := R.1
  have ev : ∀ k, (k ≠ 5 ∧ (k < 2230 + 3 * r 5 ∨ 2230 + 3 * r 5 + 3 ≤ k)) → (rPage r p d l) k = r k := fun k hk => by simp (disch := omega) only [rPage, up_ne]
  have vn : (rPage r p d l) 5 = r 5 + 1 := up_eq
  have a0 : (rPage r p d l) (2230 + 3 * r 5) = p := by simp (disch := omega) only [rPage, up_ne, up_eq]
  have a1 : (rPage r p d l) (2230 + 3 * r 5 + 1) = d := by simp (disch := omega) only [rPage, up_ne, up_eq]
  have a2 : (rPage r p d l) (2230 + 3 * r 5 + 2) = l := by simp (disch := omega) only [rPage, up_ne, up_eq]
  generalize rPage r p d l = r' at ev vn a0 a1 a2 R' ⊢
  have z0 := ev 0 (by omega)
  have z1 := ev 1 (by omega)
  have z2 := ev 2 (by omega)
  have z3 := ev 3 (by omega)
  have z4 := ev 4 (by omega)
  have z6 := ev 6 (by omega)
  have z7 := ev 7 (by omega)
  have z8 := ev 8 (by omega)
  exact ⟨R', C2s C z1 rfl (fun k k0 k1 => ev k (by omega)), C3s C z2 rfl rfl (fun k k0 k1 => ev k (by omega)), C4s C z3 rfl rfl (fun k k0 k1 => ev k (by omega)), C5s C z4 rfl (fun k k0 k1 => ev k (by omega)), (fun q => by
    show cn (fun i => q (X i / 10000) (X i % 10000) (Y i)) (r' 5).toNat 0 = _
    rw [vn, hXY q, C.2.2.2.2.2.1 q]
    have e1 : pc r' q = cn (fun k => q (r' (2230 + 3 * k)) (r' (2230 + 3 * k + 1)) (r' (2230 + 3 * k + 2))) ((r 5).toNat + 1) 0 := by
      unfold pc; rw [vn, show (r 5 + 1).toNat = (r 5).toNat + 1 by omega]
    have e2 : cn (fun k => q (r' (2230 + 3 * k)) (r' (2230 + 3 * k + 1)) (r' (2230 + 3 * k + 2))) (r 5).toNat 0 = pc r q := cn_cong _ _ fun j j0 j1 => by
      rw [ev (2230 + 3 * j) (by omega), ev (2230 + 3 * j + 1) (by omega), ev (2230 + 3 * j + 2) (by omega)]
    rw [e1, cn_last, e2, show (0 : Int) + ((r 5).toNat : Nat) = r 5 by omega]
    simp only [a0, a1, a2]), C7s C (by omega) z6 rfl (fun k k0 k1 => ev k (by omega)) (fun k k0 k1 => ev _ (by omega)), C8s C z7 rfl (fun k k0 k1 => ev k (by omega)), C9s C z8 rfl (fun k k0 k1 => ev k (by omega))⟩
theorem RI_look {rd p bt ys wk : Int} (R : RI r) (n : r 6 < 200) (s0 : 0 ≤ rd) (s1 : rd < 8) (p0 : 0 ≤ p) (p1 : p < r 4) (y0 : 0 ≤ bt) (y1 : bt ≤ 1) (q0 : 0 ≤ ys) (q1 : ys ≤ 1) (w0 : 0 ≤ wk) (w1 : wk ≤ 519) : RI (rLook r rd p bt ys wk) := by
  have b := R.1
  have ev : ∀ k, (k ≠ 6 ∧ (k < 3430 + 5 * r 6 ∨ 3430 + 5 * r 6 + 5 ≤ k)) → (rLook r rd p bt ys wk) k = r k := fun k hk => by simp (disch := omega) only [rLook, up_ne]
  have vn : (rLook r rd p bt ys wk) 6 = r 6 + 1 := up_eq
  have a0 : (rLook r rd p bt ys wk) (3430 + 5 * r 6) = rd := by simp (disch := omega) only [rLook, up_ne, up_eq]
  have a1 : (rLook r rd p bt ys wk) (3430 + 5 * r 6 + 1) = p := by simp (disch := omega) only [rLook, up_ne, up_eq]
  have a2 : (rLook r rd p bt ys wk) (3430 + 5 * r 6 + 2) = bt := by simp (disch := omega) only [rLook, up_ne, up_eq]
  have a3 : (rLook r rd p bt ys wk) (3430 + 5 * r 6 + 3) = ys := by simp (disch := omega) only [rLook, up_ne, up_eq]
  have a4 : (rLook r rd p bt ys wk) (3430 + 5 * r 6 + 4) = wk := by simp (disch := omega) only [rLook, up_ne, up_eq]
  generalize rLook r rd p bt ys wk = r' at ev vn a0 a1 a2 a3 a4 ⊢
  have z0 := ev 0 (by omega)
  have z1 := ev 1 (by omega)
  have z2 := ev 2 (by omega)
  have z3 := ev 3 (by omega)
  have z4 := ev 4 (by omega)
  have z5 := ev 5 (by omega)
  have z7 := ev 7 (by omega)
  have z8 := ev 8 (by omega)
  exact ⟨by omega, R2s R z1 (fun k k0 k1 => ev k (by omega)), R3s R z2 (fun k k0 k1 => ev k (by omega)), R4s R z3 (fun k k0 k1 => ev k (by omega)), R5s R (by omega) (by omega) z4 (fun k k0 k1 => ev k (by omega)), R6s R z4 (fun k k0 k1 => ev k (by omega)), R7s R (by omega) z5 (fun k k0 k1 => ev k (by omega)), (fun k k0 k1 => by
    by_cases e : k = r 6
    · subst e; rw [a0, a1, a2, a3, a4]; omega
    · rw [ev (3430 + 5 * k) (by omega), ev (3430 + 5 * k + 1) (by omega), ev (3430 + 5 * k + 2) (by omega), ev (3430 + 5 * k + 3) (by omega), ev (3430 + 5 * k + 4) (by omega)]
      have x := R.2.2.2.2.2.2.2.1 k k0 (by omega)
      omega), R9s R (by omega) (by omega) (by omega) z7 (fun k k0 k1 => ev k (by omega)), R10s R z7 (fun k k0 k1 => ev k (by omega)), R11s R z8 (fun k k0 k1 => ev k (by omega))⟩
theorem CW_look {rd p bt ys wk : Int} (C : CW r c) (n : r 6 < 200) (s0 : 0 ≤ rd) (s1 : rd < 8) (p0 : 0 ≤ p) (p1 : p < r 4) (y0 : 0 ≤ bt) (y1 : bt ≤ 1) (q0 : 0 ≤ ys) (q1 : ys ≤ 1) (w0 : 0 ≤ wk) (w1 : wk ≤ 519) {bs_ : Int} (b0 : 0 ≤ bs_) (b1 : bs_ < r 4) (hb : bt = if r (1330 + 10 * bs_) = 1 then 1 else 0) {X : Int → Int} (hX : ∀ k, 0 ≤ k → k < 4 * r 6 → X k = c 8 k) (hX0 : X (4 * r 6) = p) (hX1 : X (4 * r 6 + 1) = bs_) (hX2 : X (4 * r 6 + 2) = wk) (hX3 : X (4 * r 6 + 3) = ys) : CW (rLook r rd p bt ys wk) (uf c 8 X) := by
  have R := C.1
  have R' := RI_look R n s0 s1 p0 p1 y0 y1 q0 q1 w0 w1
  have b := R.1
  have ev : ∀ k, (k ≠ 6 ∧ (k < 3430 + 5 * r 6 ∨ 3430 + 5 * r 6 + 5 ≤ k)) → (rLook r rd p bt ys wk) k = r k := fun k hk => by simp (disch := omega) only [rLook, up_ne]
  have vn : (rLook r rd p bt ys wk) 6 = r 6 + 1 := up_eq
  have a0 : (rLook r rd p bt ys wk) (3430 + 5 * r 6) = rd := by simp (disch := omega) only [rLook, up_ne, up_eq]
  have a1 : (rLook r rd p bt ys wk) (3430 + 5 * r 6 + 1) = p := by simp (disch := omega) only [rLook, up_ne, up_eq]
  have a2 : (rLook r rd p bt ys wk) (3430 + 5 * r 6 + 2) = bt := by simp (disch := omega) only [rLook, up_ne, up_eq]
  have a3 : (rLook r rd p bt ys wk) (3430 + 5 * r 6 + 3) = ys := by simp (disch := omega) only [rLook, up_ne, up_eq]
  have a4 : (rLook r rd p bt ys wk) (3430 + 5 * r 6 + 4) = wk := by simp (disch := omega) only [rLook, up_ne, up_eq]
  generalize rLook r rd p bt ys wk = r' at ev vn a0 a1 a2 a3 a4 R' ⊢
  have z0 := ev 0 (by omega)
  have z1 := ev 1 (by omega)
  have z2 := ev 2 (by omega)
  have z3 := ev 3 (by omega)
  have z4 := ev 4 (by omega)
  have z5 := ev 5 (by omega)
  have z7 := ev 7 (by omega)
  have z8 := ev 8 (by omega)
  exact ⟨R', C2s C z1 rfl (fun k k0 k1 => ev k (by omega)), C3s C z2 rfl rfl (fun k k0 k1 => ev k (by omega)), C4s C z3 rfl rfl (fun k k0 k1 => ev k (by omega)), C5s C z4 rfl (fun k k0 k1 => ev k (by omega)), C6s C z5 rfl rfl (fun k k0 k1 => ev k (by omega)), (fun k k0 k1 => by
    show X (4 * k) = _ ∧ 0 ≤ X (4 * k + 1) ∧ X (4 * k + 1) < r' 4 ∧ _ = (if r' (1330 + 10 * X (4 * k + 1)) = 1 then 1 else 0) ∧ X (4 * k + 2) = _ ∧ X (4 * k + 3) = _
    by_cases e : k = r 6
    · subst e; rw [a1, a2, a3, a4, hX0, hX1, hX2, hX3, ev (1330 + 10 * bs_) (by omega)]
      exact ⟨rfl, b0, by omega, hb, rfl, rfl⟩
    · obtain ⟨x0, x1, x2, x3, x4, x5⟩ := C.2.2.2.2.2.2.1 k k0 (by omega)
      rw [ev (3430 + 5 * k + 1) (by omega), ev (3430 + 5 * k + 2) (by omega), ev (3430 + 5 * k + 3) (by omega), ev (3430 + 5 * k + 4) (by omega), hX (4 * k) (by omega) (by omega), hX (4 * k + 1) (by omega) (by omega), hX (4 * k + 2) (by omega) (by omega), hX (4 * k + 3) (by omega) (by omega), ev (1330 + 10 * c 8 (4 * k + 1)) (by omega)]
      exact ⟨x0, x1, by omega, x3, x4, x5⟩), C8s C z7 rfl (fun k k0 k1 => ev k (by omega)), C9s C z8 rfl (fun k k0 k1 => ev k (by omega))⟩
theorem RI_test {p s : Int} (R : RI r) (n : r 7 < 200) (s0 : 0 ≤ p) (s1 : p < r 4) (y0 : 0 ≤ s) (y1 : s < r 1) : RI (rTest r p s) := by
  have b := R.1
  have ev : ∀ k, (k ≠ 7 ∧ (k < 4430 + 3 * r 7 ∨ 4430 + 3 * r 7 + 3 ≤ k)) → (rTest r p s) k = r k := fun k hk => by simp (disch := omega) only [rTest, up_ne]
  have vn : (rTest r p s) 7 = r 7 + 1 := up_eq
  have a0 : (rTest r p s) (4430 + 3 * r 7) = p := by simp (disch := omega) only [rTest, up_ne, up_eq]
  have a1 : (rTest r p s) (4430 + 3 * r 7 + 1) = s := by simp (disch := omega) only [rTest, up_ne, up_eq]
  have a2 : (rTest r p s) (4430 + 3 * r 7 + 2) = r 0 := by simp (disch := omega) only [rTest, up_ne, up_eq]
  generalize rTest r p s = r' at ev vn a0 a1 a2 ⊢
  have z0 := ev 0 (by omega)
  have z1 := ev 1 (by omega)
  have z2 := ev 2 (by omega)
  have z3 := ev 3 (by omega)
  have z4 := ev 4 (by omega)
  have z5 := ev 5 (by omega)
  have z6 := ev 6 (by omega)
  have z8 := ev 8 (by omega)
  exact ⟨by omega, R2s R z1 (fun k k0 k1 => ev k (by omega)), R3s R z2 (fun k k0 k1 => ev k (by omega)), R4s R z3 (fun k k0 k1 => ev k (by omega)), R5s R (by omega) (by omega) z4 (fun k k0 k1 => ev k (by omega)), R6s R z4 (fun k k0 k1 => ev k (by omega)), R7s R (by omega) z5 (fun k k0 k1 => ev k (by omega)), R8s R (by omega) z6 (fun k k0 k1 => ev k (by omega)), (fun k k0 k1 => by
    by_cases e : k = r 7
    · subst e; rw [a0, a1, a2]; omega
    · rw [ev (4430 + 3 * k) (by omega), ev (4430 + 3 * k + 1) (by omega), ev (4430 + 3 * k + 2) (by omega)]
      have x := R.2.2.2.2.2.2.2.2.1 k k0 (by omega)
      omega), (fun j k j0 j1 k1 => by
    by_cases e : k = r 7
    · subst e
      rw [a2]
      by_cases e2 : j = r 7
      · subst e2; rw [a2]; omega
      · have x := R.2.2.2.2.2.2.2.2.1 j j0 (by omega)
        rw [ev (4430 + 3 * j + 2) (by omega)]; omega
    · rw [ev (4430 + 3 * j + 2) (by omega), ev (4430 + 3 * k + 2) (by omega)]
      exact R.2.2.2.2.2.2.2.2.2.1 j k j0 j1 (by omega)), R11s R z8 (fun k k0 k1 => ev k (by omega))⟩
theorem CW_test {p s : Int} (C : CW r c) (n : r 7 < 200) (s0 : 0 ≤ p) (s1 : p < r 4) (y0 : 0 ≤ s) (y1 : s < r 1) {X : Int → Int} (hX : ∀ k, 0 ≤ k → k < 3 * r 7 → X k = c 9 k) (hX0 : X (3 * r 7) = p) (hX1 : X (3 * r 7 + 1) = s) (hX2 : X (3 * r 7 + 2) = r 0) : CW (rTest r p s) (uf c 9 X) := by
  have R := C.1
  have R' := RI_test R n s0 s1 y0 y1
  have b := R.1
  have ev : ∀ k, (k ≠ 7 ∧ (k < 4430 + 3 * r 7 ∨ 4430 + 3 * r 7 + 3 ≤ k)) → (rTest r p s) k = r k := fun k hk => by simp (disch := omega) only [rTest, up_ne]
  have vn : (rTest r p s) 7 = r 7 + 1 := up_eq
  have a0 : (rTest r p s) (4430 + 3 * r 7) = p := by simp (disch := omega) only [rTest, up_ne, up_eq]
  have a1 : (rTest r p s) (4430 + 3 * r 7 + 1) = s := by simp (disch := omega) only [rTest, up_ne, up_eq]
  have a2 : (rTest r p s) (4430 + 3 * r 7 + 2) = r 0 := by simp (disch := omega) only [rTest, up_ne, up_eq]
  generalize rTest r p s = r' at ev vn a0 a1 a2 R' ⊢
  have z0 := ev 0 (by omega)
  have z1 := ev 1 (by omega)
  have z2 := ev 2 (by omega)
  have z3 := ev 3 (by omega)
  have z4 := ev 4 (by omega)
  have z5 := ev 5 (by omega)
  have z6 := ev 6 (by omega)
  have z8 := ev 8 (by omega)
  exact ⟨R', C2s C z1 rfl (fun k k0 k1 => ev k (by omega)), C3s C z2 rfl rfl (fun k k0 k1 => ev k (by omega)), C4s C z3 rfl rfl (fun k k0 k1 => ev k (by omega)), C5s C z4 rfl (fun k k0 k1 => ev k (by omega)), C6s C z5 rfl rfl (fun k k0 k1 => ev k (by omega)), C7s C (by omega) z6 rfl (fun k k0 k1 => ev k (by omega)) (fun k k0 k1 => ev _ (by omega)), (fun k k0 k1 => by
    by_cases e : k < 3 * r 7
    · rw [ev (4430 + k) (by omega)]; exact (hX k k0 e).trans (C.2.2.2.2.2.2.2.1 k k0 e)
    · have cc : k = 3 * r 7 ∨ k = 3 * r 7 + 1 ∨ k = 3 * r 7 + 2 := by omega
      rcases cc with e | e | e <;> subst e
      · rw [a0]; exact hX0
      · rw [← Int.add_assoc, a1]; exact hX1
      · rw [← Int.add_assoc, a2]; exact hX2), C9s C z8 rfl (fun k k0 k1 => ev k (by omega))⟩
theorem RI_person {f t q w : Int} (R : RI r) (n : r 8 < 8) (s0 : 0 ≤ f) (s1 : f ≤ t) (y1 : t ≤ 9999) (q0 : 0 ≤ q) (q1 : q ≤ 999) (w0 : 0 ≤ w) (w1 : w ≤ 519) : RI (rPerson r f t q w) := by
  have b := R.1
  have ev : ∀ k, (k ≠ 8 ∧ (k < 5030 + 5 * r 8 ∨ 5030 + 5 * r 8 + 5 ≤ k)) → (rPerson r f t q w) k = r k := fun k hk => by simp (disch := omega) only [rPerson, up_ne]
  have vn : (rPerson r f t q w) 8 = r 8 + 1 := up_eq
  have a0 : (rPerson r f t q w) (5030 + 5 * r 8) = f := by simp (disch := omega) only [rPerson, up_ne, up_eq]
  have a1 : (rPerson r f t q w) (5030 + 5 * r 8 + 1) = t := by simp (disch := omega) only [rPerson, up_ne, up_eq]
  have a2 : (rPerson r f t q w) (5030 + 5 * r 8 + 2) = q := by simp (disch := omega) only [rPerson, up_ne, up_eq]
  have a3 : (rPerson r f t q w) (5030 + 5 * r 8 + 3) = w := by simp (disch := omega) only [rPerson, up_ne, up_eq]
  have a4 : (rPerson r f t q w) (5030 + 5 * r 8 + 4) = -1 := by simp (disch := omega) only [rPerson, up_ne, up_eq]
  generalize rPerson r f t q w = r' at ev vn a0 a1 a2 a3 a4 ⊢
  have z0 := ev 0 (by omega)
  have z1 := ev 1 (by omega)
  have z2 := ev 2 (by omega)
  have z3 := ev 3 (by omega)
  have z4 := ev 4 (by omega)
  have z5 := ev 5 (by omega)
  have z6 := ev 6 (by omega)
  have z7 := ev 7 (by omega)
  exact ⟨by omega, R2s R z1 (fun k k0 k1 => ev k (by omega)), R3s R z2 (fun k k0 k1 => ev k (by omega)), R4s R z3 (fun k k0 k1 => ev k (by omega)), R5s R (by omega) (by omega) z4 (fun k k0 k1 => ev k (by omega)), R6s R z4 (fun k k0 k1 => ev k (by omega)), R7s R (by omega) z5 (fun k k0 k1 => ev k (by omega)), R8s R (by omega) z6 (fun k k0 k1 => ev k (by omega)), R9s R (by omega) (by omega) (by omega) z7 (fun k k0 k1 => ev k (by omega)), R10s R z7 (fun k k0 k1 => ev k (by omega)), (fun k k0 k1 => by
    by_cases e : k = r 8
    · subst e; rw [a0, a1, a2, a3, a4]; omega
    · rw [ev (5030 + 5 * k) (by omega), ev (5030 + 5 * k + 1) (by omega), ev (5030 + 5 * k + 2) (by omega), ev (5030 + 5 * k + 3) (by omega), ev (5030 + 5 * k + 4) (by omega)]
      exact pe_rng R k0 (e := k) (by omega))⟩
theorem CW_person {f t q w : Int} (C : CW r c) (n : r 8 < 8) (s0 : 0 ≤ f) (s1 : f ≤ t) (y1 : t ≤ 9999) (q0 : 0 ≤ q) (q1 : q ≤ 999) (w0 : 0 ≤ w) (w1 : w ≤ 519) {X : Int → Int} (hX : ∀ k, 0 ≤ k → k < 5 * r 8 → X k = c 10 k) (hX0 : X (5 * r 8) = f) (hX1 : X (5 * r 8 + 1) = t) (hX2 : X (5 * r 8 + 2) = q) (hX3 : X (5 * r 8 + 3) = w) (hX4 : X (5 * r 8 + 4) = -1) : CW (rPerson r f t q w) (uf c 10 X) := by
  have R := C.1
  have R' := RI_person R n s0 s1 y1 q0 q1 w0 w1
  have b := R.1
  have ev : ∀ k, (k ≠ 8 ∧ (k < 5030 + 5 * r 8 ∨ 5030 + 5 * r 8 + 5 ≤ k)) → (rPerson r f t q w) k = r k := fun k hk => by simp (disch := omega) only [rPerson, up_ne]
  have vn : (rPerson r f t q w) 8 = r 8 + 1 := up_eq
  have a0 : (rPerson r f t q w) (5030 + 5 * r 8) = f := by simp (disch := omega) only [rPerson, up_ne, up_eq]
  have a1 : (rPerson r f t q w) (5030 + 5 * r 8 + 1) = t := by simp (disch := omega) only [rPerson, up_ne, up_eq]
  have a2 : (rPerson r f t q w) (5030 + 5 * r 8 + 2) = q := by simp (disch := omega) only [rPerson, up_ne, up_eq]
  have a3 : (rPerson r f t q w) (5030 + 5 * r 8 + 3) = w := by simp (disch := omega) only [rPerson, up_ne, up_eq]
  have a4 : (rPerson r f t q w) (5030 + 5 * r 8 + 4) = -1 := by simp (disch := omega) only [rPerson, up_ne, up_eq]
  generalize rPerson r f t q w = r' at ev vn a0 a1 a2 a3 a4 R' ⊢
  have z0 := ev 0 (by omega)
  have z1 := ev 1 (by omega)
  have z2 := ev 2 (by omega)
  have z3 := ev 3 (by omega)
  have z4 := ev 4 (by omega)
  have z5 := ev 5 (by omega)
  have z6 := ev 6 (by omega)
  have z7 := ev 7 (by omega)
  exact ⟨R', C2s C z1 rfl (fun k k0 k1 => ev k (by omega)), C3s C z2 rfl rfl (fun k k0 k1 => ev k (by omega)), C4s C z3 rfl rfl (fun k k0 k1 => ev k (by omega)), C5s C z4 rfl (fun k k0 k1 => ev k (by omega)), C6s C z5 rfl rfl (fun k k0 k1 => ev k (by omega)), C7s C (by omega) z6 rfl (fun k k0 k1 => ev k (by omega)) (fun k k0 k1 => ev _ (by omega)), C8s C z7 rfl (fun k k0 k1 => ev k (by omega)), (fun k k0 k1 => by
    by_cases e : k < 5 * r 8
    · rw [ev (5030 + k) (by omega)]; exact (hX k k0 e).trans (C.2.2.2.2.2.2.2.2 k k0 e)
    · have cc : k = 5 * r 8 ∨ k = 5 * r 8 + 1 ∨ k = 5 * r 8 + 2 ∨ k = 5 * r 8 + 3 ∨ k = 5 * r 8 + 4 := by omega
      rcases cc with e | e | e | e | e <;> subst e
      · rw [a0]; exact hX0
      · rw [← Int.add_assoc, a1]; exact hX1
      · rw [← Int.add_assoc, a2]; exact hX2
      · rw [← Int.add_assoc, a3]; exact hX3
      · rw [← Int.add_assoc, a4]; exact hX4)⟩
theorem RI_clock {w : Int} (R : RI r) (w0 : r 0 ≤ w) (w1 : w ≤ 519) : RI (up r 0 w) := by
  have b := R.1
  have ev : ∀ k, k ≠ 0 → (up r 0 w) k = r k := fun k hk => up_ne hk
  have a0 : (up r 0 w) (0) = w := up_eq
  generalize up r 0 w = r' at ev a0 ⊢
  have z1 := ev 1 (by omega)
  have z2 := ev 2 (by omega)
  have z3 := ev 3 (by omega)
  have z4 := ev 4 (by omega)
  have z5 := ev 5 (by omega)
  have z6 := ev 6 (by omega)
  have z7 := ev 7 (by omega)
  have z8 := ev 8 (by omega)
  have z0 := a0
  exact ⟨by omega, R2s R z1 (fun k k0 k1 => ev k (by omega)), R3s R z2 (fun k k0 k1 => ev k (by omega)), R4s R z3 (fun k k0 k1 => ev k (by omega)), R5s R (by omega) (by omega) z4 (fun k k0 k1 => ev k (by omega)), R6s R z4 (fun k k0 k1 => ev k (by omega)), R7s R (by omega) z5 (fun k k0 k1 => ev k (by omega)), R8s R (by omega) z6 (fun k k0 k1 => ev k (by omega)), R9s R (by omega) (by omega) (by omega) z7 (fun k k0 k1 => ev k (by omega)), R10s R z7 (fun k k0 k1 => ev k (by omega)), R11s R z8 (fun k k0 k1 => ev k (by omega))⟩
theorem CW_clock {w : Int} (C : CW r c) (w0 : r 0 ≤ w) (w1 : w ≤ 519)  : CW (up r 0 w) (c) := by
  have R := C.1
  have R' := RI_clock R w0 w1
  have b := R.1
  have ev : ∀ k, k ≠ 0 → (up r 0 w) k = r k := fun k hk => up_ne hk
  have a0 : (up r 0 w) (0) = w := up_eq
  generalize up r 0 w = r' at ev a0 R' ⊢
  have z1 := ev 1 (by omega)
  have z2 := ev 2 (by omega)
  have z3 := ev 3 (by omega)
  have z4 := ev 4 (by omega)
  have z5 := ev 5 (by omega)
  have z6 := ev 6 (by omega)
  have z7 := ev 7 (by omega)
  have z8 := ev 8 (by omega)
  have z0 := a0
  exact ⟨R', C2s C z1 rfl (fun k k0 k1 => ev k (by omega)), C3s C z2 rfl rfl (fun k k0 k1 => ev k (by omega)), C4s C z3 rfl rfl (fun k k0 k1 => ev k (by omega)), C5s C z4 rfl (fun k k0 k1 => ev k (by omega)), C6s C z5 rfl rfl (fun k k0 k1 => ev k (by omega)), C7s C (by omega) z6 rfl (fun k k0 k1 => ev k (by omega)) (fun k k0 k1 => ev _ (by omega)), C8s C z7 rfl (fun k k0 k1 => ev k (by omega)), C9s C z8 rfl (fun k k0 k1 => ev k (by omega))⟩
theorem RI_keep {p t : Int} (R : RI r) (p0 : 0 ≤ p) (p1 : p < r 4) (t0 : 0 ≤ t) (t1 : t ≤ 519) : RI (up r (1330 + 10 * p + 9) t) := by
  have b := R.1
  have ev : ∀ k, k ≠ 1330 + 10 * p + 9 → (up r (1330 + 10 * p + 9) t) k = r k := fun k hk => up_ne hk
  have a0 : (up r (1330 + 10 * p + 9) t) (1330 + 10 * p + 9) = t := up_eq
  generalize up r (1330 + 10 * p + 9) t = r' at ev a0 ⊢
  have z0 := ev 0 (by omega)
  have z1 := ev 1 (by omega)
  have z2 := ev 2 (by omega)
  have z3 := ev 3 (by omega)
  have z4 := ev 4 (by omega)
  have z5 := ev 5 (by omega)
  have z6 := ev 6 (by omega)
  have z7 := ev 7 (by omega)
  have z8 := ev 8 (by omega)
  exact ⟨by omega, R2s R z1 (fun k k0 k1 => ev k (by omega)), R3s R z2 (fun k k0 k1 => ev k (by omega)), R4s R z3 (fun k k0 k1 => ev k (by omega)), (fun k k0 k1 => by
    have x := pi_rng R k0 (k := k) (by omega)
    rw [ev (1330 + 10 * k) (by omega), ev (1330 + 10 * k + 6) (by omega), ev (1330 + 10 * k + 7) (by omega), ev (1330 + 10 * k + 8) (by omega), z0, z1]
    refine ⟨x.1, fun c c0 c1 => by rw [ev (1330 + 10 * k + c) (by omega)]; exact x.2.1 c c0 c1, x.2.2.1, x.2.2.2.1, x.2.2.2.2.1, ?_⟩
    by_cases e : k = p
    · rw [e, a0]; omega
    · rw [ev (1330 + 10 * k + 9) (by omega)]; exact x.2.2.2.2.2), (fun j k j0 j1 k1 => by rw [ev (1330 + 10 * j + 8) (by omega), ev (1330 + 10 * k + 8) (by omega)]; exact R.2.2.2.2.2.1 j k j0 j1 (by omega)), R7s R (by omega) z5 (fun k k0 k1 => ev k (by omega)), R8s R (by omega) z6 (fun k k0 k1 => ev k (by omega)), R9s R (by omega) (by omega) (by omega) z7 (fun k k0 k1 => ev k (by omega)), R10s R z7 (fun k k0 k1 => ev k (by omega)), R11s R z8 (fun k k0 k1 => ev k (by omega))⟩
theorem CW_keep {p t : Int} (C : CW r c) (p0 : 0 ≤ p) (p1 : p < r 4) (t0 : 0 ≤ t) (t1 : t ≤ 519) {X : Int → Int} (hX9 : X (10 * p + 9) = t) (hX : ∀ k, k ≠ 10 * p + 9 → X k = c 5 k) : CW (up r (1330 + 10 * p + 9) t) (uf c 5 X) := by
  have R := C.1
  have R' := RI_keep R p0 p1 t0 t1
  have b := R.1
  have ev : ∀ k, k ≠ 1330 + 10 * p + 9 → (up r (1330 + 10 * p + 9) t) k = r k := fun k hk => up_ne hk
  have a0 : (up r (1330 + 10 * p + 9) t) (1330 + 10 * p + 9) = t := up_eq
  generalize up r (1330 + 10 * p + 9) t = r' at ev a0 R' ⊢
  have z0 := ev 0 (by omega)
  have z1 := ev 1 (by omega)
  have z2 := ev 2 (by omega)
  have z3 := ev 3 (by omega)
  have z4 := ev 4 (by omega)
  have z5 := ev 5 (by omega)
  have z6 := ev 6 (by omega)
  have z7 := ev 7 (by omega)
  have z8 := ev 8 (by omega)
  exact ⟨R', C2s C z1 rfl (fun k k0 k1 => ev k (by omega)), C3s C z2 rfl rfl (fun k k0 k1 => ev k (by omega)), C4s C z3 rfl rfl (fun k k0 k1 => ev k (by omega)), (fun k k0 k1 => by
    by_cases e : k = 10 * p + 9
    · subst e; rw [← Int.add_assoc, a0]; exact hX9
    · rw [ev (1330 + k) (by omega)]; exact (hX k e).trans (C.2.2.2.2.1 k k0 (by omega))), C6s C z5 rfl rfl (fun k k0 k1 => ev k (by omega)), C7s C (by omega) z6 rfl (fun k k0 k1 => ev k (by omega)) (fun k k0 k1 => ev _ (by omega)), C8s C z7 rfl (fun k k0 k1 => ev k (by omega)), C9s C z8 rfl (fun k k0 k1 => ev k (by omega))⟩
theorem RI_inks {p t : Int} (R : RI r) (p0 : 0 ≤ p) (p1 : p < r 4) (t0 : 0 ≤ t) (t1 : t < 2 ^ (r 1).toNat) : RI (up r (1330 + 10 * p + 6) t) := by
  have b := R.1
  have ev : ∀ k, k ≠ 1330 + 10 * p + 6 → (up r (1330 + 10 * p + 6) t) k = r k := fun k hk => up_ne hk
  have a0 : (up r (1330 + 10 * p + 6) t) (1330 + 10 * p + 6) = t := up_eq
  generalize up r (1330 + 10 * p + 6) t = r' at ev a0 ⊢
  have z0 := ev 0 (by omega)
  have z1 := ev 1 (by omega)
  have z2 := ev 2 (by omega)
  have z3 := ev 3 (by omega)
  have z4 := ev 4 (by omega)
  have z5 := ev 5 (by omega)
  have z6 := ev 6 (by omega)
  have z7 := ev 7 (by omega)
  have z8 := ev 8 (by omega)
  exact ⟨by omega, R2s R z1 (fun k k0 k1 => ev k (by omega)), R3s R z2 (fun k k0 k1 => ev k (by omega)), R4s R z3 (fun k k0 k1 => ev k (by omega)), (fun k k0 k1 => by
    have x := pi_rng R k0 (k := k) (by omega)
    rw [ev (1330 + 10 * k) (by omega), ev (1330 + 10 * k + 9) (by omega), ev (1330 + 10 * k + 7) (by omega), ev (1330 + 10 * k + 8) (by omega), z0, z1]
    refine ⟨x.1, fun c c0 c1 => by rw [ev (1330 + 10 * k + c) (by omega)]; exact x.2.1 c c0 c1, ?_, x.2.2.2⟩
    by_cases e : k = p
    · rw [e, a0]; exact ⟨t0, t1⟩
    · rw [ev (1330 + 10 * k + 6) (by omega)]; exact x.2.2.1), (fun j k j0 j1 k1 => by rw [ev (1330 + 10 * j + 8) (by omega), ev (1330 + 10 * k + 8) (by omega)]; exact R.2.2.2.2.2.1 j k j0 j1 (by omega)), R7s R (by omega) z5 (fun k k0 k1 => ev k (by omega)), R8s R (by omega) z6 (fun k k0 k1 => ev k (by omega)), R9s R (by omega) (by omega) (by omega) z7 (fun k k0 k1 => ev k (by omega)), R10s R z7 (fun k k0 k1 => ev k (by omega)), R11s R z8 (fun k k0 k1 => ev k (by omega))⟩
theorem CW_inks {p t : Int} (C : CW r c) (p0 : 0 ≤ p) (p1 : p < r 4) (t0 : 0 ≤ t) (t1 : t < 2 ^ (r 1).toNat) {X : Int → Int} (hX9 : X (10 * p + 6) = t) (hX : ∀ k, k ≠ 10 * p + 6 → X k = c 5 k) : CW (up r (1330 + 10 * p + 6) t) (uf c 5 X) := by
  have R := C.1
  have R' := RI_inks R p0 p1 t0 t1
  have b := R.1
  have ev : ∀ k, k ≠ 1330 + 10 * p + 6 → (up r (1330 + 10 * p + 6) t) k = r k := fun k hk => up_ne hk
  have a0 : (up r (1330 + 10 * p + 6) t) (1330 + 10 * p + 6) = t := up_eq
  generalize up r (1330 + 10 * p + 6) t = r' at ev a0 R' ⊢
  have z0 := ev 0 (by omega)
  have z1 := ev 1 (by omega)
  have z2 := ev 2 (by omega)
  have z3 := ev 3 (by omega)
  have z4 := ev 4 (by omega)
  have z5 := ev 5 (by omega)
  have z6 := ev 6 (by omega)
  have z7 := ev 7 (by omega)
  have z8 := ev 8 (by omega)
  exact ⟨R', C2s C z1 rfl (fun k k0 k1 => ev k (by omega)), C3s C z2 rfl rfl (fun k k0 k1 => ev k (by omega)), C4s C z3 rfl rfl (fun k k0 k1 => ev k (by omega)), (fun k k0 k1 => by
    by_cases e : k = 10 * p + 6
    · subst e; rw [← Int.add_assoc, a0]; exact hX9
    · rw [ev (1330 + k) (by omega)]; exact (hX k e).trans (C.2.2.2.2.1 k k0 (by omega))), C6s C z5 rfl rfl (fun k k0 k1 => ev k (by omega)), C7s C (by omega) z6 rfl (fun k k0 k1 => ev k (by omega)) (fun k k0 k1 => ev _ (by omega)), C8s C z7 rfl (fun k k0 k1 => ev k (by omega)), C9s C z8 rfl (fun k k0 k1 => ev k (by omega))⟩
theorem RI_ask {p : Int} (R : RI r) (p0 : 0 ≤ p) (p1 : p < r 8) : RI (up r (5030 + 5 * p + 4) (r 0)) := by
  have b := R.1
  have ev : ∀ k, k ≠ 5030 + 5 * p + 4 → (up r (5030 + 5 * p + 4) (r 0)) k = r k := fun k hk => up_ne hk
  have a0 : (up r (5030 + 5 * p + 4) (r 0)) (5030 + 5 * p + 4) = r 0 := up_eq
  generalize up r (5030 + 5 * p + 4) (r 0) = r' at ev a0 ⊢
  have z0 := ev 0 (by omega)
  have z1 := ev 1 (by omega)
  have z2 := ev 2 (by omega)
  have z3 := ev 3 (by omega)
  have z4 := ev 4 (by omega)
  have z5 := ev 5 (by omega)
  have z6 := ev 6 (by omega)
  have z7 := ev 7 (by omega)
  have z8 := ev 8 (by omega)
  exact ⟨by omega, R2s R z1 (fun k k0 k1 => ev k (by omega)), R3s R z2 (fun k k0 k1 => ev k (by omega)), R4s R z3 (fun k k0 k1 => ev k (by omega)), R5s R (by omega) (by omega) z4 (fun k k0 k1 => ev k (by omega)), R6s R z4 (fun k k0 k1 => ev k (by omega)), R7s R (by omega) z5 (fun k k0 k1 => ev k (by omega)), R8s R (by omega) z6 (fun k k0 k1 => ev k (by omega)), R9s R (by omega) (by omega) (by omega) z7 (fun k k0 k1 => ev k (by omega)), R10s R z7 (fun k k0 k1 => ev k (by omega)), (fun k k0 k1 => by
    have x := pe_rng R k0 (e := k) (by omega)
    rw [ev (5030 + 5 * k) (by omega), ev (5030 + 5 * k + 1) (by omega), ev (5030 + 5 * k + 2) (by omega), ev (5030 + 5 * k + 3) (by omega)]
    by_cases e : k = p
    · rw [e, a0, ← e]; omega
    · rw [ev (5030 + 5 * k + 4) (by omega)]; exact x)⟩
theorem CW_ask {p : Int} (C : CW r c) (p0 : 0 ≤ p) (p1 : p < r 8) {X : Int → Int} (hX4 : X (5 * p + 4) = r 0) (hX : ∀ k, k ≠ 5 * p + 4 → X k = c 10 k) : CW (up r (5030 + 5 * p + 4) (r 0)) (uf c 10 X) := by
  have R := C.1
  have R' := RI_ask R p0 p1
  have b := R.1
  have ev : ∀ k, k ≠ 5030 + 5 * p + 4 → (up r (5030 + 5 * p + 4) (r 0)) k = r k := fun k hk => up_ne hk
  have a0 : (up r (5030 + 5 * p + 4) (r 0)) (5030 + 5 * p + 4) = r 0 := up_eq
  generalize up r (5030 + 5 * p + 4) (r 0) = r' at ev a0 R' ⊢
  have z0 := ev 0 (by omega)
  have z1 := ev 1 (by omega)
  have z2 := ev 2 (by omega)
  have z3 := ev 3 (by omega)
  have z4 := ev 4 (by omega)
  have z5 := ev 5 (by omega)
  have z6 := ev 6 (by omega)
  have z7 := ev 7 (by omega)
  have z8 := ev 8 (by omega)
  exact ⟨R', C2s C z1 rfl (fun k k0 k1 => ev k (by omega)), C3s C z2 rfl rfl (fun k k0 k1 => ev k (by omega)), C4s C z3 rfl rfl (fun k k0 k1 => ev k (by omega)), C5s C z4 rfl (fun k k0 k1 => ev k (by omega)), C6s C z5 rfl rfl (fun k k0 k1 => ev k (by omega)), C7s C (by omega) z6 rfl (fun k k0 k1 => ev k (by omega)) (fun k k0 k1 => ev _ (by omega)), C8s C z7 rfl (fun k k0 k1 => ev k (by omega)), (fun k k0 k1 => by
    by_cases e : k = 5 * p + 4
    · subst e; rw [← Int.add_assoc, a0]; exact hX4
    · rw [ev (5030 + k) (by omega)]; exact (hX k e).trans (C.2.2.2.2.2.2.2.2 k k0 (by omega)))⟩
end
