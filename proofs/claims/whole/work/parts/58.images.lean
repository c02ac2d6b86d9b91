/-! IMAGES: copies of a World, a new one (gen58.py) -/
theorem CW_r {r r' : Int → Int} {c : Nat → Int → Int} (C : CW r c) (e : ∀ k, 0 ≤ k → k < 5070 → r' k = r k) : CW r' c := by
  have R := C.1
  have b := R.1
  have R' : RI r' := by
    refine ⟨?_, R2s R (e 1 (by omega) (by omega)) (fun k k0 k1 => e k (by omega) (by omega)), R3s R (e 2 (by omega) (by omega)) (fun k k0 k1 => e k (by omega) (by omega)), R4s R (e 3 (by omega) (by omega)) (fun k k0 k1 => e k (by omega) (by omega)), R5s R (by rw [e 0 (by omega) (by omega)]; omega) (by rw [e 1 (by omega) (by omega)]; omega) (e 4 (by omega) (by omega)) (fun k k0 k1 => e k (by omega) (by omega)), R6s R (e 4 (by omega) (by omega)) (fun k k0 k1 => e k (by omega) (by omega)), R7s R (by rw [e 4 (by omega) (by omega)]; omega) (e 5 (by omega) (by omega)) (fun k k0 k1 => e k (by omega) (by omega)), R8s R (by rw [e 4 (by omega) (by omega)]; omega) (e 6 (by omega) (by omega)) (fun k k0 k1 => e k (by omega) (by omega)), R9s R (by rw [e 0 (by omega) (by omega)]; omega) (by rw [e 1 (by omega) (by omega)]; omega) (by rw [e 4 (by omega) (by omega)]; omega) (e 7 (by omega) (by omega)) (fun k k0 k1 => e k (by omega) (by omega)), R10s R (e 7 (by omega) (by omega)) (fun k k0 k1 => e k (by omega) (by omega)), R11s R (e 8 (by omega) (by omega)) (fun k k0 k1 => e k (by omega) (by omega))⟩
    have e0 := e 0 (by omega) (by omega)
    have e1 := e 1 (by omega) (by omega)
    have e2 := e 2 (by omega) (by omega)
    have e3 := e 3 (by omega) (by omega)
    have e4 := e 4 (by omega) (by omega)
    have e5 := e 5 (by omega) (by omega)
    have e6 := e 6 (by omega) (by omega)
    have e7 := e 7 (by omega) (by omega)
    have e8 := e 8 (by omega) (by omega)
    omega
  exact ⟨R', C2s C (e 1 (by omega) (by omega)) rfl (fun k k0 k1 => e k (by omega) (by omega)), C3s C (e 2 (by omega) (by omega)) rfl rfl (fun k k0 k1 => e k (by omega) (by omega)), C4s C (e 3 (by omega) (by omega)) rfl rfl (fun k k0 k1 => e k (by omega) (by omega)), C5s C (e 4 (by omega) (by omega)) rfl (fun k k0 k1 => e k (by omega) (by omega)), C6s C (e 5 (by omega) (by omega)) rfl rfl (fun k k0 k1 => e k (by omega) (by omega)), C7s C (by rw [e 4 (by omega) (by omega)]; omega) (e 6 (by omega) (by omega)) rfl (fun k k0 k1 => e k (by omega) (by omega)) (fun k k0 k1 => e _ (by omega) (by omega)), C8s C (e 7 (by omega) (by omega)) rfl (fun k k0 k1 => e k (by omega) (by omega)), C9s C (e 8 (by omega) (by omega)) rfl (fun k k0 k1 => e k (by omega) (by omega))⟩
theorem WD.row {h : AH} {w : Nat} {r r' : Int → Int} {c : Nat → Int → Int} (W : WD h w r c) (e : ∀ k, 0 ≤ k → k < 5070 → r' k = r k) : WD h w r' c := by
  have z : ∀ k : Int, 0 ≤ k → k ≤ 8 → r' k = r k := fun k k0 k1 => e k k0 (by omega)
  exact ⟨by rw [z 0 (by omega) (by omega)]; exact W.1, by rw [z 1 (by omega) (by omega)]; exact W.st, by rw [z 2 (by omega) (by omega)]; exact W.tr, by rw [z 3 (by omega) (by omega)]; exact W.fa, by rw [z 4 (by omega) (by omega)]; exact W.pi, by rw [z 5 (by omega) (by omega)]; exact W.pg, by rw [z 6 (by omega) (by omega)]; exact W.lo, by rw [z 7 (by omega) (by omega)]; exact W.te, by rw [z 8 (by omega) (by omega)]; exact W.pe, CW_r W.cr e⟩
/-- tables that say the same as far as they are filled -/
theorem CW_c {r : Int → Int} {c c' : Nat → Int → Int} {h : AH} {w : Nat} (W : WD h w r c) (e0 : ∀ k, 0 ≤ k → k < 2 * r 1 → c' 0 k = c 0 k) (e1 : ∀ k, 0 ≤ k → k < r 2 → c' 1 k = c 1 k) (e2 : ∀ k, 0 ≤ k → k < r 2 → c' 2 k = c 2 k) (e3 : ∀ k, 0 ≤ k → k < r 3 → c' 3 k = c 3 k) (e4 : ∀ k, 0 ≤ k → k < r 3 → c' 4 k = c 4 k) (e5 : ∀ k, 0 ≤ k → k < 10 * r 4 → c' 5 k = c 5 k) (e6 : ∀ k, 0 ≤ k → k < r 5 → c' 6 k = c 6 k) (e7 : ∀ k, 0 ≤ k → k < r 5 → c' 7 k = c 7 k) (e8 : ∀ k, 0 ≤ k → k < 4 * r 6 → c' 8 k = c 8 k) (e9 : ∀ k, 0 ≤ k → k < 3 * r 7 → c' 9 k = c 9 k) (e10 : ∀ k, 0 ≤ k → k < 5 * r 8 → c' 10 k = c 10 k) : CW r c' := by
  have C := W.cr
  have b := C.1.1
  refine ⟨C.1, fun k k0 k1 => (e0 k k0 k1).trans (C.2.1 k k0 k1), fun d => ?_, fun s d s0 s1 d0 d1 => ?_, fun k k0 k1 => (e5 k k0 k1).trans (C.2.2.2.2.1 k k0 k1), fun q => ?_, fun k k0 k1 => ?_, fun k k0 k1 => (e9 k k0 k1).trans (C.2.2.2.2.2.2.2.1 k k0 k1), fun k k0 k1 => (e10 k k0 k1).trans (C.2.2.2.2.2.2.2.2 k k0 k1)⟩
  · rw [← C.2.2.1 d]
    exact (pof_cong (by omega) W.tr.2.2.2.1 (fun i i0 i1 => (e1 i i0 i1).symm) (fun i i0 i1 => (e2 i i0 i1).symm) d).symm
  · rw [← C.2.2.2.1 s d s0 s1 d0 d1]
    exact (pof_cong (by omega) W.fa.2.2.2.1 (fun i i0 i1 => (e3 i i0 i1).symm) (fun i i0 i1 => (e4 i i0 i1).symm) _).symm
  · rw [← C.2.2.2.2.2.1 q]
    exact cn_cong _ _ fun j j0 j1 => by rw [e6 j j0 (by omega), e7 j j0 (by omega)]
  · rw [e8 (4 * k) (by omega) (by omega), e8 (4 * k + 1) (by omega) (by omega), e8 (4 * k + 2) (by omega) (by omega), e8 (4 * k + 3) (by omega) (by omega)]
    exact C.2.2.2.2.2.2.1 k k0 k1
section
variable {h h' : AH} {w w2 : Nat} {r r2 : Int → Int} {c c2 : Nat → Int → Int}
set_option maxHeartbeats 2000000 in
theorem WD.copy (W : WD h w r c) (S : WD h w2 r2 c2) (d : w + 20 ≤ w2 ∨ w2 + 20 ≤ w) : ∃ h' c', f7_copyFrom h w w2 = some h' ∧ WD h' w r2 c' ∧ Fr w (w + 20) h h' := by
  have b := S.ri.1
  obtain ⟨h1, e1, B1, F1⟩ := W.1.set 0 (.int (I (r2 0))) (by simp)
  have G1 := F1.mono (lo' := w) (hi' := w + 20) (by omega) (by omega)
  have S1 := S.fr F1 (by omega)
  have X2 := W.st.fr F1 (by omega)
  obtain ⟨h2, e2, Y2, F2⟩ := X2.copy S1.st (by omega)
  have S2 := S1.fr F2 (by omega)
  have B2 := B1.at (F2.2 w (by omega))
  have G2 := G1.trans (F2.mono (lo' := w) (hi' := w + 20) (by omega) (by omega))
  have X3 := (W.tr.fr F1 (by omega)).fr F2 (by omega)
  obtain ⟨h3, e3, Y3, F3⟩ := X3.copy S2.tr (by omega)
  have S3 := S2.fr F3 (by omega)
  have B3 := B2.at (F3.2 w (by omega))
  have G3 := G2.trans (F3.mono (lo' := w) (hi' := w + 20) (by omega) (by omega))
  have X4 := ((W.fa.fr F1 (by omega)).fr F2 (by omega)).fr F3 (by omega)
  obtain ⟨h4, e4, Y4, F4⟩ := X4.copy S3.fa (by omega)
  have S4 := S3.fr F4 (by omega)
  have B4 := B3.at (F4.2 w (by omega))
  have G4 := G3.trans (F4.mono (lo' := w) (hi' := w + 20) (by omega) (by omega))
  have X5 := (((W.pi.fr F1 (by omega)).fr F2 (by omega)).fr F3 (by omega)).fr F4 (by omega)
  obtain ⟨h5, e5, Y5, F5⟩ := X5.copy S4.pi (by omega)
  have S5 := S4.fr F5 (by omega)
  have B5 := B4.at (F5.2 w (by omega))
  have G5 := G4.trans (F5.mono (lo' := w) (hi' := w + 20) (by omega) (by omega))
  have X6 := ((((W.pg.fr F1 (by omega)).fr F2 (by omega)).fr F3 (by omega)).fr F4 (by omega)).fr F5 (by omega)
  obtain ⟨h6, e6, Y6, F6⟩ := X6.copy S5.pg (by omega)
  have S6 := S5.fr F6 (by omega)
  have B6 := B5.at (F6.2 w (by omega))
  have G6 := G5.trans (F6.mono (lo' := w) (hi' := w + 20) (by omega) (by omega))
  have X7 := (((((W.lo.fr F1 (by omega)).fr F2 (by omega)).fr F3 (by omega)).fr F4 (by omega)).fr F5 (by omega)).fr F6 (by omega)
  obtain ⟨h7, e7, Y7, F7⟩ := X7.copy S6.lo (by omega)
  have S7 := S6.fr F7 (by omega)
  have B7 := B6.at (F7.2 w (by omega))
  have G7 := G6.trans (F7.mono (lo' := w) (hi' := w + 20) (by omega) (by omega))
  have X8 := ((((((W.te.fr F1 (by omega)).fr F2 (by omega)).fr F3 (by omega)).fr F4 (by omega)).fr F5 (by omega)).fr F6 (by omega)).fr F7 (by omega)
  obtain ⟨h8, e8, Y8, F8⟩ := X8.copy S7.te (by omega)
  have S8 := S7.fr F8 (by omega)
  have B8 := B7.at (F8.2 w (by omega))
  have G8 := G7.trans (F8.mono (lo' := w) (hi' := w + 20) (by omega) (by omega))
  have X9 := (((((((W.pe.fr F1 (by omega)).fr F2 (by omega)).fr F3 (by omega)).fr F4 (by omega)).fr F5 (by omega)).fr F6 (by omega)).fr F7 (by omega)).fr F8 (by omega)
  obtain ⟨h9, e9, Y9, F9⟩ := X9.copy S8.pe (by omega)
  have S9 := S8.fr F9 (by omega)
  have B9 := B8.at (F9.2 w (by omega))
  have G9 := G8.trans (F9.mono (lo' := w) (hi' := w + 20) (by omega) (by omega))
  refine ⟨h9, fun j => if j = 0 then cp (c2 0) (c 0) 0 0 (r2 1 * 2) else if j = 1 then cp (c2 1) (c 1) 0 0 (r2 2) else if j = 2 then cp (c2 2) (c 2) 0 0 (r2 2) else if j = 3 then cp (c2 3) (c 3) 0 0 (r2 3) else if j = 4 then cp (c2 4) (c 4) 0 0 (r2 3) else if j = 5 then cp (c2 5) (c 5) 0 0 (r2 4 * 10) else if j = 6 then cp (c2 6) (c 6) 0 0 (r2 5) else if j = 7 then cp (c2 7) (c 7) 0 0 (r2 5) else if j = 8 then cp (c2 8) (c 8) 0 0 (r2 6 * 4) else if j = 9 then cp (c2 9) (c 9) 0 0 (r2 7 * 3) else cp (c2 10) (c 10) 0 0 (r2 8 * 5), ?_, ⟨B9, (((((((Y2).fr F3 (by omega)).fr F4 (by omega)).fr F5 (by omega)).fr F6 (by omega)).fr F7 (by omega)).fr F8 (by omega)).fr F9 (by omega), ((((((Y3).fr F4 (by omega)).fr F5 (by omega)).fr F6 (by omega)).fr F7 (by omega)).fr F8 (by omega)).fr F9 (by omega), (((((Y4).fr F5 (by omega)).fr F6 (by omega)).fr F7 (by omega)).fr F8 (by omega)).fr F9 (by omega), ((((Y5).fr F6 (by omega)).fr F7 (by omega)).fr F8 (by omega)).fr F9 (by omega), (((Y6).fr F7 (by omega)).fr F8 (by omega)).fr F9 (by omega), ((Y7).fr F8 (by omega)).fr F9 (by omega), (Y8).fr F9 (by omega), Y9, ?_⟩, G9⟩
  · simp (disch := omega) only [f7_copyFrom, W.o, S.f0, e1, Option.bind_some, B1.r 1 rfl, S1.f1, e2, B2.r 2 rfl, S2.f2, e3, B3.r 3 rfl, S3.f3, e4, B4.r 4 rfl, S4.f4, e5, B5.r 5 rfl, S5.f5, e6, B6.r 6 rfl, S6.f6, e7, B7.r 7 rfl, S7.f7, e8, B8.r 8 rfl, S8.f8, e9]
  · exact CW_c S (fun k k0 k1 => cp0 k0 (by omega)) (fun k k0 k1 => cp0 k0 (by omega)) (fun k k0 k1 => cp0 k0 (by omega)) (fun k k0 k1 => cp0 k0 (by omega)) (fun k k0 k1 => cp0 k0 (by omega)) (fun k k0 k1 => cp0 k0 (by omega)) (fun k k0 k1 => cp0 k0 (by omega)) (fun k k0 k1 => cp0 k0 (by omega)) (fun k k0 k1 => cp0 k0 (by omega)) (fun k k0 k1 => cp0 k0 (by omega)) (fun k k0 k1 => cp0 k0 (by omega))
end
/-! the reference's copies -/
theorem cp_up {f G : Int → Int} {sp dp i : Int} (h : 0 ≤ i) : up (cp f G sp dp i) (dp + i) (f (sp + i)) = cp f G sp dp (i + 1) := by
  funext k
  unfold up cp
  by_cases a : k = dp + i
  · rw [if_pos a, if_pos (by omega)]
    congr 1
    omega
  · rw [if_neg a]
    by_cases b : dp ≤ k ∧ k < dp + i
    · rw [if_pos b, if_pos (by omega)]
    · rw [if_neg b, if_neg (by omega)]
theorem cp_0 {f G : Int → Int} {sp dp : Int} : cp f G sp dp 0 = G := by
  funext k
  unfold cp
  rw [if_neg (by omega)]
section
variable {h h' : AH} {m : Nat} {v : Nat → Int} {se : Int64} {g : Nat → Int → Int} {gl : Nat → Int → Int64}
theorem MO.imL {k : Int} (k0 : 0 ≤ k) (k1 : k ≤ 3) {G : Int → Int} : ∀ (n f : Nat) (h : AH) (i : Int), MO h m v se (uf g 22 (cp (g 1) G 0 (5070 * k) i)) gl → 0 ≤ i → i + n = 5070 → n < f → ∃ h', f9_image_23 m (I k) f h (I i) = some (I (g 1 0), h') ∧ MO h' m v se (uf g 22 (cp (g 1) G 0 (5070 * k) 5070)) gl ∧ Fr m (m + 24) h h' := by
  intro n
  induction n with
  | zero =>
    intro f h i M i0 i1 hf
    have ei : i = 5070 := by omega
    subst ei
    cases f with
    | zero => omega
    | succ f =>
      refine ⟨h, ?_, M, Fr.refl _ _ _⟩
      have r := M.r1 (i := 0) (by omega) (by omega)
      rw [uf_ne (by omega)] at r
      simp (disch := omega) only [f9_image_23, M.f0, r, Option.bind_some, I_lit, I_neg, I_add, I_sub, I_mul, I_lt, I_le, I_eq, if_pos, if_neg, if_true, if_false, decide_eq_true_eq]
  | succ n ih =>
    intro f h i M i0 i1 hf
    cases f with
    | zero => omega
    | succ f =>
      obtain ⟨h1, e1, M1, F1⟩ := M.w22 (i := 5070 * k + i) (g 1 i) (by omega) (by omega)
      have cu := cp_up (f := g 1) (G := G) (sp := 0) (dp := 5070 * k) i0
      rw [Int.zero_add] at cu
      rw [uf_eq, uf_uf, cu] at M1
      obtain ⟨h2, e2, M2, F2⟩ := ih f h1 (i + 1) M1 (by omega) (by omega) (by omega)
      refine ⟨h2, ?_, M2, F1.trans F2⟩
      have r := M.r1 (i := i) i0 (by omega)
      rw [uf_ne (by omega)] at r
      rw [← e2]
      simp (disch := omega) only [f9_image_23, M.f0, M.f34, r, e1, Option.bind_some, I_lit, I_neg, I_add, I_sub, I_mul, I_lt, I_le, I_eq, if_pos, if_neg, if_true, if_false, decide_eq_true_eq]
theorem MO.baL {k : Int} (k0 : 0 ≤ k) (k1 : k ≤ 3) {G : Int → Int} : ∀ (n f : Nat) (h : AH) (i : Int), MO h m v se (uf g 1 (cp (g 22) G (5070 * k) 0 i)) gl → 0 ≤ i → i + n = 5070 → n < f → ∃ h', f9_back_25 m (I k) f h (I i) = some (I (cp (g 22) G (5070 * k) 0 5070 0), h') ∧ MO h' m v se (uf g 1 (cp (g 22) G (5070 * k) 0 5070)) gl ∧ Fr m (m + 24) h h' := by
  intro n
  induction n with
  | zero =>
    intro f h i M i0 i1 hf
    have ei : i = 5070 := by omega
    subst ei
    cases f with
    | zero => omega
    | succ f =>
      refine ⟨h, ?_, M, Fr.refl _ _ _⟩
      have r := M.r1 (i := 0) (by omega) (by omega)
      rw [uf_eq] at r
      simp (disch := omega) only [f9_back_25, M.f0, r, Option.bind_some, I_lit, I_neg, I_add, I_sub, I_mul, I_lt, I_le, I_eq, if_pos, if_neg, if_true, if_false, decide_eq_true_eq]
  | succ n ih =>
    intro f h i M i0 i1 hf
    cases f with
    | zero => omega
    | succ f =>
      obtain ⟨h1, e1, M1, F1⟩ := M.w1 (i := i) (g 22 (5070 * k + i)) i0 (by omega)
      have cu := cp_up (f := g 22) (G := G) (sp := 5070 * k) (dp := 0) i0
      rw [Int.zero_add] at cu
      rw [uf_eq, uf_uf, cu] at M1
      obtain ⟨h2, e2, M2, F2⟩ := ih f h1 (i + 1) M1 (by omega) (by omega) (by omega)
      refine ⟨h2, ?_, M2, F1.trans F2⟩
      have r := M.r22 (i := 5070 * k + i) (by omega) (by omega)
      rw [uf_ne (by omega)] at r
      rw [← e2]
      simp (disch := omega) only [f9_back_25, M.f0, M.f34, r, e1, Option.bind_some, I_lit, I_neg, I_add, I_sub, I_mul, I_lt, I_le, I_eq, if_pos, if_neg, if_true, if_false, decide_eq_true_eq]
theorem MO.image (M : MO h m v se g gl) {k : Int} (k0 : 0 ≤ k) (k1 : k ≤ 3) : ∃ h', f9_image h m (I k) = some (I (g 1 0), h') ∧ MO h' m v se (uf (uf g 23 (up (g 23) k 1)) 22 (cp (g 1) (g 22) 0 (5070 * k) 5070)) gl ∧ Fr m (m + 24) h h' := by
  have fu := FU_big
  obtain ⟨h1, e1, M1, F1⟩ := M.w23 (i := k) 1 k0 (by omega)
  have M1' : MO h1 m v se (uf (uf g 23 (up (g 23) k 1)) 22 (cp (uf g 23 (up (g 23) k 1) 1) (uf g 23 (up (g 23) k 1) 22) 0 (5070 * k) 0)) gl := by
    rw [cp_0, uf_same]; exact M1
  obtain ⟨h2, e2, M2, F2⟩ := MO.imL k0 k1 5070 FU h1 0 M1' (by omega) (by omega) (by omega)
  rw [uf_ne (by omega), uf_ne (by omega)] at M2
  rw [uf_ne (by omega)] at e2
  refine ⟨h2, ?_, M2, F1.trans F2⟩
  have e1' : sI 3 h (m + 23) (I k) (vp_nar .boolean (1 : Int32)) = some h1 := e1
  rw [f9_image]
  simp only [J_lit]
  rw [M.o, Option.bind_some, in_I (by omega) (by omega) (by omega) (by omega) (by omega) (by omega), Option.bind_some, if_pos (decide_eq_true ⟨k0, k1⟩), M.f35, Option.bind_some, e1', Option.bind_some, I_0]
  exact e2
theorem MO.imageN (M : MO h m v se g gl) {k : Int} (k0 : -2147483648 ≤ k) (k1 : k < 2147483648) (hn : ¬ (0 ≤ k ∧ k ≤ 3)) : f9_image h m (I k) = some (I (-1), h) := by
  rw [f9_image]
  simp only [J_lit, I_lit, I_neg]
  rw [M.o, Option.bind_some, in_I k0 k1 (by omega) (by omega) (by omega) (by omega), Option.bind_some, if_neg (by simpa using hn)]
theorem MO.back (M : MO h m v se g gl) {k : Int} (k0 : 0 ≤ k) (k1 : k ≤ 3) (hm : g 23 k = 1) : ∃ h', f9_back h m (I k) = some (I (cp (g 22) (g 1) (5070 * k) 0 5070 0), h') ∧ MO h' m v se (uf g 1 (cp (g 22) (g 1) (5070 * k) 0 5070)) gl ∧ Fr m (m + 24) h h' := by
  have fu := FU_big
  have M1 : MO h m v se (uf g 1 (cp (g 22) (g 1) (5070 * k) 0 0)) gl := by
    rw [cp_0, uf_same]; exact M
  obtain ⟨h2, e2, M2, F2⟩ := MO.baL k0 k1 5070 FU h 0 M1 (by omega) (by omega) (by omega)
  refine ⟨h2, ?_, M2, F2⟩
  rw [f9_back]
  simp only [J_lit, I_lit, I_neg]
  rw [M.o, Option.bind_some, in_I (by omega) (by omega) (by omega) (by omega) (by omega) (by omega), Option.bind_some, if_pos (decide_eq_true ⟨k0, k1⟩), M.f35, Option.bind_some, M.r23 k0 (by omega), Option.bind_some, hm, if_neg (by rw [I_eq (by omega) (by omega) (by omega) (by omega)]; omega)]
  exact e2
theorem MO.backN (M : MO h m v se g gl) {k : Int} (k0 : -2147483648 ≤ k) (k1 : k < 2147483648) (hn : ¬ (0 ≤ k ∧ k ≤ 3) ∨ g 23 k = 0) : f9_back h m (I k) = some (I (-1), h) := by
  rw [f9_back]
  simp only [J_lit, I_lit, I_neg]
  rw [M.o, Option.bind_some, in_I k0 k1 (by omega) (by omega) (by omega) (by omega), Option.bind_some]
  by_cases z : 0 ≤ k ∧ k ≤ 3
  · have hm := hn.resolve_left (fun y => y z)
    rw [if_pos (decide_eq_true z), M.f35, Option.bind_some, M.r23 z.1 (by omega), Option.bind_some, hm, if_pos rfl]
  · rw [if_neg (by simpa using z)]
end
