/-! the ten words of a PIECE beside another one (gen50.py) -/
def wd (r : Int → Int) (p b : Int) : Int → Int := fun k => if k = 0 then ap r p b else if k = 1 then (if r (1330 + 10 * b) = 1 then 0 else 1) else if k = 2 then la r p else if k = 3 then pq r p (fun d l => wr r d l) else if k = 4 then pq r p (fun d l => sa r d l) else if k = 5 then pq r p (fun d _ => nw r d) else if k = 6 then pq r p (fun _ _ => true) else if k = 7 then r (1330 + 10 * p + 7) else if k = 8 then r 0 else vo r
theorem ap_rng {r : Int → Int} (R : RI r) {p b : Int} (p0 : 0 ≤ p) (p1 : p < r 4) (b0 : 0 ≤ b) (b1 : b < r 4) : 0 ≤ ap r p b ∧ ap r p b ≤ 99 * 5 := by
  have := fo_inv (f := fun k s => s + (if r (1330 + 10 * p + k) - r (1330 + 10 * b + k) < 0 then -(r (1330 + 10 * p + k) - r (1330 + 10 * b + k)) else r (1330 + 10 * p + k) - r (1330 + 10 * b + k))) (P := fun i s => 0 ≤ s ∧ s ≤ 99 * (i - 1)) 5 1 0 (fun j s h0 h1 hs => by
    have x := (pi_rng R p0 p1).2.1 j h0 (by omega)
    have y := (pi_rng R b0 b1).2.1 j h0 (by omega)
    split <;> omega) (by omega)
  unfold ap
  omega
theorem la_rng {r : Int → Int} (R : RI r) (p : Int) : 0 ≤ la r p ∧ la r p ≤ 1999 := by
  have a := ag_rng R p
  have b := R.1
  have := fo_inv (f := fun i m => if bi (r (1330 + 10 * p + 6)) i = 1 ∧ m < r (10 + 2 * i) - ag r p then r (10 + 2 * i) - ag r p else m) (P := fun _ m => 0 ≤ m ∧ m ≤ 1999) (r 1).toNat 0 0 (fun j s h0 h1 hs => by
    have x := R.2.1 j h0 (by omega)
    split <;> omega) (by omega)
  unfold la
  omega
theorem vo_rng {r : Int → Int} (R : RI r) : 0 ≤ vo r ∧ vo r ≤ 90 := by
  have b := R.1
  have := cn_nn (fun p => decide (r (1330 + 10 * p) = 0)) (r 4).toNat 0
  unfold vo
  omega
theorem wd_rng {r : Int → Int} (R : RI r) {p b : Int} (p0 : 0 ≤ p) (p1 : p < r 4) (b0 : 0 ≤ b) (b1 : b < r 4) (k : Int) : 0 ≤ wd r p b k ∧ wd r p b k ≤ 9999 := by
  have bb := R.1
  have a1 := ap_rng R p0 p1 b0 b1
  have a2 := la_rng R p
  have a3 := vo_rng R
  have a4 := pq_nn r p (fun d l => wr r d l)
  have a5 := pq_nn r p (fun d l => sa r d l)
  have a6 := pq_nn r p (fun d _ => nw r d)
  have a7 := pq_nn r p (fun _ _ => true)
  have a8 := (pi_rng R p0 p1).2.2.2.1
  unfold wd
  split
  · omega
  · split
    · split <;> omega
    · split
      · omega
      · split
        · omega
        · split
          · omega
          · split
            · omega
            · split
              · omega
              · split
                · omega
                · split <;> omega
theorem pw0 (r : Int → Int) : pw r 0 = fun _ _ => true := rfl
theorem pw1 (r : Int → Int) : pw r 1 = fun d l => wr r d l := rfl
theorem pw2 (r : Int → Int) : pw r 2 = fun d l => sa r d l := rfl
theorem pw3 (r : Int → Int) : pw r 3 = fun d _ => nw r d := rfl
theorem sp_w {wv wv' : Int → Int64} (hw : ∀ k, 0 ≤ k → k < 10 → wv k = wv' k) (c : Int) (L : List Int64) : sp wv c L = sp wv' c L := by
  unfold sp
  by_cases c0 : c < 0
  · rw [if_pos c0, if_pos c0]
  · rw [if_neg c0, if_neg c0]
    by_cases c1 : c < 10
    · rw [if_pos c1, if_pos c1, hw c (by omega) c1]
    · rw [if_neg c1, if_neg c1]
theorem rn_w {wv wv' : Int → Int64} (hw : ∀ k, 0 ≤ k → k < 10 → wv k = wv' k) (cd : Int → Int) : ∀ (k : Nat) (i : Int) (L : List Int64), rn wv cd k i L = rn wv' cd k i L := by
  intro k
  induction k with
  | zero => intro i L; rfl
  | succ k ih => intro i L; simp only [rn]; rw [sp_w hw, ih]
theorem ctv_w {wv wv' : Int → Int64} (hw : ∀ k, 0 ≤ k → k < 10 → wv k = wv' k) (sg cl : Int → Int) : ∀ (n : Nat) (c : Int), ctv wv sg cl n c = ctv wv' sg cl n c := by
  intro n
  induction n with
  | zero => intro c; rfl
  | succ n ih => intro c; simp only [ctv]; rw [rn_w hw, rn_w hw, ih]
section
variable {h h' : AH} {w0 : Nat} {r : Int → Int} {c : Nat → Int → Int}
set_option maxHeartbeats 4000000 in
theorem WD.fill (W : WD h w0 r c) {w : Nat} {ww : Int → Int} (hw : AI h w 0 10 ww) (dw : w + 1 ≤ w0 ∨ w0 + 20 ≤ w) {p b : Int} (p0 : 0 ≤ p) (p1 : p < r 4) (b0 : 0 ≤ b) (b1 : b < r 4) : ∃ h' w', f7_fillWords h w0 w (I p) (I b) = some h' ∧ AI h' w 0 10 w' ∧ (∀ k, 0 ≤ k → k < 10 → w' k = wd r p b k) ∧ Fr w (w + 1) h h' := by
  have R := W.ri
  have bb := R.1
  have so := (pi_rng R b0 b1).1
  obtain ⟨h1, e1, A1, F1⟩ := hw.set (i := 0) (v := ap r p b) (by omega) (by omega)
  have W1 := W.fr F1 (by omega)
  obtain ⟨h2, e2, A2, F2⟩ := A1.set (i := 1) (v := (if r (1330 + 10 * b) = 1 then 0 else 1)) (by omega) (by omega)
  have W2 := W1.fr F2 (by omega)
  obtain ⟨h3, e3, A3, F3⟩ := A2.set (i := 2) (v := la r p) (by omega) (by omega)
  have W3 := W2.fr F3 (by omega)
  obtain ⟨h4, e4, A4, F4⟩ := A3.set (i := 3) (v := pq r p (fun d l => wr r d l)) (by omega) (by omega)
  have W4 := W3.fr F4 (by omega)
  obtain ⟨h5, e5, A5, F5⟩ := A4.set (i := 4) (v := pq r p (fun d l => sa r d l)) (by omega) (by omega)
  have W5 := W4.fr F5 (by omega)
  obtain ⟨h6, e6, A6, F6⟩ := A5.set (i := 5) (v := pq r p (fun d _ => nw r d)) (by omega) (by omega)
  have W6 := W5.fr F6 (by omega)
  obtain ⟨h7, e7, A7, F7⟩ := A6.set (i := 6) (v := pq r p (fun _ _ => true)) (by omega) (by omega)
  have W7 := W6.fr F7 (by omega)
  obtain ⟨h8, e8, A8, F8⟩ := A7.set (i := 7) (v := r (1330 + 10 * p + 7)) (by omega) (by omega)
  have W8 := W7.fr F8 (by omega)
  obtain ⟨h9, e9, A9, F9⟩ := A8.set (i := 8) (v := r 0) (by omega) (by omega)
  have W9 := W8.fr F9 (by omega)
  obtain ⟨h10, e10, A10, F10⟩ := A9.set (i := 9) (v := vo r) (by omega) (by omega)
  have W10 := W9.fr F10 (by omega)
  refine ⟨h10, _, ?_, A10, fun k k0 k1 => ?_, (((((((((F1.trans F2).trans F3).trans F4).trans F5).trans F6).trans F7).trans F8).trans F9).trans F10)⟩
  · by_cases q : r (1330 + 10 * b) = 1
    · rw [if_pos q] at e2
      have e2' : sI 0 h1 w (I 1) (bI false) = some h2 := e2
      simp (disch := omega) only [f7_fillWords, f7_fillWords_37, W.o, hw.n, W.apart, e1, W1.f4, W1.pAt0, q, Option.bind_some, I_lit, I_neg, I_add, I_sub, I_mul, I_lt, I_le, I_eq, if_pos, if_neg, if_true, if_false, decide_eq_true_eq, e2', W2.late, e3, W3.wrongPages, e4, W4.sharedPages, e5, W5.nowherePages, e6, W6.pagesOf, e7, W7.f4, W7.pAt, e8, W8.f0, e9, W9.volumes, e10]
    · rw [if_neg q] at e2
      have e2' : sI 0 h1 w (I 1) (bI true) = some h2 := e2
      simp (disch := omega) only [f7_fillWords, f7_fillWords_37, W.o, hw.n, W.apart, e1, W1.f4, W1.pAt0, Option.bind_some, I_lit, I_neg, I_add, I_sub, I_mul, I_lt, I_le, I_eq, if_pos, if_neg, if_true, if_false, decide_eq_true_eq, e2', W2.late, e3, W3.wrongPages, e4, W4.sharedPages, e5, W5.nowherePages, e6, W6.pagesOf, e7, W7.f4, W7.pAt, e8, W8.f0, e9, W9.volumes, e10]
  · have kk : k = 0 ∨ k = 1 ∨ k = 2 ∨ k = 3 ∨ k = 4 ∨ k = 5 ∨ k = 6 ∨ k = 7 ∨ k = 8 ∨ k = 9 := by omega
    unfold wd
    rcases kk with e | e | e | e | e | e | e | e | e | e <;> subst e <;> simp (disch := omega) only [up_ne, up_eq, if_pos, if_neg, if_true]
end
section
variable {h h' : AH} {m : Nat} {v : Nat → Int} {se : Int64} {g : Nat → Int → Int} {gl : Nat → Int → Int64}
theorem MO.cap (M : MO h m v se g gl) (R : RI (g 1)) (t : Int32) {p b : Int} (p0 : 0 ≤ p) (p1 : p < g 1 4) (b0 : 0 ≤ b) (b1 : b < g 1 4) : ∀ (f : Nat) (a i : Int), 1 ≤ i → i ≤ 6 → 6 - i < f → ∃ f', f9_chanceOf_6 h m t (I p) (I b) f (I a) (I i) = f9_chanceOf_6 h m t (I p) (I b) (f' + 1) (I (fo (fun k s => s + (if g 1 (1330 + 10 * p + k) - g 1 (1330 + 10 * b + k) < 0 then -(g 1 (1330 + 10 * p + k) - g 1 (1330 + 10 * b + k)) else g 1 (1330 + 10 * p + k) - g 1 (1330 + 10 * b + k))) (6 - i).toNat i a)) (I 6) := by
  intro f
  induction f with
  | zero => intro a i h0 h1; omega
  | succ f ih =>
    intro a i i0 i1 i2
    by_cases c : i < 6
    · have x := (pi_rng R p0 p1).2.1 i (by omega) (by omega)
      have y := (pi_rng R b0 b1).2.1 i (by omega) (by omega)
      rw [fo_suc _ c]
      by_cases k : g 1 (1330 + 10 * p + i) - g 1 (1330 + 10 * b + i) < 0
      · obtain ⟨f', e⟩ := ih (a + -(g 1 (1330 + 10 * p + i) - g 1 (1330 + 10 * b + i))) (i + 1) (by omega) (by omega) (by omega)
        refine ⟨f', ?_⟩
        rw [if_pos k, ← e]
        simp (disch := omega) only [f9_chanceOf_6, M.cell R, Option.bind_some, I_lit, I_neg, I_add, I_sub, I_mul, I_lt, I_le, I_eq, if_pos, if_neg, if_true, if_false, decide_eq_true_eq]
      · obtain ⟨f', e⟩ := ih (a + (g 1 (1330 + 10 * p + i) - g 1 (1330 + 10 * b + i))) (i + 1) (by omega) (by omega) (by omega)
        refine ⟨f', ?_⟩
        rw [if_neg k, ← e]
        simp (disch := omega) only [f9_chanceOf_6, M.cell R, Option.bind_some, I_lit, I_neg, I_add, I_sub, I_mul, I_lt, I_le, I_eq, if_pos, if_neg, if_true, if_false, decide_eq_true_eq]
    · have : i = 6 := by omega
      subst this
      exact ⟨f, rfl⟩
set_option maxHeartbeats 4000000 in
theorem MO.words (M : MO h m v se g gl) (R : RI (g 1)) (t : Int32) {p b : Int} (p0 : 0 ≤ p) (p1 : p < g 1 4) (b0 : 0 ≤ b) (b1 : b < g 1 4) : ∃ h' gl', f9_chanceOf h m t (I p) (I b) = f9_chanceOf_193 m t FU h' (I 0) ∧ MO h' m v se g gl' ∧ (∀ k, 0 ≤ k → k < 10 → gl' 16 k = J (wd (g 1) p b k)) ∧ Fr m (m + 24) h h' := by
  have bb := R.1
  have fu := FU_big
  have so := (pi_rng R b0 b1).1
  have a1 := ap_rng R p0 p1 b0 b1
  have a2 := la_rng R p
  have a3 := vo_rng R
  have a4 := pq_nn (g 1) p (fun d l => wr (g 1) d l)
  have a5 := pq_nn (g 1) p (fun d l => sa (g 1) d l)
  have a6 := pq_nn (g 1) p (fun d _ => nw (g 1) d)
  have a7 := pq_nn (g 1) p (fun _ _ => true)
  have a8 := (pi_rng R p0 p1).2.2.2.1
  obtain ⟨f', ef⟩ := M.cap R t p0 p1 b0 b1 FU 0 1 (by omega) (by omega) (by omega)
  have eap : fo (fun k s => s + (if g 1 (1330 + 10 * p + k) - g 1 (1330 + 10 * b + k) < 0 then -(g 1 (1330 + 10 * p + k) - g 1 (1330 + 10 * b + k)) else g 1 (1330 + 10 * p + k) - g 1 (1330 + 10 * b + k))) (6 - 1 : Int).toNat 1 0 = ap (g 1) p b := rfl
  rw [eap] at ef
  obtain ⟨h1, e1, M1, F1⟩ := M.w16 (i := 0) (J (ap (g 1) p b)) (by omega) (by omega)
  obtain ⟨h2, e2, M2, F2⟩ := M1.w16 (i := 1) (J ((if (g 1) (1330 + 10 * b) = 1 then 0 else 1))) (by omega) (by omega)
  rw [ug_eq, ug_ug] at M2
  obtain ⟨h3, e3, M3, F3⟩ := M2.w16 (i := 2) (J (la (g 1) p)) (by omega) (by omega)
  rw [ug_eq, ug_ug] at M3
  obtain ⟨h4, e4, M4, F4⟩ := M3.w16 (i := 3) (J (pq (g 1) p (fun d l => wr (g 1) d l))) (by omega) (by omega)
  rw [ug_eq, ug_ug] at M4
  obtain ⟨h5, e5, M5, F5⟩ := M4.w16 (i := 4) (J (pq (g 1) p (fun d l => sa (g 1) d l))) (by omega) (by omega)
  rw [ug_eq, ug_ug] at M5
  obtain ⟨h6, e6, M6, F6⟩ := M5.w16 (i := 5) (J (pq (g 1) p (fun d _ => nw (g 1) d))) (by omega) (by omega)
  rw [ug_eq, ug_ug] at M6
  obtain ⟨h7, e7, M7, F7⟩ := M6.w16 (i := 6) (J (pq (g 1) p (fun _ _ => true))) (by omega) (by omega)
  rw [ug_eq, ug_ug] at M7
  obtain ⟨h8, e8, M8, F8⟩ := M7.w16 (i := 7) (J (g 1 (1330 + 10 * p + 7))) (by omega) (by omega)
  rw [ug_eq, ug_ug] at M8
  obtain ⟨h9, e9, M9, F9⟩ := M8.w16 (i := 8) (J (g 1 0)) (by omega) (by omega)
  rw [ug_eq, ug_ug] at M9
  obtain ⟨h10, e10, M10, F10⟩ := M9.w16 (i := 9) (J (vo (g 1))) (by omega) (by omega)
  rw [ug_eq, ug_ug] at M10
  refine ⟨h10, _, ?_, M10, fun k k0 k1 => ?_, (((((((((F1.trans F2).trans F3).trans F4).trans F5).trans F6).trans F7).trans F8).trans F9).trans F10)⟩
  · have st : f9_chanceOf h m t (I p) (I b) = f9_chanceOf_6 h m t (I p) (I b) FU (I 0) (I 1) := by
      simp (disch := omega) only [f9_chanceOf, M.o, Option.bind_some, I_lit, I_neg, I_add, I_sub, I_mul, I_lt, I_le, I_eq, if_pos, if_neg, if_true, if_false, decide_eq_true_eq]
    rw [st, ef]
    by_cases q : g 1 (1330 + 10 * b) = 1
    · rw [if_pos q] at e2
      have e2' : sL h1 (m + 16) (I 1) (0 : Int64) = some h2 := e2
      simp (disch := omega) only [f9_chanceOf_6, f9_chanceOf_83, M.f27, I_toJ, Option.bind_some, I_lit, I_neg, I_add, I_sub, I_mul, I_lt, I_le, I_eq, if_pos, if_neg, if_true, if_false, decide_eq_true_eq, e1, M1.f27, M1.cell0 R, q, e2', M2.f27, M2.late R, e3, M3.f27, M3.pagesOf R, pw1, e4, M4.f27, M4.pagesOf R, pw2, e5, M5.f27, M5.pagesOf R, pw3, e6, M6.f27, M6.pagesOf R, pw0, e7, M7.f27, M7.cell R, e8, M8.f27, M8.f0, M8.r1, e9, M9.f27, M9.volumes R, e10]
    · rw [if_neg q] at e2
      have e2' : sL h1 (m + 16) (I 1) (1 : Int64) = some h2 := e2
      simp (disch := omega) only [f9_chanceOf_6, f9_chanceOf_83, M.f27, I_toJ, Option.bind_some, I_lit, I_neg, I_add, I_sub, I_mul, I_lt, I_le, I_eq, if_pos, if_neg, if_true, if_false, decide_eq_true_eq, e1, M1.f27, M1.cell0 R,  e2', M2.f27, M2.late R, e3, M3.f27, M3.pagesOf R, pw1, e4, M4.f27, M4.pagesOf R, pw2, e5, M5.f27, M5.pagesOf R, pw3, e6, M6.f27, M6.pagesOf R, pw0, e7, M7.f27, M7.cell R, e8, M8.f27, M8.f0, M8.r1, e9, M9.f27, M9.volumes R, e10]
  · have kk : k = 0 ∨ k = 1 ∨ k = 2 ∨ k = 3 ∨ k = 4 ∨ k = 5 ∨ k = 6 ∨ k = 7 ∨ k = 8 ∨ k = 9 := by omega
    rw [ug_eq]
    unfold wd
    rcases kk with e | e | e | e | e | e | e | e | e | e <;> subst e <;> simp (disch := omega) only [ul_ne, ul_eq, if_pos, if_neg, if_true]
/-- CHANCE, of the reference -/
theorem MO.chanceOf (M : MO h m v se g gl) (R : RI (g 1)) {t p b : Int} (t0 : 0 ≤ t) (t1 : t < 14) (p0 : 0 ≤ p) (p1 : p < g 1 4) (b0 : 0 ≤ b) (b1 : b < g 1 4) {sg cl cd : Int → Int} {sz nc : Int} (hg : ∀ j, g 3 (400 * t + j) = sg j) (hc : ∀ j, g 5 (48 * t + j) = cl j) (hn : g 6 t = nc) (T : TX cd sz sg cl nc) : ∃ h' v' gl', f9_chanceOf h m (I t) (I p) (I b) = some (I (ctv (fun k => J (wd (g 1) p b k)) sg cl nc.toNat 0), h') ∧ MO h' m v' se g gl' ∧ (∀ j, j ≠ 26 → v' j = v j) ∧ Fr m (m + 24) h h' := by
  have fu := FU_big
  have T1 := T.1
  have T2 := T.2.1
  obtain ⟨h1, gl1, e1, M1, W1, F1⟩ := M.words R (I t) p0 p1 b0 b1
  obtain ⟨h2, v2, gl2, e2, M2, W2, V2, F2⟩ := MO.c193 t0 t1 hg hc hn T nc.toNat FU h1 v gl1 0 M1 rfl (by omega) (by omega) (by omega)
  refine ⟨h2, v2, gl2, ?_, M2, V2, F1.trans F2⟩
  rw [e1, e2, ctv_w W1]
end
