/-! the start: the class, the reference (gen89w.py) -/
def MWn (h0 h : AH) (m n : Nat) (fs : List Value) : Prop := h.1 = m + 1 + n ∧ OB h m 9 fs ∧ (∀ a : Nat, 1 ≤ a → a ≤ n → a ≠ 15 → a ≠ 16 → AI h (m + a) (m_t a) (m_n a) (fun _ => 0)) ∧ (15 ≤ n → AL h (m + 15) 64 (fun _ => J 0)) ∧ (16 ≤ n → AL h (m + 16) 10 (fun _ => J 0)) ∧ FB m h0 h
theorem MWn.i {h0 h : AH} {m n : Nat} {fs : List Value} (W : MWn h0 h m n fs) {o n' : Nat} (ho : o = m + n') (hn : n' = n + 1) (k : Nat) (hk : k < fs.length) {N : Int} {t B : Nat} (et : m_t n' = t) (en : m_n n' = N) (ht : t = 0 ∨ t = 2 ∨ t = 3) (c : n' ≠ 15 ∧ n' ≠ 16) (n0 : 0 ≤ N) (n1 : N ≤ B) (hB : B < 2147483648) {gs : List Value} (hg : fs.set k (.ref o) = gs) : ∃ h1 h', nB t B h (I N) = some (o, h1) ∧ fS 9 k h1 m (.ref o) = some h' ∧ MWn h0 h' m n' gs := by
  subst hg
  obtain ⟨s, O, A, L1, L2, b⟩ := W
  obtain ⟨h1, h2, e1, e2, O2, A2, s2, c2⟩ := newI (o := o) (t := t) (n := N) (B := B) (by omega) O (by omega) k hk ht n0 n1 hB
  refine ⟨h1, h2, e1, e2, by omega, O2, fun a a0 a1 a2 a3 => ?_, fun z => (L1 (by omega)).at (c2 _ (by omega) (by omega)), fun z => (L2 (by omega)).at (c2 _ (by omega) (by omega)), fun q hq => by rw [c2 q (by omega) (by omega), b q hq]⟩
  by_cases y : a = n'
  · subst y
    rw [et, en, ← ho]
    exact A2
  · exact (A a a0 (by omega) a2 a3).at (c2 _ (by omega) (by omega))
theorem MWn.l15 {h0 h : AH} {m : Nat} {fs : List Value} (W : MWn h0 h m 14 fs) (k : Nat) (hk : k < fs.length) {gs : List Value} (hg : fs.set k (.ref (m + 15)) = gs) : ∃ h1 h', nB 1 64 h (I 64) = some (m + 15, h1) ∧ fS 9 k h1 m (.ref (m + 15)) = some h' ∧ MWn h0 h' m 15 gs := by
  subst hg
  obtain ⟨s, O, A, L1, L2, b⟩ := W
  obtain ⟨h1, h2, e1, e2, O2, A2, s2, c2⟩ := newL (o := m + 15) (n := 64) (B := 64) (by omega) O (by omega) k hk (by omega) (by omega) (by omega)
  exact ⟨h1, h2, e1, e2, by omega, O2, fun a a0 a1 a2 a3 => (A a a0 (by omega) a2 a3).at (c2 _ (by omega) (by omega)), fun z => A2, fun z => by omega, fun q hq => by rw [c2 q (by omega) (by omega), b q hq]⟩
theorem MWn.l16 {h0 h : AH} {m : Nat} {fs : List Value} (W : MWn h0 h m 15 fs) (k : Nat) (hk : k < fs.length) {gs : List Value} (hg : fs.set k (.ref (m + 16)) = gs) : ∃ h1 h', nB 1 10 h (I 10) = some (m + 16, h1) ∧ fS 9 k h1 m (.ref (m + 16)) = some h' ∧ MWn h0 h' m 16 gs := by
  subst hg
  obtain ⟨s, O, A, L1, L2, b⟩ := W
  obtain ⟨h1, h2, e1, e2, O2, A2, s2, c2⟩ := newL (o := m + 16) (n := 10) (B := 10) (by omega) O (by omega) k hk (by omega) (by omega) (by omega)
  exact ⟨h1, h2, e1, e2, by omega, O2, fun a a0 a1 a2 a3 => (A a a0 (by omega) a2 a3).at (c2 _ (by omega) (by omega)), fun z => (L1 (by omega)).at (c2 _ (by omega) (by omega)), fun z => A2, fun q hq => by rw [c2 q (by omega) (by omega), b q hq]⟩
theorem st2 {t B i m o : Nat} {h k h' : AH} {n : Int32} {F : AH → Option AH} (d : nB t B h n = some (o, k)) (e : fS 9 i k m (.ref o) = some h') : ((nB t B h n).bind fun y => (fS 9 i y.2 m (.ref y.1)).bind F) = F h' := by
  rw [d, Option.bind_some]
  dsimp only
  rw [e, Option.bind_some]
set_option maxHeartbeats 8000000 in
theorem initMO {h : AH} {m : Nat} (e : h.1 = m) : ∃ h', f9_init (hN h (.inr (9, [.null, .null, .int 0, .null, .null, .null, .null, .null, .null, .null, .null, .null, .null, .null, .int 0, .int 0, .int 0, .int 0, .int 0, .int 0, .int 0, .int 0, .int 0, .null, .int 0, .null, .int 0, .null, .null, .null, .long 0, .null, .null, .null, .null, .null]))) m = some h' ∧ MO h' m (fun _ => 0) 0 (fun _ _ => 0) (fun _ _ => J 0) ∧ h'.1 = m + 24 ∧ FB m h h' := by
  have W0 : MWn h (hN h (.inr (9, [.null, .null, .int 0, .null, .null, .null, .null, .null, .null, .null, .null, .null, .null, .null, .int 0, .int 0, .int 0, .int 0, .int 0, .int 0, .int 0, .int 0, .int 0, .null, .int 0, .null, .int 0, .null, .null, .null, .long 0, .null, .null, .null, .null, .null]))) m 0 [.null, .null, .int 0, .null, .null, .null, .null, .null, .null, .null, .null, .null, .null, .null, .int 0, .int 0, .int 0, .int 0, .int 0, .int 0, .int 0, .int 0, .int 0, .null, .int 0, .null, .int 0, .null, .null, .null, .long 0, .null, .null, .null, .null, .null] := ⟨by rw [← e]; rfl, hN_at e.symm, fun a a0 a1 => by omega, fun z => by omega, fun z => by omega, fun q hq => hN_ne (by omega)⟩
  generalize hN h (.inr (9, [.null, .null, .int 0, .null, .null, .null, .null, .null, .null, .null, .null, .null, .null, .null, .int 0, .int 0, .int 0, .int 0, .int 0, .int 0, .int 0, .int 0, .int 0, .null, .int 0, .null, .int 0, .null, .null, .null, .long 0, .null, .null, .null, .null, .null])) = h0 at *
  obtain ⟨k1, h1, d1, e1, W1⟩ := W0.i (o := m + 1) (n' := 1) (N := 5070) (t := 0) (B := 5070) rfl rfl 0 (by simp) rfl rfl (by omega) (by omega) (by omega) (by omega) (by omega) (gs := [.ref (m + 1), .null, .int 0, .null, .null, .null, .null, .null, .null, .null, .null, .null, .null, .null, .int 0, .int 0, .int 0, .int 0, .int 0, .int 0, .int 0, .int 0, .int 0, .null, .int 0, .null, .int 0, .null, .null, .null, .long 0, .null, .null, .null, .null, .null]) rfl
  obtain ⟨k2, h2, d2, e2, W2⟩ := W1.i (o := m + 2) (n' := 2) (N := 400) (t := 2) (B := 400) rfl rfl 1 (by simp) rfl rfl (by omega) (by omega) (by omega) (by omega) (by omega) (gs := [.ref (m + 1), .ref (m + 2), .int 0, .null, .null, .null, .null, .null, .null, .null, .null, .null, .null, .null, .int 0, .int 0, .int 0, .int 0, .int 0, .int 0, .int 0, .int 0, .int 0, .null, .int 0, .null, .int 0, .null, .null, .null, .long 0, .null, .null, .null, .null, .null]) rfl
  obtain ⟨k3, h3, d3, e3, W3⟩ := W2.i (o := m + 3) (n' := 3) (N := 5600) (t := 0) (B := 5600) rfl rfl 3 (by simp) rfl rfl (by omega) (by omega) (by omega) (by omega) (by omega) (gs := [.ref (m + 1), .ref (m + 2), .int 0, .ref (m + 3), .null, .null, .null, .null, .null, .null, .null, .null, .null, .null, .int 0, .int 0, .int 0, .int 0, .int 0, .int 0, .int 0, .int 0, .int 0, .null, .int 0, .null, .int 0, .null, .null, .null, .long 0, .null, .null, .null, .null, .null]) rfl
  obtain ⟨k4, h4, d4, e4, W4⟩ := W3.i (o := m + 4) (n' := 4) (N := 14) (t := 0) (B := 14) rfl rfl 4 (by simp) rfl rfl (by omega) (by omega) (by omega) (by omega) (by omega) (gs := [.ref (m + 1), .ref (m + 2), .int 0, .ref (m + 3), .ref (m + 4), .null, .null, .null, .null, .null, .null, .null, .null, .null, .int 0, .int 0, .int 0, .int 0, .int 0, .int 0, .int 0, .int 0, .int 0, .null, .int 0, .null, .int 0, .null, .null, .null, .long 0, .null, .null, .null, .null, .null]) rfl
  obtain ⟨k5, h5, d5, e5, W5⟩ := W4.i (o := m + 5) (n' := 5) (N := 672) (t := 0) (B := 672) rfl rfl 5 (by simp) rfl rfl (by omega) (by omega) (by omega) (by omega) (by omega) (gs := [.ref (m + 1), .ref (m + 2), .int 0, .ref (m + 3), .ref (m + 4), .ref (m + 5), .null, .null, .null, .null, .null, .null, .null, .null, .int 0, .int 0, .int 0, .int 0, .int 0, .int 0, .int 0, .int 0, .int 0, .null, .int 0, .null, .int 0, .null, .null, .null, .long 0, .null, .null, .null, .null, .null]) rfl
  obtain ⟨k6, h6, d6, e6, W6⟩ := W5.i (o := m + 6) (n' := 6) (N := 14) (t := 0) (B := 14) rfl rfl 6 (by simp) rfl rfl (by omega) (by omega) (by omega) (by omega) (by omega) (gs := [.ref (m + 1), .ref (m + 2), .int 0, .ref (m + 3), .ref (m + 4), .ref (m + 5), .ref (m + 6), .null, .null, .null, .null, .null, .null, .null, .int 0, .int 0, .int 0, .int 0, .int 0, .int 0, .int 0, .int 0, .int 0, .null, .int 0, .null, .int 0, .null, .null, .null, .long 0, .null, .null, .null, .null, .null]) rfl
  obtain ⟨k7, h7, d7, e7, W7⟩ := W6.i (o := m + 7) (n' := 7) (N := 14) (t := 0) (B := 14) rfl rfl 7 (by simp) rfl rfl (by omega) (by omega) (by omega) (by omega) (by omega) (gs := [.ref (m + 1), .ref (m + 2), .int 0, .ref (m + 3), .ref (m + 4), .ref (m + 5), .ref (m + 6), .ref (m + 7), .null, .null, .null, .null, .null, .null, .int 0, .int 0, .int 0, .int 0, .int 0, .int 0, .int 0, .int 0, .int 0, .null, .int 0, .null, .int 0, .null, .null, .null, .long 0, .null, .null, .null, .null, .null]) rfl
  obtain ⟨k8, h8, d8, e8, W8⟩ := W7.i (o := m + 8) (n' := 8) (N := 14) (t := 0) (B := 14) rfl rfl 8 (by simp) rfl rfl (by omega) (by omega) (by omega) (by omega) (by omega) (gs := [.ref (m + 1), .ref (m + 2), .int 0, .ref (m + 3), .ref (m + 4), .ref (m + 5), .ref (m + 6), .ref (m + 7), .ref (m + 8), .null, .null, .null, .null, .null, .int 0, .int 0, .int 0, .int 0, .int 0, .int 0, .int 0, .int 0, .int 0, .null, .int 0, .null, .int 0, .null, .null, .null, .long 0, .null, .null, .null, .null, .null]) rfl
  obtain ⟨k9, h9, d9, e9, W9⟩ := W8.i (o := m + 9) (n' := 9) (N := 14) (t := 0) (B := 14) rfl rfl 9 (by simp) rfl rfl (by omega) (by omega) (by omega) (by omega) (by omega) (gs := [.ref (m + 1), .ref (m + 2), .int 0, .ref (m + 3), .ref (m + 4), .ref (m + 5), .ref (m + 6), .ref (m + 7), .ref (m + 8), .ref (m + 9), .null, .null, .null, .null, .int 0, .int 0, .int 0, .int 0, .int 0, .int 0, .int 0, .int 0, .int 0, .null, .int 0, .null, .int 0, .null, .null, .null, .long 0, .null, .null, .null, .null, .null]) rfl
  obtain ⟨k10, h10, d10, e10, W10⟩ := W9.i (o := m + 10) (n' := 10) (N := 14) (t := 0) (B := 14) rfl rfl 10 (by simp) rfl rfl (by omega) (by omega) (by omega) (by omega) (by omega) (gs := [.ref (m + 1), .ref (m + 2), .int 0, .ref (m + 3), .ref (m + 4), .ref (m + 5), .ref (m + 6), .ref (m + 7), .ref (m + 8), .ref (m + 9), .ref (m + 10), .null, .null, .null, .int 0, .int 0, .int 0, .int 0, .int 0, .int 0, .int 0, .int 0, .int 0, .null, .int 0, .null, .int 0, .null, .null, .null, .long 0, .null, .null, .null, .null, .null]) rfl
  obtain ⟨k11, h11, d11, e11, W11⟩ := W10.i (o := m + 11) (n' := 11) (N := 168) (t := 0) (B := 168) rfl rfl 11 (by simp) rfl rfl (by omega) (by omega) (by omega) (by omega) (by omega) (gs := [.ref (m + 1), .ref (m + 2), .int 0, .ref (m + 3), .ref (m + 4), .ref (m + 5), .ref (m + 6), .ref (m + 7), .ref (m + 8), .ref (m + 9), .ref (m + 10), .ref (m + 11), .null, .null, .int 0, .int 0, .int 0, .int 0, .int 0, .int 0, .int 0, .int 0, .int 0, .null, .int 0, .null, .int 0, .null, .null, .null, .long 0, .null, .null, .null, .null, .null]) rfl
  obtain ⟨k12, h12, d12, e12, W12⟩ := W11.i (o := m + 12) (n' := 12) (N := 14) (t := 0) (B := 14) rfl rfl 12 (by simp) rfl rfl (by omega) (by omega) (by omega) (by omega) (by omega) (gs := [.ref (m + 1), .ref (m + 2), .int 0, .ref (m + 3), .ref (m + 4), .ref (m + 5), .ref (m + 6), .ref (m + 7), .ref (m + 8), .ref (m + 9), .ref (m + 10), .ref (m + 11), .ref (m + 12), .null, .int 0, .int 0, .int 0, .int 0, .int 0, .int 0, .int 0, .int 0, .int 0, .null, .int 0, .null, .int 0, .null, .null, .null, .long 0, .null, .null, .null, .null, .null]) rfl
  obtain ⟨k13, h13, d13, e13, W13⟩ := W12.i (o := m + 13) (n' := 13) (N := 14) (t := 0) (B := 14) rfl rfl 13 (by simp) rfl rfl (by omega) (by omega) (by omega) (by omega) (by omega) (gs := [.ref (m + 1), .ref (m + 2), .int 0, .ref (m + 3), .ref (m + 4), .ref (m + 5), .ref (m + 6), .ref (m + 7), .ref (m + 8), .ref (m + 9), .ref (m + 10), .ref (m + 11), .ref (m + 12), .ref (m + 13), .int 0, .int 0, .int 0, .int 0, .int 0, .int 0, .int 0, .int 0, .int 0, .null, .int 0, .null, .int 0, .null, .null, .null, .long 0, .null, .null, .null, .null, .null]) rfl
  obtain ⟨k14, h14, d14, e14, W14⟩ := W13.i (o := m + 14) (n' := 14) (N := 400) (t := 0) (B := 400) rfl rfl 23 (by simp) rfl rfl (by omega) (by omega) (by omega) (by omega) (by omega) (gs := [.ref (m + 1), .ref (m + 2), .int 0, .ref (m + 3), .ref (m + 4), .ref (m + 5), .ref (m + 6), .ref (m + 7), .ref (m + 8), .ref (m + 9), .ref (m + 10), .ref (m + 11), .ref (m + 12), .ref (m + 13), .int 0, .int 0, .int 0, .int 0, .int 0, .int 0, .int 0, .int 0, .int 0, .ref (m + 14), .int 0, .null, .int 0, .null, .null, .null, .long 0, .null, .null, .null, .null, .null]) rfl
  obtain ⟨k15, h15, d15, e15, W15⟩ := W14.l15 25 (by simp) (gs := [.ref (m + 1), .ref (m + 2), .int 0, .ref (m + 3), .ref (m + 4), .ref (m + 5), .ref (m + 6), .ref (m + 7), .ref (m + 8), .ref (m + 9), .ref (m + 10), .ref (m + 11), .ref (m + 12), .ref (m + 13), .int 0, .int 0, .int 0, .int 0, .int 0, .int 0, .int 0, .int 0, .int 0, .ref (m + 14), .int 0, .ref (m + 15), .int 0, .null, .null, .null, .long 0, .null, .null, .null, .null, .null]) rfl
  obtain ⟨k16, h16, d16, e16, W16⟩ := W15.l16 27 (by simp) (gs := [.ref (m + 1), .ref (m + 2), .int 0, .ref (m + 3), .ref (m + 4), .ref (m + 5), .ref (m + 6), .ref (m + 7), .ref (m + 8), .ref (m + 9), .ref (m + 10), .ref (m + 11), .ref (m + 12), .ref (m + 13), .int 0, .int 0, .int 0, .int 0, .int 0, .int 0, .int 0, .int 0, .int 0, .ref (m + 14), .int 0, .ref (m + 15), .int 0, .ref (m + 16), .null, .null, .long 0, .null, .null, .null, .null, .null]) rfl
  obtain ⟨k17, h17, d17, e17, W17⟩ := W16.i (o := m + 17) (n' := 17) (N := 90) (t := 0) (B := 90) rfl rfl 28 (by simp) rfl rfl (by omega) (by omega) (by omega) (by omega) (by omega) (gs := [.ref (m + 1), .ref (m + 2), .int 0, .ref (m + 3), .ref (m + 4), .ref (m + 5), .ref (m + 6), .ref (m + 7), .ref (m + 8), .ref (m + 9), .ref (m + 10), .ref (m + 11), .ref (m + 12), .ref (m + 13), .int 0, .int 0, .int 0, .int 0, .int 0, .int 0, .int 0, .int 0, .int 0, .ref (m + 14), .int 0, .ref (m + 15), .int 0, .ref (m + 16), .ref (m + 17), .null, .long 0, .null, .null, .null, .null, .null]) rfl
  obtain ⟨k18, h18, d18, e18, W18⟩ := W17.i (o := m + 18) (n' := 18) (N := 90) (t := 0) (B := 90) rfl rfl 29 (by simp) rfl rfl (by omega) (by omega) (by omega) (by omega) (by omega) (gs := [.ref (m + 1), .ref (m + 2), .int 0, .ref (m + 3), .ref (m + 4), .ref (m + 5), .ref (m + 6), .ref (m + 7), .ref (m + 8), .ref (m + 9), .ref (m + 10), .ref (m + 11), .ref (m + 12), .ref (m + 13), .int 0, .int 0, .int 0, .int 0, .int 0, .int 0, .int 0, .int 0, .int 0, .ref (m + 14), .int 0, .ref (m + 15), .int 0, .ref (m + 16), .ref (m + 17), .ref (m + 18), .long 0, .null, .null, .null, .null, .null]) rfl
  obtain ⟨k19, h19, d19, e19, W19⟩ := W18.i (o := m + 19) (n' := 19) (N := 6) (t := 0) (B := 6) rfl rfl 31 (by simp) rfl rfl (by omega) (by omega) (by omega) (by omega) (by omega) (gs := [.ref (m + 1), .ref (m + 2), .int 0, .ref (m + 3), .ref (m + 4), .ref (m + 5), .ref (m + 6), .ref (m + 7), .ref (m + 8), .ref (m + 9), .ref (m + 10), .ref (m + 11), .ref (m + 12), .ref (m + 13), .int 0, .int 0, .int 0, .int 0, .int 0, .int 0, .int 0, .int 0, .int 0, .ref (m + 14), .int 0, .ref (m + 15), .int 0, .ref (m + 16), .ref (m + 17), .ref (m + 18), .long 0, .ref (m + 19), .null, .null, .null, .null]) rfl
  obtain ⟨k20, h20, d20, e20, W20⟩ := W19.i (o := m + 20) (n' := 20) (N := 6) (t := 0) (B := 6) rfl rfl 32 (by simp) rfl rfl (by omega) (by omega) (by omega) (by omega) (by omega) (gs := [.ref (m + 1), .ref (m + 2), .int 0, .ref (m + 3), .ref (m + 4), .ref (m + 5), .ref (m + 6), .ref (m + 7), .ref (m + 8), .ref (m + 9), .ref (m + 10), .ref (m + 11), .ref (m + 12), .ref (m + 13), .int 0, .int 0, .int 0, .int 0, .int 0, .int 0, .int 0, .int 0, .int 0, .ref (m + 14), .int 0, .ref (m + 15), .int 0, .ref (m + 16), .ref (m + 17), .ref (m + 18), .long 0, .ref (m + 19), .ref (m + 20), .null, .null, .null]) rfl
  obtain ⟨k21, h21, d21, e21, W21⟩ := W20.i (o := m + 21) (n' := 21) (N := 8) (t := 0) (B := 8) rfl rfl 33 (by simp) rfl rfl (by omega) (by omega) (by omega) (by omega) (by omega) (gs := [.ref (m + 1), .ref (m + 2), .int 0, .ref (m + 3), .ref (m + 4), .ref (m + 5), .ref (m + 6), .ref (m + 7), .ref (m + 8), .ref (m + 9), .ref (m + 10), .ref (m + 11), .ref (m + 12), .ref (m + 13), .int 0, .int 0, .int 0, .int 0, .int 0, .int 0, .int 0, .int 0, .int 0, .ref (m + 14), .int 0, .ref (m + 15), .int 0, .ref (m + 16), .ref (m + 17), .ref (m + 18), .long 0, .ref (m + 19), .ref (m + 20), .ref (m + 21), .null, .null]) rfl
  obtain ⟨k22, h22, d22, e22, W22⟩ := W21.i (o := m + 22) (n' := 22) (N := 20280) (t := 0) (B := 20280) rfl rfl 34 (by simp) rfl rfl (by omega) (by omega) (by omega) (by omega) (by omega) (gs := [.ref (m + 1), .ref (m + 2), .int 0, .ref (m + 3), .ref (m + 4), .ref (m + 5), .ref (m + 6), .ref (m + 7), .ref (m + 8), .ref (m + 9), .ref (m + 10), .ref (m + 11), .ref (m + 12), .ref (m + 13), .int 0, .int 0, .int 0, .int 0, .int 0, .int 0, .int 0, .int 0, .int 0, .ref (m + 14), .int 0, .ref (m + 15), .int 0, .ref (m + 16), .ref (m + 17), .ref (m + 18), .long 0, .ref (m + 19), .ref (m + 20), .ref (m + 21), .ref (m + 22), .null]) rfl
  obtain ⟨k23, h23, d23, e23, W23⟩ := W22.i (o := m + 23) (n' := 23) (N := 4) (t := 3) (B := 4) rfl rfl 35 (by simp) rfl rfl (by omega) (by omega) (by omega) (by omega) (by omega) (gs := [.ref (m + 1), .ref (m + 2), .int 0, .ref (m + 3), .ref (m + 4), .ref (m + 5), .ref (m + 6), .ref (m + 7), .ref (m + 8), .ref (m + 9), .ref (m + 10), .ref (m + 11), .ref (m + 12), .ref (m + 13), .int 0, .int 0, .int 0, .int 0, .int 0, .int 0, .int 0, .int 0, .int 0, .ref (m + 14), .int 0, .ref (m + 15), .int 0, .ref (m + 16), .ref (m + 17), .ref (m + 18), .long 0, .ref (m + 19), .ref (m + 20), .ref (m + 21), .ref (m + 22), .ref (m + 23)]) rfl
  refine ⟨h23, ?_, ⟨W23.2.1, fun a a0 a1 a2 a3 => W23.2.2.1 a a0 a1 a2 a3, W23.2.2.2.1 (by omega), W23.2.2.2.2.1 (by omega)⟩, by have := W23.1; omega, W23.2.2.2.2.2⟩
  rw [f9_init]
  simp only [I_lit, I_neg]
  rw [W0.2.1.o, Option.bind_some, st2 d1 e1, st2 d2 e2, st2 d3 e3, st2 d4 e4, st2 d5 e5, st2 d6 e6, st2 d7 e7, st2 d8 e8, st2 d9 e9, st2 d10 e10, st2 d11 e11, st2 d12 e12, st2 d13 e13, st2 d14 e14, st2 d15 e15, st2 d16 e16, st2 d17 e17, st2 d18 e18, st2 d19 e19, st2 d20 e20, st2 d21 e21, st2 d22 e22, st2 d23 e23]
def ruZ : Int → Nat → Int := fun _ j => if j < 2 then 1 else 0
def muZ : Int → Nat → Int := fun _ j => if j = 0 then 1 else 0
theorem rdLoop {x : Nat} : ∀ (d f i : Nat) (h : AH), i + d = 8 → d < f → XO h x 0 0 → h.1 = x + 35 + 3 * i → AQ h (x + 26) 5 8 (fun k => if k < i then some (x + 35 + 3 * k.toNat) else none) → (∀ k : Int, 0 ≤ k → k < i → RDx h (x + 35 + 3 * k.toNat) (ruZ k) (fun _ => 0)) → ∃ h', f8_init_94 x f h (I i) = f8_init_124 x 7 h' 0 ∧ XO h' x 0 0 ∧ h'.1 = x + 59 ∧ AQ h' (x + 26) 5 8 (fun k => some (x + 35 + 3 * k.toNat)) ∧ (∀ k : Int, 0 ≤ k → k < 8 → RDx h' (x + 35 + 3 * k.toNat) (ruZ k) (fun _ => 0)) ∧ ∀ q, q < x + 35 → q ≠ x + 26 → h'.2 q = h.2 q
  | 0, 0, _, _, _, hf => by omega
  | 0, f + 1, i, h, hi, hf => fun O s A D => by
    have e8 : i = 8 := by omega
    subst e8
    refine ⟨h, ?_, O, by omega, A.cong (fun k k0 k1 => if_pos (by omega)), fun k k0 k1 => D k k0 (by omega), fun q _ _ => rfl⟩
    have l8 : (I 8 ≤ I ((8 : Nat) : Int)) = ((8 : Int) ≤ ((8 : Nat) : Int)) := I_le (by omega) (by omega) (by omega) (by omega)
    rw [f8_init_94.eq_2, O.f4, Option.bind_some, A.n (by decide), Option.bind_some, if_pos (by rw [l8]; omega)]
  | d + 1, 0, _, _, _, hf => by omega
  | d + 1, f + 1, i, h, hi, hf => fun O s A D => by
    obtain ⟨h1, e1, D1, s1, b1⟩ := initRD s
    have A1 := A.at (b1 (x + 26) (by omega))
    obtain ⟨h2, e2, A2, F2⟩ := A1.set (ci := 3) (i := (i : Int)) (x + 35 + 3 * i) D1.o (by omega) (by omega)
    have kp : ∀ q, q < x + 35 + 3 * i → q ≠ x + 26 → h2.2 q = h.2 q := fun q q0 q1 => by rw [F2.2 q (by omega), b1 q q0]
    have O2 : XO h2 x 0 0 := OB.at O (kp x (by omega) (by omega))
    obtain ⟨h', e', O', s', A', D', k'⟩ := rdLoop d f (i + 1) h2 (by omega) (by omega) O2 (by rw [F2.1, s1]; omega) (A2.cong fun k k0 k1 => by
      show (if k = (i : Int) then some (x + 35 + 3 * i) else if k < (i : Int) then some (x + 35 + 3 * k.toNat) else none) = _
      by_cases y : k = i
      · rw [if_pos y, if_pos (by omega), y, Int.toNat_natCast]
      · rw [if_neg y]
        by_cases z : k < i
        · rw [if_pos z, if_pos (by omega)]
        · rw [if_neg z, if_neg (by omega)]) (fun k k0 k1 => by
      by_cases y : k = i
      · have D2 : RDx h1 (x + 35 + 3 * i) (ruZ k) (fun _ => 0) := ⟨_, _, D1, fun _ _ => rfl⟩
        have D3 := D2.fr F2 (by omega)
        rw [y, Int.toNat_natCast]
        rw [y] at D3
        exact D3
      · exact (D k k0 (by omega)).kp fun z z0 z1 => kp z (by omega) (by omega))
    refine ⟨h', ?_, O', s', A', D', fun q q0 q1 => by rw [k' q q0 q1, kp q (by omega) q1]⟩
    have o1 : I (i : Int) + I 1 = I ((i + 1 : Nat) : Int) := by rw [I_add]; exact congrArg I (by omega)
    have one : I (i : Int) + (1 : Int32) = I ((i + 1 : Nat) : Int) := o1
    have l8 : (I 8 ≤ I (i : Int)) = ((8 : Int) ≤ (i : Int)) := I_le (by omega) (by omega) (by omega) (by omega)
    rw [f8_init_94.eq_2, O.f4, Option.bind_some, A.n (by decide), Option.bind_some, if_neg (by rw [l8]; omega), Option.bind_some, nO_of s, Option.bind_some]
    dsimp only
    rw [e1, Option.bind_some, e2, Option.bind_some, Option.bind_some, one, e']
theorem mkLoop {x : Nat} : ∀ (d f i : Nat) (h : AH), i + d = 6 → d < f → XO h x 0 0 → h.1 = x + 59 + 2 * i → AQ h (x + 27) 6 6 (fun k => if k < i then some (x + 59 + 2 * k.toNat) else none) → (∀ k : Int, 0 ≤ k → k < i → MK h (x + 59 + 2 * k.toNat) (muZ k) (fun _ => 0)) → ∃ h', f8_init_124 x f h (I i) = some h' ∧ XO h' x 0 0 ∧ h'.1 = x + 71 ∧ AQ h' (x + 27) 6 6 (fun k => some (x + 59 + 2 * k.toNat)) ∧ (∀ k : Int, 0 ≤ k → k < 6 → MK h' (x + 59 + 2 * k.toNat) (muZ k) (fun _ => 0)) ∧ ∀ q, q < x + 59 → q ≠ x + 27 → h'.2 q = h.2 q
  | 0, 0, _, _, _, hf => by omega
  | 0, f + 1, i, h, hi, hf => fun O s A D => by
    have e8 : i = 6 := by omega
    subst e8
    refine ⟨h, ?_, O, by omega, A.cong (fun k k0 k1 => if_pos (by omega)), fun k k0 k1 => D k k0 (by omega), fun q _ _ => rfl⟩
    have l8 : (I 6 ≤ I ((6 : Nat) : Int)) = ((6 : Int) ≤ ((6 : Nat) : Int)) := I_le (by omega) (by omega) (by omega) (by omega)
    rw [f8_init_124.eq_2, O.f6, Option.bind_some, A.n (by decide), Option.bind_some, if_pos (by rw [l8]; omega)]
  | d + 1, 0, _, _, _, hf => by omega
  | d + 1, f + 1, i, h, hi, hf => fun O s A D => by
    obtain ⟨h1, e1, D1, s1, b1⟩ := initMK s
    have A1 := A.at (b1 (x + 27) (by omega))
    obtain ⟨h2, e2, A2, F2⟩ := A1.set (ci := 0) (i := (i : Int)) (x + 59 + 2 * i) D1.1.o (by omega) (by omega)
    have kp : ∀ q, q < x + 59 + 2 * i → q ≠ x + 27 → h2.2 q = h.2 q := fun q q0 q1 => by rw [F2.2 q (by omega), b1 q q0]
    have O2 : XO h2 x 0 0 := OB.at O (kp x (by omega) (by omega))
    obtain ⟨h', e', O', s', A', D', k'⟩ := mkLoop d f (i + 1) h2 (by omega) (by omega) O2 (by rw [F2.1, s1]; omega) (A2.cong fun k k0 k1 => by
      show (if k = (i : Int) then some (x + 59 + 2 * i) else if k < (i : Int) then some (x + 59 + 2 * k.toNat) else none) = _
      by_cases y : k = i
      · rw [if_pos y, if_pos (by omega), y, Int.toNat_natCast]
      · rw [if_neg y]
        by_cases z : k < i
        · rw [if_pos z, if_pos (by omega)]
        · rw [if_neg z, if_neg (by omega)]) (fun k k0 k1 => by
      by_cases y : k = i
      · have D3 : MK h2 (x + 59 + 2 * i) (muZ k) (fun _ => 0) := D1.fr F2 (by omega)
        rw [y, Int.toNat_natCast]
        rw [y] at D3
        exact D3
      · exact (D k k0 (by omega)).kp fun z z0 z1 => kp z (by omega) (by omega))
    refine ⟨h', ?_, O', s', A', D', fun q q0 q1 => by rw [k' q q0 q1, kp q (by omega) q1]⟩
    have o1 : I (i : Int) + I 1 = I ((i + 1 : Nat) : Int) := by rw [I_add]; exact congrArg I (by omega)
    have one : I (i : Int) + (1 : Int32) = I ((i + 1 : Nat) : Int) := o1
    have l8 : (I 6 ≤ I (i : Int)) = ((6 : Int) ≤ (i : Int)) := I_le (by omega) (by omega) (by omega) (by omega)
    rw [f8_init_124.eq_2, O.f6, Option.bind_some, A.n (by decide), Option.bind_some, if_neg (by rw [l8]; omega), Option.bind_some, nO_of s, Option.bind_some]
    dsimp only
    rw [e1, Option.bind_some, e2, Option.bind_some, Option.bind_some, one, e']
