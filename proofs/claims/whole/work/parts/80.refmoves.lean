/-! the reference's single steps; what holds of signs, codes and waiting signs together -/
section
variable {h h' : AH} {m : Nat} {v : Nat → Int} {se : Int64} {g : Nat → Int → Int} {gl : Nat → Int → Int64} {T : Int → Int}
theorem RF.makes (R : RF h m v se g gl T) (w : v 17 = 0) {it p : Int} (e : v 20 = it) (i0 : 0 ≤ it) (i1 : it ≤ 60) : (it = 60 → ∃ h', f9_makes h m (I p) = some (false, h') ∧ RF h' m (us v 17 (1 + 8 * p + 3)) se g gl T ∧ Fr m (m + 24) h h') ∧ (it < 60 → ∃ h', f9_makes h m (I p) = some (true, h') ∧ RF h' m (us v 20 (it + 1)) se g gl T ∧ Fr m (m + 24) h h') := by
  have l : (I it = I 60) = (it = 60) := I_eq (by omega) (by omega) (by omega) (by omega)
  rw [f9_makes, R.1.o, Option.bind_some, R.1.f20, Option.bind_some, e]
  simp only [I_lit]
  refine ⟨fun z => ?_, fun z => ?_⟩
  · obtain ⟨h1, e1, R1, F1⟩ := R.fails w (k := 3) (i := p)
    rw [if_pos (by rw [l]; exact z), e1, Option.bind_some]
    exact ⟨h1, rfl, R1, F1⟩
  · obtain ⟨h1, e1, M1, F1⟩ := R.1.s20 (it + 1)
    rw [if_neg (by rw [l]; omega), Option.bind_some, I_add, e1, Option.bind_some]
    exact ⟨h1, rfl, R.set M1 (by omega) (by omega), F1⟩
def gput (g : Nat → Int → Int) (tx y : Int) : Nat → Int → Int := uf (uf g 3 (up (g 3) (400 * tx + g 4 tx) y)) 4 (up (g 4) tx (g 4 tx + 1))
theorem RF.puts (R : RF h m v se g gl T) {tx a y : Int} (e : v 19 = tx) (t0 : 0 ≤ tx) (t1 : tx < 14) (l0 : 0 ≤ g 4 tx) (l1 : g 4 tx < 400) : ∃ h', f9_puts h m (I a) (I y) = some h' ∧ RF h' m v se (gput g tx (a + 16 * y)) gl T ∧ Fr m (m + 24) h h' := by
  obtain ⟨h1, e1, M1, F1⟩ := R.1.w3 (i := 400 * tx + g 4 tx) (a + 16 * y) (by omega) (by omega)
  obtain ⟨h2, e2, M2, F2⟩ := M1.w4 (i := tx) (g 4 tx + 1) t0 t1
  have R1 := R.setg M1 (by omega)
  rw [uf_ne (by omega)] at M2
  have R2 := RF.setg R1 M2 (by omega)
  have r4 := M1.r4 t0 t1
  rw [uf_ne (by omega)] at r4
  refine ⟨h2, ?_, R2, F1.trans F2⟩
  rw [f9_puts, R.1.o, Option.bind_some, R.1.f3, Option.bind_some, R.1.f19, Option.bind_some, R.1.f4, Option.bind_some, Option.bind_some, e, R.1.r4 t0 t1, Option.bind_some]
  simp only [I_lit]
  rw [I_mul, I_add, I_mul, I_add, e1, Option.bind_some, M1.f4, Option.bind_some, M1.f19, Option.bind_some, e, r4, Option.bind_some, I_add, e2, Option.bind_some]
theorem RF.wordHere (R : RF h m v se g gl T) {s : Int} (es : bl T (v 2) (v 16) = s) : ∃ h', f9_wordHere h m = some (I (if kd T (v 2) s ≤ 9 then kd T (v 2) s else -1), h') ∧ RF h' m (us v 16 s) se g gl T ∧ Fr m (m + 24) h h' := by
  have kr := kd_rng T (v 2) s
  have a0 := R.2.2.1
  have a1 := R.2.2.2.1
  have a2 := R.2.2.2.2
  have q2 : us v 16 s 2 = v 2 := us_ne (by omega)
  have bb : bl T (us v 16 s 2) (us v 16 s 16) = s := by rw [q2, us_eq, ← es]; exact bl_bl a0 a1 a2
  have again : ∀ {h : AH}, RF h m (us v 16 s) se g gl T → ∀ {W k : Int}, (∀ P : Int, (P = W) = (wkn P = k)) → 0 < W → W < 9223372036854775808 → k ≤ 20 → ∃ h', f9_isWord h m (J W) = some (decide (kd T (v 2) s = k), h') ∧ RF h' m (us v 16 s) se g gl T ∧ Fr m (m + 24) h h' := fun R W k a b c d => by
    obtain ⟨h1, e1, R1, F1⟩ := R.isW bb a b c d
    rw [us_us] at R1
    rw [q2] at e1
    exact ⟨h1, e1, R1, F1⟩
  obtain ⟨h0, e0, R0, F0⟩ := R.isW es wkn_apart (by omega) (by omega) (by omega)
  obtain ⟨h1, e1, R1, F1⟩ := again R0 wkn_own (by omega) (by omega) (by omega)
  obtain ⟨h2, e2, R2, F2⟩ := again R1 wkn_late (by omega) (by omega) (by omega)
  obtain ⟨h3, e3, R3, F3⟩ := again R2 wkn_wrong (by omega) (by omega) (by omega)
  obtain ⟨h4, e4, R4, F4⟩ := again R3 wkn_shared (by omega) (by omega) (by omega)
  obtain ⟨h5, e5, R5, F5⟩ := again R4 wkn_nowhere (by omega) (by omega) (by omega)
  obtain ⟨h6, e6, R6, F6⟩ := again R5 wkn_pages (by omega) (by omega) (by omega)
  obtain ⟨h7, e7, R7, F7⟩ := again R6 wkn_price (by omega) (by omega) (by omega)
  obtain ⟨h8, e8, R8, F8⟩ := again R7 wkn_week (by omega) (by omega) (by omega)
  obtain ⟨h9, e9, R9, F9⟩ := again R8 wkn_volumes (by omega) (by omega) (by omega)
  have G1 := F0.trans F1
  have G2 := G1.trans F2
  have G3 := G2.trans F3
  have G4 := G3.trans F4
  have G5 := G4.trans F5
  have G6 := G5.trans F6
  have G7 := G6.trans F7
  have G8 := G7.trans F8
  have G9 := G8.trans F9
  rw [f9_wordHere, R.1.o, Option.bind_some]
  simp only [I_lit, I_neg, J_lit]
  rw [e0, Option.bind_some]
  by_cases c0 : kd T (v 2) s = 0
  · rw [if_pos (decide_eq_true c0), if_pos (by omega), c0]; exact ⟨h0, rfl, R0, F0⟩
  rw [if_neg (by rw [decide_eq_true_eq]; exact c0), e1, Option.bind_some]
  by_cases c1 : kd T (v 2) s = 1
  · rw [if_pos (decide_eq_true c1), if_pos (by omega), c1]; exact ⟨h1, rfl, R1, G1⟩
  rw [if_neg (by rw [decide_eq_true_eq]; exact c1), e2, Option.bind_some]
  by_cases c2 : kd T (v 2) s = 2
  · rw [if_pos (decide_eq_true c2), if_pos (by omega), c2]; exact ⟨h2, rfl, R2, G2⟩
  rw [if_neg (by rw [decide_eq_true_eq]; exact c2), e3, Option.bind_some]
  by_cases c3 : kd T (v 2) s = 3
  · rw [if_pos (decide_eq_true c3), if_pos (by omega), c3]; exact ⟨h3, rfl, R3, G3⟩
  rw [if_neg (by rw [decide_eq_true_eq]; exact c3), e4, Option.bind_some]
  by_cases c4 : kd T (v 2) s = 4
  · rw [if_pos (decide_eq_true c4), if_pos (by omega), c4]; exact ⟨h4, rfl, R4, G4⟩
  rw [if_neg (by rw [decide_eq_true_eq]; exact c4), e5, Option.bind_some]
  by_cases c5 : kd T (v 2) s = 5
  · rw [if_pos (decide_eq_true c5), if_pos (by omega), c5]; exact ⟨h5, rfl, R5, G5⟩
  rw [if_neg (by rw [decide_eq_true_eq]; exact c5), e6, Option.bind_some]
  by_cases c6 : kd T (v 2) s = 6
  · rw [if_pos (decide_eq_true c6), if_pos (by omega), c6]; exact ⟨h6, rfl, R6, G6⟩
  rw [if_neg (by rw [decide_eq_true_eq]; exact c6), e7, Option.bind_some]
  by_cases c7 : kd T (v 2) s = 7
  · rw [if_pos (decide_eq_true c7), if_pos (by omega), c7]; exact ⟨h7, rfl, R7, G7⟩
  rw [if_neg (by rw [decide_eq_true_eq]; exact c7), e8, Option.bind_some]
  by_cases c8 : kd T (v 2) s = 8
  · rw [if_pos (decide_eq_true c8), if_pos (by omega), c8]; exact ⟨h8, rfl, R8, G8⟩
  rw [if_neg (by rw [decide_eq_true_eq]; exact c8), e9, Option.bind_some]
  by_cases c9 : kd T (v 2) s = 9
  · rw [if_pos (decide_eq_true c9), if_pos (by omega), c9]; exact ⟨h9, rfl, R9, G9⟩
  rw [if_neg (by rw [decide_eq_true_eq]; exact c9), if_neg (by omega)]
  exact ⟨h9, rfl, R9, G9⟩
end
/-! signs of the reference, codes of the class: k of the signs that wait are among the signs already -/
def CD (cd : Int → Int) (sz : Int) (W : List Int) (k : Nat) (sg : Int → Int) (len b nc : Int) : Prop := sz + k = len + nc ∧ k ≤ W.length ∧ b + nc ≤ sz ∧ (∀ j, b ≤ j → j < sz - nc → cd (j + nc) = en (sg j)) ∧ (∀ i : Nat, i < k → W[i]? = some (en (sg (sz - nc + i))))
theorem CD.val {cd : Int → Int} {sz : Int} {W : List Int} {sg : Int → Int} {len b nc y : Int} (C : CD cd sz W 0 sg len b nc) : CD (up cd sz (en y)) (sz + 1) W 0 (up sg len y) (len + 1) b nc := by
  obtain ⟨a, c, d, e, f⟩ := C
  refine ⟨by omega, by omega, by omega, fun j j0 j1 => ?_, fun i hi => by omega⟩
  by_cases z : j = len
  · subst z; rw [up_eq, show j + nc = sz by omega, up_eq]
  · rw [up_ne z, up_ne (by omega)]; exact e j j0 (by omega)
theorem CD.put {cd : Int → Int} {sz : Int} {W : List Int} {k : Nat} {sg : Int → Int} {len b nc y : Int} (C : CD cd sz W k sg len b nc) (w : W[k]? = some (en y)) : CD cd sz W (k + 1) (up sg len y) (len + 1) b nc := by
  obtain ⟨a, c, d, e, f⟩ := C
  have kl : k < W.length := by
    by_cases z : k < W.length
    · exact z
    · rw [List.getElem?_eq_none (by omega)] at w; cases w
  refine ⟨by omega, by omega, by omega, fun j j0 j1 => ?_, fun i hi => ?_⟩
  · rw [up_ne (by omega)]; exact e j j0 j1
  · by_cases z : i = k
    · subst z; rw [show sz - nc + (i : Int) = len by omega, up_eq]; exact w
    · rw [up_ne (by omega)]; exact f i (by omega)
theorem CD.emit {cd : Int → Int} {sz : Int} {Z Y : List Int} {k : Nat} {sg : Int → Int} {len b nc : Int} (C : CD cd sz (Z ++ Y) k sg len b nc) (w : k = Z.length) : CD (apd cd sz Z) (sz + Z.length) Y 0 sg len b nc := by
  obtain ⟨a, c, d, e, f⟩ := C
  subst w
  refine ⟨by omega, by omega, by omega, fun j j0 j1 => ?_, fun i hi => by omega⟩
  by_cases z : j < sz - nc
  · rw [apd_lt (by omega)]; exact e j j0 z
  · have q := f (j - (sz - nc)).toNat (by omega)
    rw [List.getElem?_append_left (by omega)] at q
    have := apd_at (cd := cd) (n := sz) q
    rw [show sz + (((j - (sz - nc)).toNat : Nat) : Int) = j + nc by omega] at this
    rw [this]
    congr 2
    omega
theorem CD.w {cd : Int → Int} {sz : Int} {W W' : List Int} {sg : Int → Int} {len b nc : Int} (C : CD cd sz W 0 sg len b nc) : CD cd sz W' 0 sg len b nc := ⟨C.1, by omega, C.2.2.1, C.2.2.2.1, fun i hi => by omega⟩
def sgt (g : Nat → Int → Int) (tx : Int) : Int → Int := fun j => g 3 (400 * tx + j)
theorem sgt_put {g : Nat → Int → Int} {tx y : Int} : sgt (gput g tx y) tx = up (sgt g tx) (g 4 tx) y := by
  funext j
  unfold sgt gput
  rw [uf_ne (by omega), uf_eq]
  unfold up
  by_cases c : j = g 4 tx
  · rw [if_pos (by omega), if_pos c]
  · rw [if_neg (by omega), if_neg c]
theorem gput_len {g : Nat → Int → Int} {tx y : Int} : gput g tx y 4 tx = g 4 tx + 1 := by
  unfold gput
  rw [uf_eq, up_eq]
theorem gput_ne {g : Nat → Int → Int} {tx y : Int} {j : Nat} (h3 : j ≠ 3) (h4 : j ≠ 4) : gput g tx y j = g j := by
  unfold gput
  rw [uf_ne h4, uf_ne h3]
/-- the signs from bb on leave such values; how many VALUES and FACTS -/
def SGN (sg : Int → Int) (len bb : Int) (B : List Bool) (it : Int) : Prop := 0 ≤ bb ∧ bb ≤ len ∧ rt (eg sg) (len - bb).toNat bb [] = some B ∧ (∀ j, 0 ≤ j → j < len → sgk (sg j)) ∧ cn (fun j => decide (eg sg j < 10)) len.toNat 0 ≤ it
theorem SGN.put {sg : Int → Int} {len bb it it' y : Int} {B B' : List Bool} (S : SGN sg len bb B it) (t : tk (en y) B = some B') (q : sgk y) (i : it + (if decide (en y < 10) = true then 1 else 0) ≤ it') : SGN (up sg len y) (len + 1) bb B' it' := by
  obtain ⟨a, b, c, d, e⟩ := S
  have eq : ∀ j, j < len → eg (up sg len y) j = eg sg j := fun j hj => by unfold eg; rw [up_ne (by omega)]
  have eq2 : eg (up sg len y) len = en y := by unfold eg; rw [up_eq]
  refine ⟨a, by omega, ?_, fun j j0 j1 => ?_, ?_⟩
  · rw [show (len + 1 - bb).toNat = (len - bb).toNat + 1 by omega]
    refine rt_last (B' := B) ?_ ?_
    · have := rt_cong (cd := eg (up sg len y)) (cd' := eg sg) (s := 0) (len - bb).toNat bb [] (fun j j0 j1 => by rw [show j + 0 = j by omega]; exact eq j (by omega))
      rw [show bb + 0 = bb by omega] at this
      rw [this]; exact c
    · rw [show bb + (((len - bb).toNat : Nat) : Int) = len by omega, eq2]; exact t
  · by_cases z : j = len
    · subst z; rw [up_eq]; exact q
    · rw [up_ne z]; exact d j j0 (by omega)
  · rw [show (len + 1).toNat = len.toNat + 1 by omega, cn_last, show (0 : Int) + (len.toNat : Nat) = len by omega]
    have : cn (fun j => decide (eg (up sg len y) j < 10)) len.toNat 0 = cn (fun j => decide (eg sg j < 10)) len.toNat 0 := by
      have := cn_shift2 (q := fun j => decide (eg sg j < 10)) (q' := fun j => decide (eg (up sg len y) j < 10)) (s := 0) len.toNat 0 (fun j j0 j1 => by
        show decide (eg (up sg len y) (j + 0) < 10) = _
        rw [show j + 0 = j by omega, eq j (by omega)])
      rw [show (0 : Int) + 0 = 0 by omega] at this
      exact this
    rw [this]
    simp only [eq2]
    omega
def GB (tx b : Int) (v0 v : Nat → Int) (g0 g : Nat → Int → Int) : Prop := (∀ k, k ≠ 16 → k ≠ 17 → k ≠ 18 → k ≠ 20 → k ≠ 21 → k ≠ 24 → v k = v0 k) ∧ (∀ j, j ≠ 3 → j ≠ 4 → j ≠ 14 → g j = g0 j) ∧ (∀ i, ¬ (400 * tx + b ≤ i ∧ i < 400 * tx + 400) → g 3 i = g0 3 i) ∧ (∀ i, i ≠ tx → g 4 i = g0 4 i)
theorem GB.v {tx b : Int} {v0 v v' : Nat → Int} {g0 g : Nat → Int → Int} (G : GB tx b v0 v g0 g) (h : ∀ k, k ≠ 16 → k ≠ 17 → k ≠ 18 → k ≠ 20 → k ≠ 21 → k ≠ 24 → v' k = v k) : GB tx b v0 v' g0 g := ⟨fun k a b c d e f => by rw [h k a b c d e f]; exact G.1 k a b c d e f, G.2⟩
theorem GB.put {tx b y : Int} {v0 v : Nat → Int} {g0 g : Nat → Int → Int} (G : GB tx b v0 v g0 g) (l0 : b ≤ g 4 tx) (l1 : g 4 tx < 400) : GB tx b v0 v g0 (gput g tx y) := by
  refine ⟨G.1, fun j a b c => by rw [gput_ne a b]; exact G.2.1 j a b c, fun i hi => ?_, fun i hi => ?_⟩
  · show gput g tx y 3 i = _
    unfold gput
    rw [uf_ne (by omega), uf_eq, up_ne (by omega)]
    exact G.2.2.1 i hi
  · unfold gput
    rw [uf_eq, up_ne hi]
    exact G.2.2.2 i hi
theorem GB.o {tx b : Int} {v0 v : Nat → Int} {g0 g : Nat → Int → Int} {w : Int → Int} (G : GB tx b v0 v g0 g) : GB tx b v0 v g0 (uf g 14 w) := ⟨G.1, fun j a b c => by rw [uf_ne c]; exact G.2.1 j a b c, fun i hi => by rw [uf_ne (by omega)]; exact G.2.2.1 i hi, fun i hi => by rw [uf_ne (by omega)]; exact G.2.2.2 i hi⟩
