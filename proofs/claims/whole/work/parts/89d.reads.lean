/-! a text, read on both sides: the reference's start and end of reading -/
def HR (tx : Int) (g0 g : Nat → Int → Int) : Prop := (∀ j, (j < 3 ∨ 14 < j) → g j = g0 j) ∧ (∀ i, ¬ (400 * tx ≤ i ∧ i < 400 * tx + 400) → g 3 i = g0 3 i) ∧ (∀ i, ¬ (48 * tx ≤ i ∧ i < 48 * tx + 48) → g 5 i = g0 5 i) ∧ (∀ i, ¬ (12 * tx ≤ i ∧ i < 12 * tx + 12) → g 11 i = g0 11 i) ∧ (∀ j, j ≠ 3 → j ≠ 5 → j ≠ 11 → j ≠ 14 → ∀ i, i ≠ tx → g j i = g0 j i)
theorem HR.trans {tx : Int} {g0 g1 g2 : Nat → Int → Int} (a : HR tx g0 g1) (b : HR tx g1 g2) : HR tx g0 g2 := ⟨fun j hj => by rw [b.1 j hj, a.1 j hj], fun i hi => by rw [b.2.1 i hi, a.2.1 i hi], fun i hi => by rw [b.2.2.1 i hi, a.2.2.1 i hi], fun i hi => by rw [b.2.2.2.1 i hi, a.2.2.2.1 i hi], fun j p q r s i hi => by rw [b.2.2.2.2 j p q r s i hi, a.2.2.2.2 j p q r s i hi]⟩
def rw1 (g : Nat → Int → Int) (k : Nat) (tx y : Int) : Nat → Int → Int := uf g k (up (g k) tx y)
theorem rw1_at {g : Nat → Int → Int} {k : Nat} {tx y : Int} : rw1 g k tx y k tx = y := by unfold rw1; rw [uf_eq, up_eq]
theorem rw1_ne {g : Nat → Int → Int} {k j : Nat} {tx y : Int} (h : j ≠ k) : rw1 g k tx y j = g j := uf_ne h
theorem HR.row {tx y : Int} {g0 g : Nat → Int → Int} (H : HR tx g0 g) {k : Nat} (k0 : 3 < k) (k1 : k < 14) (k5 : k ≠ 5) (k11 : k ≠ 11) : HR tx g0 (rw1 g k tx y) := (GR.row (v0 := fun _ => 0) (v := fun _ => 0) ⟨fun _ _ _ _ _ _ _ _ => rfl, H⟩ k0 k1 k5 k11).2
theorem HR.refl (tx : Int) (g : Nat → Int → Int) : HR tx g g := (GR.refl tx (fun _ => 0) g).2
theorem rw1_one {g : Nat → Int → Int} {k j : Nat} {tx y : Int} : rw1 g k tx y j tx = (if j = k then y else g j tx) := by
  by_cases c : j = k
  · subst c; rw [if_pos rfl, rw1_at]
  · rw [if_neg c, rw1_ne c]
def mx (y d : Int) : Int := if y < 0 then d else y
def gfin (g : Nat → Int → Int) (tx : Int) : Nat → Int → Int := rw1 (rw1 (rw1 (rw1 g 7 tx (mx (g 7 tx) 1)) 8 tx (mx (g 8 tx) 1)) 9 tx (mx (g 9 tx) 1)) 10 tx (mx (g 10 tx) 0)
def gini (g : Nat → Int → Int) (tx : Int) : Nat → Int → Int := rw1 (rw1 (rw1 (rw1 (rw1 (rw1 (rw1 (rw1 g 4 tx 0) 6 tx 0) 12 tx 0) 13 tx 0) 7 tx (-1)) 8 tx (-1)) 9 tx (-1)) 10 tx (-1)
def vini (v : Nat → Int) (tx : Int) : Nat → Int := us (us (us (us (us v 19 tx) 22 0) 16 0) 17 0) 20 0
theorem gini_hr (g : Nat → Int → Int) (tx : Int) : HR tx g (gini g tx) := (((((((((HR.refl tx g).row (by omega) (by omega) (by omega) (by omega)).row (by omega) (by omega) (by omega) (by omega)).row (by omega) (by omega) (by omega) (by omega)).row (by omega) (by omega) (by omega) (by omega)).row (by omega) (by omega) (by omega) (by omega)).row (by omega) (by omega) (by omega) (by omega)).row (by omega) (by omega) (by omega) (by omega)).row (by omega) (by omega) (by omega) (by omega))
theorem gfin_hr (g : Nat → Int → Int) (tx : Int) : HR tx g (gfin g tx) := (((((HR.refl tx g).row (by omega) (by omega) (by omega) (by omega)).row (by omega) (by omega) (by omega) (by omega)).row (by omega) (by omega) (by omega) (by omega)).row (by omega) (by omega) (by omega) (by omega))
theorem gfin_ne {g : Nat → Int → Int} {tx : Int} {j : Nat} (h : ¬ (7 ≤ j ∧ j ≤ 10)) : gfin g tx j = g j := by
  unfold gfin
  rw [rw1_ne (by omega), rw1_ne (by omega), rw1_ne (by omega), rw1_ne (by omega)]
theorem gfin_at {g : Nat → Int → Int} {tx : Int} : gfin g tx 7 tx = mx (g 7 tx) 1 ∧ gfin g tx 8 tx = mx (g 8 tx) 1 ∧ gfin g tx 9 tx = mx (g 9 tx) 1 ∧ gfin g tx 10 tx = mx (g 10 tx) 0 := by
  unfold gfin
  refine ⟨?_, ?_, ?_, ?_⟩
  · rw [rw1_ne (by omega), rw1_ne (by omega), rw1_ne (by omega), rw1_at]
  · rw [rw1_ne (by omega), rw1_ne (by omega), rw1_at]
  · rw [rw1_ne (by omega), rw1_at]
  · rw [rw1_at]
theorem gini_at {g : Nat → Int → Int} {tx : Int} : gini g tx 4 tx = 0 ∧ gini g tx 6 tx = 0 ∧ gini g tx 12 tx = 0 ∧ gini g tx 13 tx = 0 ∧ (∀ j, 7 ≤ j → j ≤ 10 → gini g tx j tx = -1) ∧ gini g tx 3 = g 3 ∧ gini g tx 5 = g 5 ∧ gini g tx 11 = g 11 ∧ gini g tx 2 = g 2 := by
  refine ⟨?_, ?_, ?_, ?_, fun j j0 j1 => ?_, ?_, ?_, ?_, ?_⟩
  · unfold gini; simp only [rw1_one]; rfl
  · unfold gini; simp only [rw1_one]; rfl
  · unfold gini; simp only [rw1_one]; rfl
  · unfold gini; simp only [rw1_one]; rfl
  · have : j = 7 ∨ j = 8 ∨ j = 9 ∨ j = 10 := by omega
    unfold gini
    rcases this with q | q | q | q <;> subst q <;> (simp only [rw1_one]; rfl)
  all_goals
    unfold gini
    rw [rw1_ne (by omega), rw1_ne (by omega), rw1_ne (by omega), rw1_ne (by omega), rw1_ne (by omega), rw1_ne (by omega), rw1_ne (by omega), rw1_ne (by omega)]
section
variable {h h' : AH} {m : Nat} {v : Nat → Int} {se : Int64} {g : Nat → Int → Int} {gl : Nat → Int → Int64} {T : Int → Int} {tx : Int}
theorem ite_mx {h : AH} {y d : Int} {f : Int32 → Option (Int32 × AH)} (y0 : -1 ≤ y) (y1 : y ≤ 1000) : (if I 0 ≤ I y then f (I y) else f (I d)) = f (I (mx y d)) := by
  have l : (I 0 ≤ I y) = (0 ≤ y) := I_le (by omega) (by omega) (by omega) (by omega)
  unfold mx
  by_cases c : 0 ≤ y
  · rw [if_pos (by rw [l]; exact c), if_neg (by omega)]
  · rw [if_neg (by rw [l]; exact c), if_pos (by omega)]
theorem MO.reads139 (M : MO h m v se g gl) (V : VR g tx) (t0 : 0 ≤ tx) (t1 : tx < 14) : ∃ h', f9_reads_139 h m (I tx) = some (I (v 17), h') ∧ MO h' m (us v 2 0) se (gfin g tx) gl ∧ Fr m (m + 24) h h' := by
  obtain ⟨h1, e1, M1, F1⟩ := M.s2 0
  obtain ⟨h2, e2, M2, F2⟩ := M1.w7 (i := tx) (mx (g 7 tx) 1) t0 t1
  obtain ⟨h3, e3, M3, F3⟩ := M2.w8 (i := tx) (mx (g 8 tx) 1) t0 t1
  rw [uf_ne (by omega)] at M3
  obtain ⟨h4, e4, M4, F4⟩ := M3.w9 (i := tx) (mx (g 9 tx) 1) t0 t1
  rw [uf_ne (by omega), uf_ne (by omega)] at M4
  obtain ⟨h5, e5, M5, F5⟩ := M4.w10 (i := tx) (mx (g 10 tx) 0) t0 t1
  rw [uf_ne (by omega), uf_ne (by omega), uf_ne (by omega)] at M5
  have r7 := M1.r7 t0 t1
  have r8 := M2.r8 t0 t1
  rw [uf_ne (by omega)] at r8
  have r9 := M3.r9 t0 t1
  rw [uf_ne (by omega), uf_ne (by omega)] at r9
  have r10 := M4.r10 t0 t1
  rw [uf_ne (by omega), uf_ne (by omega), uf_ne (by omega)] at r10
  have v7 := V 7 (by omega) (by omega)
  have v8 := V 8 (by omega) (by omega)
  have v9 := V 9 (by omega) (by omega)
  have v10 := V 10 (by omega) (by omega)
  have g10 : gfin g tx = uf (uf (uf (uf g 7 (up (g 7) tx (mx (g 7 tx) 1))) 8 (up (g 8) tx (mx (g 8 tx) 1))) 9 (up (g 9) tx (mx (g 9 tx) 1))) 10 (up (g 10) tx (mx (g 10 tx) 0)) := by
    unfold gfin rw1
    rw [uf_ne (by omega), uf_ne (by omega), uf_ne (by omega), uf_ne (by omega), uf_ne (by omega), uf_ne (by omega)]
  refine ⟨h5, ?_, by rw [g10]; exact M5, (((F1.trans F2).trans F3).trans F4).trans F5⟩
  rw [f9_reads_139]
  simp only [I_lit]
  rw [e1, Option.bind_some, M1.f7, Option.bind_some, Option.bind_some, r7, Option.bind_some, Option.bind_some]
  have s1 := ite_mx (h := h) (f := fun z => f9_reads_168 h1 m (I tx) (m + 7) (I tx) z) (d := 1) v7.1 v7.2
  refine (show _ = (if I 0 ≤ I (g 7 tx) then f9_reads_168 h1 m (I tx) (m + 7) (I tx) (I (g 7 tx)) else f9_reads_168 h1 m (I tx) (m + 7) (I tx) (I 1)) by rw [r7]; rfl).trans (s1.trans ?_)
  rw [f9_reads_168, e2, Option.bind_some, M2.f8, Option.bind_some, Option.bind_some, r8, Option.bind_some, Option.bind_some]
  simp only [I_lit]
  have s2 := ite_mx (h := h) (f := fun z => f9_reads_193 h2 m (I tx) (m + 8) (I tx) z) (d := 1) v8.1 v8.2
  refine (show _ = (if I 0 ≤ I (g 8 tx) then f9_reads_193 h2 m (I tx) (m + 8) (I tx) (I (g 8 tx)) else f9_reads_193 h2 m (I tx) (m + 8) (I tx) (I 1)) by rw [r8]; rfl).trans (s2.trans ?_)
  rw [f9_reads_193, e3, Option.bind_some, M3.f9, Option.bind_some, Option.bind_some, r9, Option.bind_some, Option.bind_some]
  simp only [I_lit]
  have s3 := ite_mx (h := h) (f := fun z => f9_reads_218 h3 m (I tx) (m + 9) (I tx) z) (d := 1) v9.1 v9.2
  refine (show _ = (if I 0 ≤ I (g 9 tx) then f9_reads_218 h3 m (I tx) (m + 9) (I tx) (I (g 9 tx)) else f9_reads_218 h3 m (I tx) (m + 9) (I tx) (I 1)) by rw [r9]; rfl).trans (s3.trans ?_)
  rw [f9_reads_218, e4, Option.bind_some, M4.f10, Option.bind_some, Option.bind_some, r10, Option.bind_some, Option.bind_some]
  simp only [I_lit]
  have s4 := ite_mx (h := h) (f := fun z => (sI 0 h4 (m + 10) (I tx) z).bind fun h243 => (fI 9 17 h243 m).bind fun x245 => some (x245, h243)) (d := 0) v10.1 v10.2
  refine (show _ = (if I 0 ≤ I (g 10 tx) then (sI 0 h4 (m + 10) (I tx) (I (g 10 tx))).bind fun h243 => (fI 9 17 h243 m).bind fun x245 => some (x245, h243) else (sI 0 h4 (m + 10) (I tx) (I 0)).bind fun h243 => (fI 9 17 h243 m).bind fun x245 => some (x245, h243)) by rw [r10]; rfl).trans (s4.trans ?_)
  show (sI 0 h4 (m + 10) (I tx) (I (mx (g 10 tx) 0))).bind _ = _
  rw [e5, Option.bind_some, M5.f17, Option.bind_some, us_ne (by omega)]
theorem MO.readsIni (M : MO h m v se g gl) (t0 : 0 ≤ tx) (t1 : tx < 14) : ∃ h', f9_reads h m (I tx) = ((f9_clauseHere h' m).bind fun x82 => f9_reads_86 m (I tx) FU x82.2 x82.1) ∧ MO h' m (vini v tx) se (gini g tx) gl ∧ Fr m (m + 24) h h' := by
  obtain ⟨h1, e1, M1, F1⟩ := M.s19 tx
  obtain ⟨h2, e2, M2, F2⟩ := M1.w4 (i := tx) 0 t0 t1
  obtain ⟨h3, e3, M3, F3⟩ := M2.w6 (i := tx) 0 t0 t1
  obtain ⟨h4, e4, M4, F4⟩ := M3.w12 (i := tx) 0 t0 t1
  obtain ⟨h5, e5, M5, F5⟩ := M4.w13 (i := tx) 0 t0 t1
  obtain ⟨h6, e6, M6, F6⟩ := M5.w7 (i := tx) (-1) t0 t1
  obtain ⟨h7, e7, M7, F7⟩ := M6.w8 (i := tx) (-1) t0 t1
  obtain ⟨h8, e8, M8, F8⟩ := M7.w9 (i := tx) (-1) t0 t1
  obtain ⟨h9, e9, M9, F9⟩ := M8.w10 (i := tx) (-1) t0 t1
  obtain ⟨hA, eA, MA, FA⟩ := M9.s22 0
  obtain ⟨hB, eB, MB, FB⟩ := MA.s16 0
  obtain ⟨hC, eC, MC, FC⟩ := MB.s17 0
  obtain ⟨hD, eD, MD, FD⟩ := MC.s20 0
  refine ⟨hD, ?_, MD, (((((((((((F1.trans F2).trans F3).trans F4).trans F5).trans F6).trans F7).trans F8).trans F9).trans FA).trans FB).trans FC).trans FD⟩
  rw [f9_reads, M.o, Option.bind_some]
  simp only [I_lit, I_neg]
  rw [e1, Option.bind_some, M1.f4, Option.bind_some, e2, Option.bind_some, M2.f6, Option.bind_some, e3, Option.bind_some, M3.f12, Option.bind_some, e4, Option.bind_some, M4.f13, Option.bind_some, e5, Option.bind_some, M5.f7, Option.bind_some, e6, Option.bind_some, M6.f8, Option.bind_some, e7, Option.bind_some, M7.f9, Option.bind_some, e8, Option.bind_some, M8.f10, Option.bind_some, e9, Option.bind_some, eA, Option.bind_some, eB, Option.bind_some, eC, Option.bind_some, eD, Option.bind_some]
end
/-- the class's start -/
theorem KX.start {h : AH} {x r : Nat} {q1 q2 : Option Nat} {u : Nat → Int} {w : Int → Int} {t : Nat → Int} {T : Int → Int} {ru : Nat → Int} {cd : Int → Int} {sk : Int → Int64} (P : PB h (x + 24) q1 q2 u w) (Q : TP h (x + 22) t T) (D : RD h r ru cd sk) (hr : x + 35 ≤ r) {n : Int} (en : t 1 = n) (n0 : 0 ≤ n) : ∃ h' cl, f1_parse h (x + 24) (x + 22) (some r) none = PLo x h' 0 ∧ KA0 h' x r T n 0 (bl T n 0) 0 cl 0 (ro false false) 0 1 1 0 cd ∧ Fc x r h h' := by
  obtain ⟨h1, e1, P1, F1⟩ := P.s0 (some r)
  obtain ⟨h2, e2, P2, F2⟩ := P1.s1 none
  have D2 := (D.fr F1 (by omega)).fr F2 (by omega)
  have Q2 := (Q.fr F1 (by omega)).fr F2 (by omega)
  have K2 : KX h2 x r u w t T ru cd sk := ⟨P2, Q2, D2, hr⟩
  obtain ⟨h3, e3, D3, F3⟩ := D2.s0 1
  obtain ⟨h4, e4, D4, F4⟩ := D3.s1 1
  obtain ⟨h5, e5, D5, F5⟩ := D4.s3 0
  have K5 := K2.ofR D5 ((F3.trans F4).trans F5)
  obtain ⟨h6, e6, P6, F6⟩ := K5.1.1.s2 0
  obtain ⟨h7, e7, P7, F7⟩ := P6.s5 0
  obtain ⟨h8, e8, P8, F8⟩ := P7.s6 0
  obtain ⟨h9, e9, P9, F9⟩ := P8.s7 0
  obtain ⟨hA, eA, PA, FA⟩ := P9.s8 0
  have KA := K5.1.ofP PA ((((F6.trans F7).trans F8).trans F9).trans FA)
  obtain ⟨hB, eB, QB, FB⟩ := KA.1.2.1.s2 0
  have KB := KA.1.ofT QB FB
  refine ⟨hB, u 4, ?_, ⟨_, w, _, _, sk, KB.1, ⟨en, by rw [us_eq], by omega, by rw [us_eq]; omega, by rw [us_eq]; exact n0⟩, ⟨rfl, rfl, rfl, rfl, rfl, rfl⟩, ⟨rfl, rfl, rfl, by omega, by omega⟩⟩, (((F1.trans F2).c (by omega)).trans K5.2).trans (KA.2.trans KB.2)⟩
  have eb : f1_begin h (x + 24) (some r) none = some hA := by
    rw [f1_begin, P.o, Option.bind_some, e1, Option.bind_some, e2, Option.bind_some, P2.f0, Option.bind_some]
    show ((some (some r)).bind fun x18 => (x18).bind fun b21 => (f3_clear h2 b21).bind fun x21 => (fQ 1 1 x21 (x + 24)).bind fun x25 => (oM x25 (f1_begin_38 x21 (x + 24)) fun a28 => (fQ 1 1 x21 (x + 24)).bind fun x32 => (x32).bind fun b35 => (f0_clear x21 b35).bind fun x35 => f1_begin_38 x35 (x + 24))) = _
    rw [Option.bind_some, Option.bind_some, f3_clear, D2.o, Option.bind_some]
    simp only [I_lit]
    rw [e3, Option.bind_some, e4, Option.bind_some, e5, Option.bind_some, Option.bind_some, K5.1.1.f1, Option.bind_some]
    show f1_begin_38 h5 (x + 24) = _
    rw [f1_begin_38]
    simp only [I_lit]
    rw [e6, Option.bind_some, e7, Option.bind_some, e8, Option.bind_some, e9, Option.bind_some, eA, Option.bind_some]
  rw [f1_parse, P.o, Option.bind_some, eb, Option.bind_some, f6_rewind, KA.1.2.1.o, Option.bind_some]
  simp only [I_lit]
  rw [eB, Option.bind_some, Option.bind_some]
  rfl
