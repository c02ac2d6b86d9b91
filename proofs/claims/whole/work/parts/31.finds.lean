def tq (r : Int → Int) (p k : Int) : Bool := decide (r (4430 + 3 * k) = p) && decide (bi (yo r p) (r (4430 + 3 * k + 1)) = 1)
/-- the WEEK of the first TEST that shows something too young in it, or -1 -/
def ft (r : Int → Int) (p : Int) : Int := fst (tq r p) (fun k => r (4430 + 3 * k + 2)) (r 7).toNat 0
def sl (r : Int → Int) (p wk : Int) : Int := fo (fun k m => if (r (3430 + 5 * k + 1) = p ∧ r (3430 + 5 * k + 3) = 0 ∧ r (3430 + 5 * k + 4) ≤ wk) ∧ m < 1 + r (3430 + 5 * k + 2) then 1 + r (3430 + 5 * k + 2) else m) (r 6).toNat 0 0
def sd (r : Int → Int) (p wk : Int) : Int := if 0 ≤ ft r p ∧ ft r p ≤ wk then 3 else sl r p wk
def co (r : Int → Int) (p : Int) : Int := if yo r p = 0 then 0 else (if ft r p < 0 then r 0 else ft r p) - r (1330 + 10 * p + 8)
def ch (r : Int → Int) (p : Int) : Int := fo (fun k b => if bi (yo r p) k = 1 ∧ (b < 0 ∨ r (10 + 2 * k + 1) < r (10 + 2 * b + 1)) then k else b) (r 1).toNat 0 (-2)
def sw (r : Int → Int) (p s : Int) : Int := pq r p fun d l => sh r d l s
def li (r : Int → Int) (p : Int) : Int × Int := fo (fun s x => if x.2 < sw r p s then (s, sw r p s) else x) 6 0 (-2, 0)
def kn (r : Int → Int) (e p : Int) : Bool := decide (0 < pq r p fun d l => decide (r (5030 + 5 * e) ≤ d ∧ d ≤ r (5030 + 5 * e + 1)) && wr r d l)
def uq (r : Int → Int) (p wk e : Int) : Bool := decide (r (5030 + 5 * e + 4) < 0 ∨ wk < r (5030 + 5 * e + 4)) && kn r e p
def ga (r : Int → Int) (e wk : Int) : Int := cn (fun p => decide (r (1330 + 10 * p) = 0) && decide (r (5030 + 5 * e + 3) ≤ r (1330 + 10 * p + 8) ∧ r (1330 + 10 * p + 8) ≤ wk)) (r 4).toNat 0 * r (5030 + 5 * e + 2)
theorem fst_suc (q : Int → Bool) (v : Int → Int) {i e : Int} (h : i < e) : fst q v (e - i).toNat i = if q i = true then v i else fst q v (e - (i + 1)).toNat (i + 1) := by
  rw [show (e - i).toNat = (e - (i + 1)).toNat + 1 by omega, fst]
theorem fst_end (q : Int → Bool) (v : Int → Int) {i e : Int} (h : ¬ i < e) : fst q v (e - i).toNat i = -1 := by
  rw [show (e - i).toNat = 0 by omega, fst]
section
variable {h h' : AH} {w : Nat} {r : Int → Int} {c : Nat → Int → Int}
theorem WD.slL (W : WD h w r c) {p wk : Int} (h0 : 0 ≤ p) (h1 : p < r 4) (k0 : 0 ≤ wk) (k1 : wk ≤ 519) : ∀ (f : Nat) (m i : Int), 0 ≤ i → i ≤ r 6 → r 6 - i < f → 0 ≤ m → m ≤ 2 → f7_standUpTo_92 h w (I p) (I wk) f (I m) (I i) = some (I (fo (fun k m => if (r (3430 + 5 * k + 1) = p ∧ r (3430 + 5 * k + 3) = 0 ∧ r (3430 + 5 * k + 4) ≤ wk) ∧ m < 1 + r (3430 + 5 * k + 2) then 1 + r (3430 + 5 * k + 2) else m) (r 6 - i).toNat i m)) := by
  intro f
  have b := W.ri.1
  induction f with
  | zero => intro m i h0 h1; omega
  | succ f ih =>
    intro m i i0 i1 i2 m0 m1
    by_cases g : i < r 6
    · obtain ⟨x0, x1, x2, x3, x4, x5⟩ := W.cr.2.2.2.2.2.2.1 i i0 g
      have rg := W.ri.2.2.2.2.2.2.2.1 i i0 g
      have a0 := W.lo.at (p := i) (c := 0) i0 g (by omega) (by omega)
      have a1 := W.lo.at (p := i) (c := 1) i0 g (by omega) (by omega)
      have a2 := W.lo.at (p := i) (c := 2) i0 g (by omega) (by omega)
      have a3 := W.lo.at (p := i) (c := 3) i0 g (by omega) (by omega)
      rw [Int.mul_comm i 4] at a0 a1 a2 a3
      rw [Int.add_zero, x0] at a0
      rw [x4] at a2
      rw [x5] at a3
      have so := (W.ri.2.2.2.2.1 _ x1 x2).1
      rw [fo_suc _ g]
      simp (disch := omega) only [f7_standUpTo_92, f7_standUpTo_137, f7_standUpTo_184, W.f4, W.f6, W.lo.size, W.pAt0, Option.bind_some, I_lit, I_neg, I_add, I_sub, I_mul, I_lt, I_le, I_eq, if_pos, if_neg, if_true, if_false, decide_eq_true_eq, a0, a1, a2, a3, Bool.false_eq_true]
      generalize hb : c 8 (4 * i + 1) = bs at x1 x2 x3 so
      by_cases c1 : r (3430 + 5 * i + 1) = p
      · by_cases c2 : wk < r (3430 + 5 * i + 4)
        · rw [if_pos c1, if_pos c2, if_neg (by omega), ih _ _ (by omega) (by omega) (by omega) m0 m1]
        · rw [if_pos c1, if_neg c2]
          by_cases c3 : r (3430 + 5 * i + 3) = 0
          · rw [if_pos c3]
            by_cases c4 : r (1330 + 10 * bs) = 1
            · rw [if_pos c4] at x3
              rw [if_pos c4]
              by_cases c5 : m < 2
              · rw [if_pos c5, if_pos (by omega), x3, ih _ _ (by omega) (by omega) (by omega) (by omega) (by omega)]; rfl
              · rw [if_neg c5, if_neg (by omega), ih _ _ (by omega) (by omega) (by omega) (by omega) (by omega)]
            · rw [if_neg c4] at x3
              rw [if_neg c4]
              by_cases c5 : m < 1
              · rw [if_pos c5, if_pos (by omega), x3, ih _ _ (by omega) (by omega) (by omega) (by omega) (by omega)]; rfl
              · rw [if_neg c5, if_neg (by omega), ih _ _ (by omega) (by omega) (by omega) (by omega) (by omega)]
          · rw [if_neg c3, if_neg (by omega), ih _ _ (by omega) (by omega) (by omega) m0 m1]
      · rw [if_neg c1, if_neg (by omega), ih _ _ (by omega) (by omega) (by omega) m0 m1]
    · rw [fo_end _ g]
      simp (disch := omega) only [f7_standUpTo_92, W.f6, W.lo.size, Option.bind_some, I_lit, I_neg, I_add, I_sub, I_mul, I_lt, I_le, I_eq, if_pos, if_neg, if_true, if_false, decide_eq_true_eq]
theorem WD.sdL (W : WD h w r c) {p wk : Int} (h0 : 0 ≤ p) (h1 : p < r 4) (k0 : 0 ≤ wk) (k1 : wk ≤ 519) : ∀ (f : Nat) (i : Int), 0 ≤ i → i ≤ r 7 → r 7 - i < f → f7_standUpTo_9 h w (I p) (I wk) (I (yo r p)) f (I i) = some (I (if 0 < cn (fun k => tq r p k && decide (r (4430 + 3 * k + 2) ≤ wk)) (r 7 - i).toNat i then 3 else sl r p wk)) := by
  intro f
  have b := W.ri.1
  have y := yo_rng W.ri p
  induction f with
  | zero => intro i h0 h1; omega
  | succ f ih =>
    intro i i0 i1 i2
    by_cases g : i < r 7
    · have rg := W.ri.2.2.2.2.2.2.2.2.1 i i0 g
      have nn := cn_nn (fun k => tq r p k && decide (r (4430 + 3 * k + 2) ≤ wk)) (r 7 - (i + 1)).toNat (i + 1)
      have ih' := ih (i + 1) (by omega) (by omega) (by omega)
      rw [cn_suc _ g]
      simp (disch := omega) only [f7_standUpTo_9, f7_standUpTo_54, W.f7, W.te.size, W.tAt0, W.tAt, hasBit_of, Option.bind_some, I_lit, I_neg, I_add, I_sub, I_mul, I_lt, I_le, I_eq, if_pos, if_neg, if_true, if_false, decide_eq_true_eq, Bool.false_eq_true, ih']
      by_cases c1 : r (4430 + 3 * i) = p
      · by_cases c2 : wk < r (4430 + 3 * i + 2)
        · rw [if_pos c1, if_pos c2, if_neg (show ¬ (tq r p i && decide (r (4430 + 3 * i + 2) ≤ wk)) = true by simp [show ¬ r (4430 + 3 * i + 2) ≤ wk by omega]), Int.zero_add]
        · rw [if_pos c1, if_neg c2]
          by_cases c3 : bi (yo r p) (r (4430 + 3 * i + 1)) = 1
          · rw [if_pos c3, if_pos (show (tq r p i && decide (r (4430 + 3 * i + 2) ≤ wk)) = true by simp [tq, c1, c3, show r (4430 + 3 * i + 2) ≤ wk by omega]), if_pos (by omega)]
          · rw [if_neg c3, if_neg (show ¬ (tq r p i && decide (r (4430 + 3 * i + 2) ≤ wk)) = true by simp [tq, c3]), Int.zero_add]
      · rw [if_neg c1, if_neg (show ¬ (tq r p i && decide (r (4430 + 3 * i + 2) ≤ wk)) = true by simp [tq, c1]), Int.zero_add]
    · rw [cn_end _ g]
      have := W.slL h0 h1 k0 k1 FU 0 0 (by omega) (by omega) (by have := FU_big; omega) (by omega) (by omega)
      rw [Int.sub_zero] at this
      simp (disch := omega) only [f7_standUpTo_9, W.f7, W.te.size, Option.bind_some, I_lit, I_neg, I_add, I_sub, I_mul, I_lt, I_le, I_eq, if_pos, if_neg, if_true, if_false, decide_eq_true_eq, this]
      rfl
theorem ft_iff {r : Int → Int} (R : RI r) (p wk : Int) : (0 ≤ ft r p ∧ ft r p ≤ wk) ↔ 0 < cn (fun k => tq r p k && decide (r (4430 + 3 * k + 2) ≤ wk)) (r 7).toNat 0 := by
  have b := R.1
  rw [cn_pos]
  rcases fst_cases (tq r p) (fun k => r (4430 + 3 * k + 2)) (r 7).toNat 0 with ⟨e, z⟩ | ⟨j, h0, h1, h2, h3, e⟩
  · constructor
    · intro h; unfold ft at h; omega
    · rintro ⟨k, g0, g1, g2⟩
      rw [z k g0 g1] at g2
      simp at g2
  · have rg := R.2.2.2.2.2.2.2.2.1 j h0 (by omega)
    unfold ft
    rw [e]
    constructor
    · intro h
      exact ⟨j, h0, h1, by simp [h2]; omega⟩
    · rintro ⟨k, g0, g1, g2⟩
      simp only [Bool.and_eq_true, decide_eq_true_eq] at g2
      have : j ≤ k := by
        by_cases q : k < j
        · have := h3 k g0 q; rw [g2.1] at this; cases this
        · omega
      have := R.2.2.2.2.2.2.2.2.2.1 j k h0 this (by omega)
      omega
theorem WD.stand (W : WD h w r c) {p wk : Int} (h0 : 0 ≤ p) (h1 : p < r 4) (k0 : 0 ≤ wk) (k1 : wk ≤ 519) : f7_standUpTo h w (I p) (I wk) = some (I (sd r p wk)) := by
  have b := W.ri.1
  have fu := FU_big
  have := W.sdL h0 h1 k0 k1 FU 0 (by omega) (by omega) (by omega)
  rw [Int.sub_zero] at this
  simp (disch := omega) only [f7_standUpTo, W.o, W.young, Option.bind_some, I_lit, I_neg, I_add, I_sub, I_mul, I_lt, I_le, I_eq, if_pos, if_neg, if_true, if_false, decide_eq_true_eq, this, sd, ft_iff W.ri]
theorem ft_rng {r : Int → Int} (R : RI r) (p : Int) : -1 ≤ ft r p ∧ ft r p ≤ 519 := by
  have b := R.1
  rcases fst_cases (tq r p) (fun k => r (4430 + 3 * k + 2)) (r 7).toNat 0 with ⟨e, z⟩ | ⟨j, h0, h1, h2, h3, e⟩
  · unfold ft; omega
  · have rg := R.2.2.2.2.2.2.2.2.1 j h0 (by omega)
    unfold ft; omega
theorem WD.coL (W : WD h w r c) {p : Int} (h0 : 0 ≤ p) (h1 : p < r 4) : ∀ (f : Nat) (i : Int), 0 ≤ i → i ≤ r 7 → r 7 - i < f → f7_costOfKeeping_26 h w (I p) (I (yo r p)) (I (r (1330 + 10 * p + 8))) f (I i) = some (I ((if fst (tq r p) (fun k => r (4430 + 3 * k + 2)) (r 7 - i).toNat i < 0 then r 0 else fst (tq r p) (fun k => r (4430 + 3 * k + 2)) (r 7 - i).toNat i) - r (1330 + 10 * p + 8))) := by
  intro f
  have b := W.ri.1
  have y := yo_rng W.ri p
  induction f with
  | zero => intro i h0 h1; omega
  | succ f ih =>
    intro i i0 i1 i2
    by_cases g : i < r 7
    · have rg := W.ri.2.2.2.2.2.2.2.2.1 i i0 g
      have ih' := ih (i + 1) (by omega) (by omega) (by omega)
      rw [fst_suc _ _ g]
      simp (disch := omega) only [f7_costOfKeeping_26, W.f7, W.te.size, W.tAt0, W.tAt, hasBit_of, Option.bind_some, I_lit, I_neg, I_add, I_sub, I_mul, I_lt, I_le, I_eq, if_pos, if_neg, if_true, if_false, decide_eq_true_eq, Bool.false_eq_true, ih']
      by_cases c1 : r (4430 + 3 * i) = p
      · by_cases c3 : bi (yo r p) (r (4430 + 3 * i + 1)) = 1
        · rw [if_pos c1, if_pos c3, if_pos (show tq r p i = true by simp [tq, c1, c3]), if_neg (by omega)]
        · rw [if_pos c1, if_neg c3, if_neg (show ¬ tq r p i = true by simp [tq, c3])]
      · rw [if_neg c1, if_neg (show ¬ tq r p i = true by simp [tq, c1])]
    · rw [fst_end _ _ g]
      simp (disch := omega) only [f7_costOfKeeping_26, W.f0, W.f7, W.te.size, Option.bind_some, I_lit, I_neg, I_add, I_sub, I_mul, I_lt, I_le, I_eq, if_pos, if_neg, if_true, if_false, decide_eq_true_eq]
theorem WD.cost (W : WD h w r c) {p : Int} (h0 : 0 ≤ p) (h1 : p < r 4) : f7_costOfKeeping h w (I p) = some (I (co r p)) := by
  have b := W.ri.1
  have y := yo_rng W.ri p
  have fu := FU_big
  have := W.coL h0 h1 FU 0 (by omega) (by omega) (by omega)
  rw [Int.sub_zero] at this
  simp (disch := omega) only [f7_costOfKeeping, W.o, W.young, W.f4, W.pAt, Option.bind_some, I_lit, I_neg, I_add, I_sub, I_mul, I_lt, I_le, I_eq, if_pos, if_neg, if_true, if_false, decide_eq_true_eq, this, co, ft]
  by_cases e : yo r p = 0
  · rw [if_pos e, if_pos e]
  · rw [if_neg e, if_neg e]
    rfl
end
