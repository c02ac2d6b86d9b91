/-! grows: the gaps and prices between VOLUMES, in their order -/
def sgn (x : Int) : Int := if x < 0 then -1 else if 0 < x then 1 else 0
theorem sgn_rng (x : Int) : -1 ≤ sgn x ∧ sgn x ≤ 1 := by
  unfold sgn
  split
  · omega
  · split <;> omega
theorem shr31 {x : Int} (h0 : -2147483648 ≤ x) (h1 : x < 2147483648) : I x >>> (I 31 &&& I 31) = I (if x < 0 then -1 else 0) := by
  rw [← Int32.toInt_inj, pk_shr _ _ 31 (by decide +kernel), I_toInt h0 h1, I_toInt (by split <;> omega) (by split <;> omega), Int.shiftRight_eq_div_pow]
  split <;> omega
theorem ushr31 {x : Int} (h0 : -2147483648 < x) (h1 : x < 2147483648) : ((-I x).toUInt32 >>> ((I 31).toUInt32 &&& Int32.toUInt32 (I 31))).toInt32 = I (if 0 < x then 1 else 0) := by
  rw [show I 31 = (31 : Int32) from rfl, ← Int32.toBitVec_inj, ← BitVec.toNat_inj, pk_ushr _ _ 31 (by decide +kernel), I_neg]
  have e : (I (-x)).toBitVec.toNat = (if 0 < x then 4294967296 - x.toNat else (-x).toNat) := by
    show (BitVec.ofInt 32 (-x)).toNat = _
    rw [BitVec.toNat_ofInt]
    split <;> omega
  rw [e]
  by_cases c : 0 < x
  · rw [if_pos c, if_pos c]
    show _ = 1
    omega
  · rw [if_neg c, if_neg c]
    show _ = 0
    omega
theorem signum_of {h : AH} {x : Int} (h0 : -2147483648 < x) (h1 : x < 2147483648) : fJ6_signum_0f7a4 h (I x) = some (I (sgn x)) := by
  simp only [fJ6_signum_0f7a4, I_lit]
  rw [shr31 (by omega) h1, ushr31 h0 h1]
  unfold sgn
  by_cases a : x < 0
  · rw [if_pos a, if_pos a, if_neg (by omega)]; rfl
  · rw [if_neg a, if_neg a]
    by_cases b : 0 < x
    · rw [if_pos b]; rfl
    · rw [if_neg b]; rfl
/-- after the PIECES ahead of i: the last VOLUME, how many gaps, the gaps, the prices -/
def gx (r : Int → Int) (p : Int) (x : Int × Int × (Int → Int) × (Int → Int)) : Int × Int × (Int → Int) × (Int → Int) :=
  if r (1330 + 10 * p) = 0 then (if 0 ≤ x.1 then (p, x.2.1 + 1, up x.2.2.1 x.2.1 (r (1330 + 10 * p + 8) - r (1330 + 10 * x.1 + 8)), up x.2.2.2 x.2.1 (r (1330 + 10 * x.1 + 7))) else (p, x.2)) else x
def gs (r : Int → Int) (i : Int) : Int × Int × (Int → Int) × (Int → Int) := fo (gx r) i.toNat 0 (-1, 0, fun _ => 0, fun _ => 0)
theorem gs_0 (r : Int → Int) : gs r 0 = (-1, 0, fun _ => 0, fun _ => 0) := rfl
theorem gs_s (r : Int → Int) {i : Int} (h : 0 ≤ i) : gs r (i + 1) = gx r i (gs r i) := by
  unfold gs
  rw [show (i + 1).toNat = i.toNat + 1 by omega, fo_last, show (0 : Int) + (i.toNat : Nat) = i by omega]
theorem gs_rng (r : Int → Int) : ∀ (n : Nat), -1 ≤ (gs r n).1 ∧ (gs r n).1 < n ∧ 0 ≤ (gs r n).2.1 ∧ (gs r n).2.1 ≤ n ∧ ((gs r n).1 = -1 → (gs r n).2.1 = 0) := by
  intro n
  induction n with
  | zero => simp [gs_0]
  | succ n ih =>
    rw [show ((n + 1 : Nat) : Int) = (n : Int) + 1 by omega, gs_s r (by omega)]
    generalize gs r n = x at ih ⊢
    unfold gx
    split
    · split <;> simp <;> omega
    · omega
theorem gs_rng' (r : Int → Int) {i : Int} (h : 0 ≤ i) : -1 ≤ (gs r i).1 ∧ (gs r i).1 < i ∧ 0 ≤ (gs r i).2.1 ∧ (gs r i).2.1 ≤ i ∧ ((gs r i).1 = -1 → (gs r i).2.1 = 0) := by
  have := gs_rng r i.toNat
  rw [Int.toNat_of_nonneg h] at this
  exact this
/-- what is written stays -/
theorem gs_keep (r : Int → Int) : ∀ (k : Nat) (i : Int), 0 ≤ i → (gs r i).2.1 ≤ (gs r (i + k)).2.1 ∧ ∀ m, m < (gs r i).2.1 → (gs r (i + k)).2.2.1 m = (gs r i).2.2.1 m ∧ (gs r (i + k)).2.2.2 m = (gs r i).2.2.2 m := by
  intro k
  induction k with
  | zero => intro i _; simp
  | succ k ih =>
    intro i h
    obtain ⟨a, b⟩ := ih i h
    rw [show i + ((k + 1 : Nat) : Int) = i + k + 1 by omega, gs_s r (by omega)]
    unfold gx
    split
    · split
      · refine ⟨by simp; omega, fun m hm => ?_⟩
        have := b m hm
        simp only [up_ne (show m ≠ (gs r (i + k)).2.1 by omega)]
        exact this
      · exact ⟨a, b⟩
    · exact ⟨a, b⟩
def gT (r : Int → Int) (m k : Int) : Int := -(sgn ((gs r (r 4)).2.2.2 k - (gs r (r 4)).2.2.2 m) * sgn ((gs r (r 4)).2.2.1 k - (gs r (r 4)).2.2.1 m))
theorem mul3 {a b : Int} (h : -1 ≤ a ∧ a ≤ 1) (g : -1 ≤ b ∧ b ≤ 1) : -1 ≤ a * b ∧ a * b ≤ 1 := by
  have : a = -1 ∨ a = 0 ∨ a = 1 := by omega
  rcases this with e | e | e <;> subst e <;> omega
theorem gT_rng (r : Int → Int) (m k : Int) : -1 ≤ gT r m k ∧ gT r m k ≤ 1 := by
  have := mul3 (sgn_rng ((gs r (r 4)).2.2.2 k - (gs r (r 4)).2.2.2 m)) (sgn_rng ((gs r (r 4)).2.2.1 k - (gs r (r 4)).2.2.1 m))
  unfold gT
  omega
/-- at a VOLUME i with one ahead: its gap and price in the finished tables -/
theorem gs_here (r : Int → Int) {i : Int} (h0 : 0 ≤ i) (h1 : i < r 4) (v : r (1330 + 10 * i) = 0) (p : 0 ≤ (gs r i).1) : (gs r (i + 1)).1 = i ∧ (gs r (i + 1)).2.1 = (gs r i).2.1 + 1 ∧ (gs r (r 4)).2.2.1 (gs r i).2.1 = r (1330 + 10 * i + 8) - r (1330 + 10 * (gs r i).1 + 8) ∧ (gs r (r 4)).2.2.2 (gs r i).2.1 = r (1330 + 10 * (gs r i).1 + 7) := by
  have k := gs_keep r (r 4 - (i + 1)).toNat (i + 1) (by omega)
  rw [show i + 1 + ((r 4 - (i + 1)).toNat : Nat) = r 4 by omega, gs_s r h0] at k
  rw [gs_s r h0]
  unfold gx at k ⊢
  rw [if_pos v, if_pos p] at k ⊢
  have := k.2 (gs r i).2.1 (by simp; omega)
  simp only [up_eq] at this
  exact ⟨rfl, rfl, this.1, this.2⟩
theorem gs_first (r : Int → Int) {i : Int} (h0 : 0 ≤ i) (v : r (1330 + 10 * i) = 0) (p : ¬ 0 ≤ (gs r i).1) : gs r (i + 1) = (i, (gs r i).2) := by
  rw [gs_s r h0]
  unfold gx
  rw [if_pos v, if_neg p]
theorem gs_skip (r : Int → Int) {i : Int} (h0 : 0 ≤ i) (v : ¬ r (1330 + 10 * i) = 0) : gs r (i + 1) = gs r i := by
  rw [gs_s r h0]
  unfold gx
  rw [if_neg v]
def gw (r : Int → Int) : Int := sm (fun i => sm (fun j => gT r j i) i.toNat 0) (gs r (r 4)).2.1.toNat 0
section
variable {h h' : AH} {w : Nat} {r : Int → Int} {c : Nat → Int → Int}
theorem WD.gbL (W : WD h w r c) {m : Int} (m0 : 0 ≤ m) (q0 : 0 ≤ (gs r (r 4)).2.2.2 m ∧ (gs r (r 4)).2.2.2 m ≤ 9999) (q1 : -519 ≤ (gs r (r 4)).2.2.1 m ∧ (gs r (r 4)).2.2.1 m ≤ 519) : ∀ (f : Nat) (i : Int), 0 ≤ i → i ≤ r 4 → r 4 - i < f → m < (gs r i).2.1 → f7_growthBehind_45 h w (I ((gs r (r 4)).2.2.2 m)) (I ((gs r (r 4)).2.2.1 m)) f (I (sm (gT r m) ((gs r i).2.1 - (m + 1)).toNat (m + 1))) (I (gs r i).1) (I i) = some (I (sm (gT r m) ((gs r (r 4)).2.1 - (m + 1)).toNat (m + 1))) := by
  intro f
  have b := W.ri.1
  induction f with
  | zero => intro i h0 h1; omega
  | succ f ih =>
    intro i i0 i1 i2 i3
    by_cases g : i < r 4
    · have gr := gs_rng' r i0
      have ih' := ih (i + 1) (by omega) (by omega) (by omega)
      have y := (W.ri.2.2.2.2.1 i i0 g).2.2.2.2.1
      by_cases v : r (1330 + 10 * i) = 0
      · have l0 : 0 ≤ (gs r i).1 := by
          by_cases z : (gs r i).1 = -1
          · have := gr.2.2.2.2 z; omega
          · omega
        obtain ⟨e1, e2, e3, e4⟩ := gs_here r i0 g v l0
        have z := W.ri.2.2.2.2.1 (gs r i).1 l0 (by omega)
        have z1 := z.2.2.2.1
        have z2 := z.2.2.2.2.1
        have a := ih' (by omega)
        rw [e1, e2, show ((gs r i).2.1 + 1 - (m + 1)).toNat = ((gs r i).2.1 - (m + 1)).toNat + 1 by omega, sm_last, show m + 1 + (((gs r i).2.1 - (m + 1)).toNat : Nat) = (gs r i).2.1 by omega] at a
        rw [← a]
        have t : gT r m (gs r i).2.1 = -(sgn (r (1330 + 10 * (gs r i).1 + 7) - (gs r (r 4)).2.2.2 m) * sgn (r (1330 + 10 * i + 8) - r (1330 + 10 * (gs r i).1 + 8) - (gs r (r 4)).2.2.1 m)) := by
          unfold gT
          rw [e3, e4]
        rw [t]
        simp (disch := omega) only [f7_growthBehind_45, W.f4, W.pi.size, W.isVol, W.pAt, signum_of, Option.bind_some, I_lit, I_neg, I_add, I_sub, I_mul, I_lt, I_le, I_eq, if_pos, if_neg, if_true, if_false, decide_eq_true_eq, Int.sub_eq_add_neg]
      · rw [gs_skip r i0 v] at ih'
        rw [← ih' i3]
        simp (disch := omega) only [f7_growthBehind_45, W.f4, W.pi.size, W.isVol, Option.bind_some, I_lit, I_neg, I_add, I_sub, I_mul, I_lt, I_le, I_eq, if_pos, if_neg, if_true, if_false, decide_eq_true_eq]
    · have : i = r 4 := by omega
      subst this
      simp (disch := omega) only [f7_growthBehind_45, W.f4, W.pi.size, Option.bind_some, I_lit, I_neg, I_add, I_sub, I_mul, I_lt, I_le, I_eq, if_pos, if_neg, if_true, if_false, decide_eq_true_eq]
theorem WD.gBehind (W : WD h w r c) {i : Int} (i0 : 0 ≤ i) (g : i < r 4) (v : r (1330 + 10 * i) = 0) (l0 : 0 ≤ (gs r i).1) : f7_growthBehind h w (I (gs r i).1) (I i) = some (I (sm (gT r (gs r i).2.1) ((gs r (r 4)).2.1 - ((gs r i).2.1 + 1)).toNat ((gs r i).2.1 + 1))) := by
  have b := W.ri.1
  have fu := FU_big
  have gr := gs_rng' r i0
  obtain ⟨e1, e2, e3, e4⟩ := gs_here r i0 g v l0
  have y := (W.ri.2.2.2.2.1 i i0 g).2.2.2.2.1
  have z := W.ri.2.2.2.2.1 (gs r i).1 l0 (by omega)
  have z1 := z.2.2.2.1
  have z2 := z.2.2.2.2.1
  have := W.gbL (m := (gs r i).2.1) (by omega) (by omega) (by omega) FU (i + 1) (by omega) (by omega) (by omega) (by omega)
  rw [e1, e2, e3, e4, Int.sub_self] at this
  simp (disch := omega) only [f7_growthBehind, W.o, W.f4, W.pAt, Option.bind_some, I_lit, I_neg, I_add, I_sub, I_mul, I_lt, I_le, I_eq, if_pos, if_neg, if_true, if_false, decide_eq_true_eq]
  exact this
theorem WD.gwL (W : WD h w r c) : ∀ (f : Nat) (i : Int), 0 ≤ i → i ≤ r 4 → r 4 - i < f → f7_growth_6 h w f (I (sm (fun m => sm (gT r m) ((gs r (r 4)).2.1 - (m + 1)).toNat (m + 1)) (gs r i).2.1.toNat 0)) (I (gs r i).1) (I i) = some (I (sm (fun m => sm (gT r m) ((gs r (r 4)).2.1 - (m + 1)).toNat (m + 1)) (gs r (r 4)).2.1.toNat 0)) := by
  intro f
  have b := W.ri.1
  induction f with
  | zero => intro i h0 h1; omega
  | succ f ih =>
    intro i i0 i1 i2
    by_cases g : i < r 4
    · have gr := gs_rng' r i0
      have ih' := ih (i + 1) (by omega) (by omega) (by omega)
      by_cases v : r (1330 + 10 * i) = 0
      · by_cases l0 : 0 ≤ (gs r i).1
        · obtain ⟨e1, e2, e3, e4⟩ := gs_here r i0 g v l0
          rw [e1, e2, show ((gs r i).2.1 + 1).toNat = (gs r i).2.1.toNat + 1 by omega, sm_last, show (0 : Int) + ((gs r i).2.1.toNat : Nat) = (gs r i).2.1 by omega] at ih'
          rw [← ih']
          simp (disch := omega) only [f7_growth_6, W.f4, W.pi.size, W.isVol, W.gBehind i0 g v l0, Option.bind_some, I_lit, I_neg, I_add, I_sub, I_mul, I_lt, I_le, I_eq, if_pos, if_neg, if_true, if_false, decide_eq_true_eq]
        · rw [gs_first r i0 v l0] at ih'
          rw [← ih']
          simp (disch := omega) only [f7_growth_6, W.f4, W.pi.size, W.isVol, Option.bind_some, I_lit, I_neg, I_add, I_sub, I_mul, I_lt, I_le, I_eq, if_pos, if_neg, if_true, if_false, decide_eq_true_eq, Int.add_zero]
      · rw [gs_skip r i0 v] at ih'
        rw [← ih']
        simp (disch := omega) only [f7_growth_6, W.f4, W.pi.size, W.isVol, Option.bind_some, I_lit, I_neg, I_add, I_sub, I_mul, I_lt, I_le, I_eq, if_pos, if_neg, if_true, if_false, decide_eq_true_eq]
    · have : i = r 4 := by omega
      subst this
      simp (disch := omega) only [f7_growth_6, W.f4, W.pi.size, Option.bind_some, I_lit, I_neg, I_add, I_sub, I_mul, I_lt, I_le, I_eq, if_pos, if_neg, if_true, if_false, decide_eq_true_eq]
theorem WD.growth (W : WD h w r c) : f7_growth h w = some (I (gw r)) := by
  have b := W.ri.1
  have fu := FU_big
  have := W.gwL FU 0 (by omega) (by omega) (by omega)
  have t := sm_tri (gT r) (gs r (r 4)).2.1.toNat
  have gr := gs_rng' r b.2.2.2.2.2.2.2.2.1
  rw [Int.toNat_of_nonneg gr.2.2.1] at t
  rw [t, gs_0] at this
  simp (disch := omega) only [f7_growth, W.o, Option.bind_some, I_lit, I_neg, I_add, I_sub, I_mul, I_lt, I_le, I_eq, if_pos, if_neg, if_true, if_false, decide_eq_true_eq]
  exact this
end
