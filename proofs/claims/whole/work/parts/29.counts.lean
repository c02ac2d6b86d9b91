/-! what the class finds of a PIECE -/
def yq (r : Int → Int) (p i : Int) : Bool := decide (bi (r (1330 + 10 * p + 6)) i = 1) && decide (ag r p < r (10 + 2 * i))
def yo (r : Int → Int) (p : Int) : Int := bs (yq r p) (r 1).toNat
def la (r : Int → Int) (p : Int) : Int := fo (fun i m => if bi (r (1330 + 10 * p + 6)) i = 1 ∧ m < r (10 + 2 * i) - ag r p then r (10 + 2 * i) - ag r p else m) (r 1).toNat 0 0
def ap (r : Int → Int) (p b : Int) : Int := fo (fun k s => s + (if r (1330 + 10 * p + k) - r (1330 + 10 * b + k) < 0 then -(r (1330 + 10 * p + k) - r (1330 + 10 * b + k)) else r (1330 + 10 * p + k) - r (1330 + 10 * b + k))) 5 1 0
def vo (r : Int → Int) : Int := cn (fun p => decide (r (1330 + 10 * p) = 0)) (r 4).toNat 0
theorem st_rng {r : Int → Int} (R : RI r) {p : Int} (h0 : 0 ≤ p) (h1 : p < r 4) : 0 ≤ r (1330 + 10 * p + 6) ∧ r (1330 + 10 * p + 6) ≤ 1023 := by
  have a := (R.2.2.2.2.1 p h0 h1).2.2.1
  have b := R.1
  have e : (2 : Nat) ^ (r 1).toNat ≤ 2 ^ 10 := Nat.pow_le_pow_right (by omega) (by omega)
  have e2 : ((2 ^ (r 1).toNat : Nat) : Int) = 2 ^ (r 1).toNat := by rw [Int.natCast_pow]; rfl
  omega
theorem ld_rng {r : Int → Int} (R : RI r) (p : Int) : 0 ≤ ld r p ∧ ld r p ≤ 9999 := by
  have i := ld_is r p R.1.2.2.2.2.2.2.2.2.2.2.1 fun k h0 h1 => (R.2.2.2.2.2.2.1 k h0 h1).2.2.1
  refine ⟨i.1, ?_⟩
  rcases i.2.2 with e | e
  · omega
  · obtain ⟨k, h0, h1, h2⟩ := pc_pos.1 e
    simp only [Bool.and_eq_true, decide_eq_true_eq] at h2
    have := R.2.2.2.2.2.2.1 k h0 h1
    omega
theorem ag_rng {r : Int → Int} (R : RI r) (p : Int) : 1900 ≤ ag r p ∧ ag r p ≤ 1927 := by
  have := ld_rng R p
  unfold ag
  omega
theorem yo_rng {r : Int → Int} (R : RI r) (p : Int) : 0 ≤ yo r p ∧ yo r p ≤ 1023 := by
  have a := bs_rng (yq r p) (r 1).toNat
  have b := R.1
  have e : (2 : Nat) ^ (r 1).toNat ≤ 2 ^ 10 := Nat.pow_le_pow_right (by omega) (by omega)
  have e2 : ((2 ^ (r 1).toNat : Nat) : Int) = 2 ^ (r 1).toNat := by rw [Int.natCast_pow]; rfl
  unfold yo
  omega
theorem cn_suc (q : Int → Bool) {i e : Int} (h : i < e) : cn q (e - i).toNat i = (if q i = true then 1 else 0) + cn q (e - (i + 1)).toNat (i + 1) := by
  rw [show (e - i).toNat = (e - (i + 1)).toNat + 1 by omega, cn]
theorem cn_end (q : Int → Bool) {i e : Int} (h : ¬ i < e) : cn q (e - i).toNat i = 0 := by
  rw [show (e - i).toNat = 0 by omega, cn]
theorem fo_suc {α : Type} (f : Int → α → α) {i e : Int} (h : i < e) (a : α) : fo f (e - i).toNat i a = fo f (e - (i + 1)).toNat (i + 1) (f i a) := by
  rw [show (e - i).toNat = (e - (i + 1)).toNat + 1 by omega, fo]
theorem fo_end {α : Type} (f : Int → α → α) {i e : Int} (h : ¬ i < e) (a : α) : fo f (e - i).toNat i a = a := by
  rw [show (e - i).toNat = 0 by omega, fo]
theorem sa_eq (r : Int → Int) (d l : Int) : (bs (sh r d l) 6 = 0) = (sa r d l = false) := by simp [sa]
section
variable {h h' : AH} {w : Nat} {r : Int → Int} {c : Nat → Int → Int}
-- GEN
theorem WD.wrongsL (W : WD h w r c) {e : Int} (he : e ≤ r 5) : ∀ (f : Nat) (a i : Int), 0 ≤ i → i ≤ e → e - i < f → f7_wrongPages_15 h w (I e) f (I a) (I i) = some (I (a + cn (fun i => wr r (c 6 i % 10000) (c 7 i)) (e - i).toNat i)) := by
  intro f
  have b := W.ri.1
  induction f with
  | zero => intro a i h0 h1; omega
  | succ f ih =>
    intro a i h0 h1 h2
    by_cases g : i < e
    · have rg := bs_rng (sh r (c 6 i % 10000) (c 7 i)) 6
      simp (disch := omega) only [f7_wrongPages_15, W.wrong, cn_suc _ g, Option.bind_some, I_lit, I_neg, I_add, I_sub, I_mul, I_lt, I_le, I_eq, if_pos, if_neg, if_true, if_false, decide_eq_true_eq]
      by_cases k : (wr r (c 6 i % 10000) (c 7 i)) = true
      · simp only [k, if_true, Bool.false_eq_true, Bool.true_eq_false, if_false]
        rw [ih (a + 1) (i + 1) (by omega) (by omega) (by omega), Int.add_assoc]
      · rw [Bool.not_eq_true] at k
        simp only [k, Bool.false_eq_true, if_true, if_false, Int.zero_add]
        exact ih a (i + 1) (by omega) (by omega) (by omega)
    · simp (disch := omega) only [f7_wrongPages_15, cn_end _ g, Int.add_zero, Option.bind_some, I_lit, I_neg, I_add, I_sub, I_mul, I_lt, I_le, I_eq, if_pos, if_neg, if_true, if_false, decide_eq_true_eq]
theorem WD.nowheresL (W : WD h w r c) {e : Int} (he : e ≤ r 5) : ∀ (f : Nat) (a i : Int), 0 ≤ i → i ≤ e → e - i < f → f7_nowherePages_15 h w (I e) f (I a) (I i) = some (I (a + cn (fun i => nw r (c 6 i % 10000)) (e - i).toNat i)) := by
  intro f
  have b := W.ri.1
  induction f with
  | zero => intro a i h0 h1; omega
  | succ f ih =>
    intro a i h0 h1 h2
    by_cases g : i < e
    · have rg := bs_rng (sh r (c 6 i % 10000) (c 7 i)) 6
      simp (disch := omega) only [f7_nowherePages_15, W.nowhere, cn_suc _ g, Option.bind_some, I_lit, I_neg, I_add, I_sub, I_mul, I_lt, I_le, I_eq, if_pos, if_neg, if_true, if_false, decide_eq_true_eq]
      by_cases k : (nw r (c 6 i % 10000)) = true
      · simp only [k, if_true, Bool.false_eq_true, Bool.true_eq_false, if_false]
        rw [ih (a + 1) (i + 1) (by omega) (by omega) (by omega), Int.add_assoc]
      · rw [Bool.not_eq_true] at k
        simp only [k, Bool.false_eq_true, if_true, if_false, Int.zero_add]
        exact ih a (i + 1) (by omega) (by omega) (by omega)
    · simp (disch := omega) only [f7_nowherePages_15, cn_end _ g, Int.add_zero, Option.bind_some, I_lit, I_neg, I_add, I_sub, I_mul, I_lt, I_le, I_eq, if_pos, if_neg, if_true, if_false, decide_eq_true_eq]
theorem WD.sharedsL (W : WD h w r c) {e : Int} (he : e ≤ r 5) : ∀ (f : Nat) (a i : Int), 0 ≤ i → i ≤ e → e - i < f → f7_sharedPages_15 h w (I e) f (I a) (I i) = some (I (a + cn (fun i => sa r (c 6 i % 10000) (c 7 i)) (e - i).toNat i)) := by
  intro f
  have b := W.ri.1
  induction f with
  | zero => intro a i h0 h1; omega
  | succ f ih =>
    intro a i h0 h1 h2
    by_cases g : i < e
    · have rg := bs_rng (sh r (c 6 i % 10000) (c 7 i)) 6
      simp (disch := omega) only [f7_sharedPages_15, W.sources, cn_suc _ g, sa_eq, Option.bind_some, I_lit, I_neg, I_add, I_sub, I_mul, I_lt, I_le, I_eq, if_pos, if_neg, if_true, if_false, decide_eq_true_eq]
      by_cases k : (sa r (c 6 i % 10000) (c 7 i)) = true
      · simp only [k, if_true, Bool.false_eq_true, Bool.true_eq_false, if_false]
        rw [ih (a + 1) (i + 1) (by omega) (by omega) (by omega), Int.add_assoc]
      · rw [Bool.not_eq_true] at k
        simp only [k, Bool.false_eq_true, if_true, if_false, Int.zero_add]
        exact ih a (i + 1) (by omega) (by omega) (by omega)
    · simp (disch := omega) only [f7_sharedPages_15, cn_end _ g, Int.add_zero, Option.bind_some, I_lit, I_neg, I_add, I_sub, I_mul, I_lt, I_le, I_eq, if_pos, if_neg, if_true, if_false, decide_eq_true_eq]
theorem WD.withsL (W : WD h w r c) {s : Int} (s0 : 0 ≤ s) (s1 : s ≤ 5) {e : Int} (he : e ≤ r 5) : ∀ (f : Nat) (a i : Int), 0 ≤ i → i ≤ e → e - i < f → f7_pagesSharedWith_16 h w (I s) (I e) f (I a) (I i) = some (I (a + cn (fun i => sh r (c 6 i % 10000) (c 7 i) s) (e - i).toNat i)) := by
  intro f
  have b := W.ri.1
  induction f with
  | zero => intro a i h0 h1; omega
  | succ f ih =>
    intro a i h0 h1 h2
    by_cases g : i < e
    · have rg := bs_rng (sh r (c 6 i % 10000) (c 7 i)) 6
      simp (disch := omega) only [f7_pagesSharedWith_16, W.sources, cn_suc _ g, hasBit_of, bs_bi', Option.bind_some, I_lit, I_neg, I_add, I_sub, I_mul, I_lt, I_le, I_eq, if_pos, if_neg, if_true, if_false, decide_eq_true_eq]
      by_cases k : (sh r (c 6 i % 10000) (c 7 i) s) = true
      · simp only [k, if_true, Bool.false_eq_true, Bool.true_eq_false, if_false]
        rw [ih (a + 1) (i + 1) (by omega) (by omega) (by omega), Int.add_assoc]
      · rw [Bool.not_eq_true] at k
        simp only [k, Bool.false_eq_true, if_true, if_false, Int.zero_add]
        exact ih a (i + 1) (by omega) (by omega) (by omega)
    · simp (disch := omega) only [f7_pagesSharedWith_16, cn_end _ g, Int.add_zero, Option.bind_some, I_lit, I_neg, I_add, I_sub, I_mul, I_lt, I_le, I_eq, if_pos, if_neg, if_true, if_false, decide_eq_true_eq]
theorem WD.wrongPages (W : WD h w r c) {p : Int} (h0 : 0 ≤ p) (h1 : p < 90) : f7_wrongPages h w (I p) = some (I (pq r p fun d l => wr r d l)) := by
  have a := W.fpr p
  have b := W.ri.1
  have fu := FU_big
  have e := W.count p fun d l => wr r d l
  unfold pq
  rw [← e]
  have := W.wrongsL (e := fp r c (p + 1)) a.2.2 FU 0 (fp r c p) a.1 a.2.1 (by omega)
  rw [Int.zero_add] at this
  rw [← this]
  simp (disch := omega) only [f7_wrongPages, W.o, W.pEnd, W.pFirst, Option.bind_some, I_lit, I_neg, I_add, I_sub, I_mul, I_lt, I_le, I_eq, if_pos, if_neg, if_true, if_false, decide_eq_true_eq]
theorem WD.nowherePages (W : WD h w r c) {p : Int} (h0 : 0 ≤ p) (h1 : p < 90) : f7_nowherePages h w (I p) = some (I (pq r p fun d _ => nw r d)) := by
  have a := W.fpr p
  have b := W.ri.1
  have fu := FU_big
  have e := W.count p fun d _ => nw r d
  unfold pq
  rw [← e]
  have := W.nowheresL (e := fp r c (p + 1)) a.2.2 FU 0 (fp r c p) a.1 a.2.1 (by omega)
  rw [Int.zero_add] at this
  rw [← this]
  simp (disch := omega) only [f7_nowherePages, W.o, W.pEnd, W.pFirst, Option.bind_some, I_lit, I_neg, I_add, I_sub, I_mul, I_lt, I_le, I_eq, if_pos, if_neg, if_true, if_false, decide_eq_true_eq]
theorem WD.sharedPages (W : WD h w r c) {p : Int} (h0 : 0 ≤ p) (h1 : p < 90) : f7_sharedPages h w (I p) = some (I (pq r p fun d l => sa r d l)) := by
  have a := W.fpr p
  have b := W.ri.1
  have fu := FU_big
  have e := W.count p fun d l => sa r d l
  unfold pq
  rw [← e]
  have := W.sharedsL (e := fp r c (p + 1)) a.2.2 FU 0 (fp r c p) a.1 a.2.1 (by omega)
  rw [Int.zero_add] at this
  rw [← this]
  simp (disch := omega) only [f7_sharedPages, W.o, W.pEnd, W.pFirst, Option.bind_some, I_lit, I_neg, I_add, I_sub, I_mul, I_lt, I_le, I_eq, if_pos, if_neg, if_true, if_false, decide_eq_true_eq]
theorem WD.sharedWith (W : WD h w r c) {p : Int} (h0 : 0 ≤ p) (h1 : p < 90) {s : Int} (s0 : 0 ≤ s) (s1 : s ≤ 5) : f7_pagesSharedWith h w (I p) (I s) = some (I (pq r p fun d l => sh r d l s)) := by
  have a := W.fpr p
  have b := W.ri.1
  have fu := FU_big
  have e := W.count p fun d l => sh r d l s
  unfold pq
  rw [← e]
  have := W.withsL s0 s1 (e := fp r c (p + 1)) a.2.2 FU 0 (fp r c p) a.1 a.2.1 (by omega)
  rw [Int.zero_add] at this
  rw [← this]
  simp (disch := omega) only [f7_pagesSharedWith, W.o, W.pEnd, W.pFirst, Option.bind_some, I_lit, I_neg, I_add, I_sub, I_mul, I_lt, I_le, I_eq, if_pos, if_neg, if_true, if_false, decide_eq_true_eq]
end
