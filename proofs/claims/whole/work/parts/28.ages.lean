/-! the class's counts of PAGES, ages -/
theorem PL.khp {h : AH} {p : Nat} {cap n : Int} {K Q : Int → Int} (P : PL h p cap n K Q) (key : Int) : kh K n key = decide (pof K Q n key ≠ -1) := by
  have s := P.ffs key
  unfold pof
  by_cases g : kh K n key = true
  · have g' := g
    simp only [kh, decide_eq_true_eq] at g'
    have := P.2.2.2.2.1 _ s.1 g'.1
    rw [if_pos g, g, decide_eq_true (by omega)]
  · rw [if_neg g]
    simpa using g
theorem pc_pos {r : Int → Int} {q : Int → Int → Int → Bool} : 0 < pc r q ↔ ∃ k, 0 ≤ k ∧ k < r 5 ∧ q (r (2230 + 3 * k)) (r (2230 + 3 * k + 1)) (r (2230 + 3 * k + 2)) = true := by
  unfold pc
  rw [cn_pos]
  constructor
  · rintro ⟨j, h0, h1, h2⟩; exact ⟨j, h0, by omega, h2⟩
  · rintro ⟨j, h0, h1, h2⟩; exact ⟨j, h0, by omega, h2⟩
theorem pc_nn (r : Int → Int) (q : Int → Int → Int → Bool) : 0 ≤ pc r q ∧ pc r q ≤ (r 5).toNat := cn_nn _ _ _
theorem pc_cong {r : Int → Int} {q q' : Int → Int → Int → Bool} (h : ∀ a d l, q a d l = q' a d l) : pc r q = pc r q' := cn_cong _ _ fun j _ _ => h _ _ _
def pq (r : Int → Int) (p : Int) (q : Int → Int → Bool) : Int := pc r fun a d l => decide (a = p) && q d l
theorem pq_nn (r : Int → Int) (p : Int) (q : Int → Int → Bool) : 0 ≤ pq r p q ∧ pq r p q ≤ (r 5).toNat := cn_nn _ _ _
/-- the last DAY of a PIECE's PAGES, or 0 -/
def ld (r : Int → Int) (p : Int) : Int := fo (fun k m => if r (2230 + 3 * k) = p ∧ m < r (2230 + 3 * k + 1) then r (2230 + 3 * k + 1) else m) (r 5).toNat 0 0
def isLd (r : Int → Int) (p M : Int) : Prop := 0 ≤ M ∧ pq r p (fun d _ => decide (M < d)) = 0 ∧ (M = 0 ∨ 0 < pq r p (fun d _ => decide (d = M)))
theorem isLd_le {r : Int → Int} {p M N : Int} (a : isLd r p M) (b : isLd r p N) : N ≤ M := by
  by_cases c : M < N
  · have := b.2.2.resolve_left (by have := a.1; omega)
    obtain ⟨k, h0, h1, h2⟩ := pc_pos.1 this
    have z := a.2.1
    have : 0 < pq r p (fun d _ => decide (M < d)) := pc_pos.2 ⟨k, h0, h1, by
      simp only [Bool.and_eq_true, decide_eq_true_eq] at h2 ⊢
      exact ⟨h2.1, by omega⟩⟩
    omega
  · omega
theorem ld_is (r : Int → Int) (p : Int) (h5 : 0 ≤ r 5) (h : ∀ k, 0 ≤ k → k < r 5 → 0 ≤ r (2230 + 3 * k + 1)) : isLd r p (ld r p) := by
  have := fo_inv (f := fun k m => if r (2230 + 3 * k) = p ∧ m < r (2230 + 3 * k + 1) then r (2230 + 3 * k + 1) else m) (P := fun i M => 0 ≤ M ∧ (∀ k, 0 ≤ k → k < i → r (2230 + 3 * k) = p → r (2230 + 3 * k + 1) ≤ M) ∧ (M = 0 ∨ ∃ k, 0 ≤ k ∧ k < i ∧ r (2230 + 3 * k) = p ∧ r (2230 + 3 * k + 1) = M)) (r 5).toNat 0 0 (fun j M h0 h1 ⟨a, b, d⟩ => by
    by_cases g : r (2230 + 3 * j) = p ∧ M < r (2230 + 3 * j + 1)
    · simp only [if_pos g]
      refine ⟨by omega, fun k k0 k1 e => ?_, .inr ⟨j, by omega, by omega, g.1, rfl⟩⟩
      by_cases e2 : k = j
      · subst e2; omega
      · have := b k k0 (by omega) e; omega
    · simp only [if_neg g]
      refine ⟨a, fun k k0 k1 e => ?_, d.imp id fun ⟨k, x⟩ => ⟨k, x.1, by omega, x.2.2⟩⟩
      by_cases e2 : k = j
      · subst e2; omega
      · exact b k k0 (by omega) e) ⟨by omega, fun k _ _ => by omega, .inl rfl⟩
  obtain ⟨a, b, d⟩ := this
  refine ⟨a, ?_, d.imp id fun ⟨k, k0, k1, k2, k3⟩ => pc_pos.2 ⟨k, k0, by omega, by simp only [Bool.and_eq_true, decide_eq_true_eq]; exact ⟨k2, k3⟩⟩⟩
  have := pq_nn r p (fun d _ => decide (ld r p < d))
  by_cases c : 0 < pq r p (fun d _ => decide (ld r p < d))
  · obtain ⟨k, h0, h1, h2⟩ := pc_pos.1 c
    simp only [Bool.and_eq_true, decide_eq_true_eq] at h2
    have := b k h0 (by omega) h2.1
    unfold ld at h2
    omega
  · omega
def ag (r : Int → Int) (p : Int) : Int := 1900 + ld r p / 365
section
variable {h h' : AH} {w : Nat} {r : Int → Int} {c : Nat → Int → Int}
theorem WD.pagesOf (W : WD h w r c) {p : Int} (h0 : 0 ≤ p) (h1 : p < 90) : f7_pagesOf h w (I p) = some (I (pq r p fun _ _ => true)) := by
  have a := W.fpr p
  have e := W.count p fun _ _ => true
  rw [cn_all _ _ (fun _ _ _ => rfl)] at e
  simp (disch := omega) only [f7_pagesOf, W.o, W.pEnd, W.pFirst, Option.bind_some, I_lit, I_neg, I_add, I_sub, I_mul, I_lt, I_le, I_eq, if_pos, if_neg, if_true, if_false, decide_eq_true_eq, pq]
  rw [← e]
  congr 2
  omega
theorem WD.nwL (W : WD h w r c) {d : Int} (d0 : 0 ≤ d) (d1 : d ≤ 9999) : ∀ (f : Nat) (i : Int), 0 ≤ i → i ≤ 6 → 6 - i < f → f7_isNowhere_18 h w (I d) f (decide (Tl r d ≠ -1) || decide (0 < cn (fun s => decide (Fl r s d ≠ -1)) i.toNat 0)) (I i) = some (nw r d) := by
  intro f
  induction f with
  | zero => intros; omega
  | succ f ih =>
    intro i h0 h1 hf
    by_cases e : i < 6
    · have t := Fl_rng W.ri i d
      have l := cn_last (fun s => decide (Fl r s d ≠ -1)) i.toNat 0
      rw [show (0 : Int) + (i.toNat : Nat) = i by omega] at l
      have nn := cn_nn (fun s => decide (Fl r s d ≠ -1)) i.toNat 0
      have ih2 := ih (i + 1) (by omega) (by omega) (by omega)
      rw [show (i + 1).toNat = i.toNat + 1 by omega, l] at ih2
      have k := W.fa.khp (i * 10000 + d)
      rw [W.cr.2.2.2.1 i d (by omega) (by omega) d0 d1] at k
      rw [f7_isNowhere_18]
      generalize cn (fun s => decide (Fl r s d ≠ -1)) i.toNat 0 = z at ih2 nn ⊢
      by_cases g : (decide (Tl r d ≠ -1) || decide (0 < z)) = true
      · simp (disch := omega) only [g, Option.bind_some, I_lit, I_neg, I_add, I_sub, I_mul, I_lt, I_le, I_eq, if_pos, if_neg, if_true, if_false, decide_eq_true_eq]
        rw [← ih2]
        congr 1
        simp only [Bool.or_eq_true, decide_eq_true_eq] at g ⊢
        symm
        simp only [Bool.or_eq_true, decide_eq_true_eq]
        refine g.imp id fun g => ?_
        split <;> omega
      · simp (disch := omega) only [g, W.f3, W.fa.hasKey, k, Option.bind_some, I_lit, I_neg, I_add, I_sub, I_mul, I_lt, I_le, I_eq, if_pos, if_neg, if_true, if_false, decide_eq_true_eq]
        simp only [Bool.or_eq_true, decide_eq_true_eq, not_or] at g
        have z0 : z = 0 := by omega
        subst z0
        by_cases u : Fl r i d = -1
        · simp (disch := omega) only [u, ne_eq, not_true, decide_false, Bool.false_eq_true, if_false]
          rw [← ih2]
          congr 1
          simp [g, u]
        · simp (disch := omega) only [u, ne_eq, not_false_eq_true, decide_true, if_true]
          rw [← ih2]
          congr 1
          simp [g, u]
    · have : i = 6 := by omega
      subst this
      have nn := cn_nn (fun s => decide (Fl r s d ≠ -1)) 6 0
      clear ih
      simp (disch := omega) only [f7_isNowhere_18, Option.bind_some, I_lit, I_neg, I_add, I_sub, I_mul, I_lt, I_le, I_eq, if_pos, if_neg, if_true, if_false, decide_eq_true_eq]
      unfold nw
      show (if (decide (Tl r d ≠ -1) || decide (0 < cn (fun s => decide (Fl r s d ≠ -1)) 6 0)) = true then some false else some true) = _
      generalize cn (fun s => decide (Fl r s d ≠ -1)) 6 0 = z at nn ⊢
      by_cases a : Tl r d = -1
      · by_cases b : 0 < z
        · simp [a, b, show ¬ z = 0 by omega]
        · simp [a, show z = 0 by omega]
      · simp [a]
theorem WD.nowhere (W : WD h w r c) {i : Int} (h0 : 0 ≤ i) (h1 : i < r 5) : f7_isNowhere h w (I i) = some (nw r (c 6 i % 10000)) := by
  have p := W.pgr h0 h1
  have fu := FU_big
  have k := W.tr.khp (c 6 i % 10000)
  rw [W.cr.2.2.1] at k
  have := W.nwL (d := c 6 i % 10000) (by omega) (by omega) FU 0 (by omega) (by omega) (by omega)
  simp (disch := omega) only [f7_isNowhere, W.o, W.f2, W.day, W.tr.hasKey, k, Option.bind_some, I_lit, I_neg, I_add, I_sub, I_mul, I_lt, I_le, I_eq, if_pos, if_neg, if_true, if_false, decide_eq_true_eq]
  rw [← this]
  simp [cn]
end
