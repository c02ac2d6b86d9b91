/-! an IMAGE takes over what another holds -/
theorem cp0 {f g : Int → Int} {n k : Int} (h0 : 0 ≤ k) (h1 : k < n) : cp f g 0 0 n k = f k := by
  rw [cp, if_pos (by omega)]
  congr 1
  omega
section
variable {h : AH} {r r2 : Nat} {lim wid n n2 : Int} {g g2 : Int → Int}
theorem RW.copy (R : RW h r lim wid n g) (S : RW h r2 lim wid n2 g2) (d : r + 2 ≤ r2 ∨ r2 + 2 ≤ r) : ∃ h', f5_copyFrom h r r2 = some h' ∧ RW h' r lim wid n2 (cp g2 g 0 0 (n2 * wid)) ∧ Fr r (r + 2) h h' := by
  have b := S.2.2
  have c0 : 0 ≤ n2 * wid := Int.mul_nonneg b.1 (by omega)
  have c1 : n2 * wid ≤ lim * wid := Int.mul_le_mul_of_nonneg_right b.2.1 (by omega)
  have c2 := S.2.1.2
  obtain ⟨h1, e1, A1, F1⟩ := cpI_ex S.2.1 R.2.1 (sp := 0) (dp := 0) (nn := n2 * wid) (by omega) (by omega) c0 (by omega) (by omega)
  have O1 := R.1.at (F1.2 _ (by omega))
  have S1 := S.1.at (F1.2 _ (by omega))
  obtain ⟨h2, e2, O2, F2⟩ := O1.set 3 (.int (I n2)) (by simp)
  refine ⟨h2, ?_, ⟨O2, A1.at (F2.2 _ (by omega)), b⟩, (F1.mono (by omega) (by omega)).trans (F2.mono (by omega) (by omega))⟩
  simp (disch := omega) only [f5_copyFrom, R.o, R.c, R.w, S.s, S.w, S.c, R.2.1.n, S.2.1.n, Option.bind_some, I_lit, I_neg, I_add, I_sub, I_mul, I_lt, I_le, I_eq, if_pos, if_neg, if_true, if_false, decide_eq_true_eq, e1, S1.i 3 rfl, e2]
end
section
variable {h : AH} {p p2 : Nat} {cap n n2 : Int} {K Q K2 Q2 : Int → Int}
theorem PL.copy (P : PL h p cap n K Q) (S : PL h p2 cap n2 K2 Q2) (d : p + 3 ≤ p2 ∨ p2 + 3 ≤ p) : ∃ h', f2_copyFrom h p p2 = some h' ∧ PL h' p cap n2 (cp K2 K 0 0 n2) (cp Q2 Q 0 0 n2) ∧ Fr p (p + 3) h h' := by
  have b := S.2.2.2.2.2
  obtain ⟨h1, e1, A1, F1⟩ := cpI_ex S.2.1 P.2.1 (sp := 0) (dp := 0) (nn := n2) (by omega) (by omega) (by omega) (by omega) (by omega)
  have O1 := P.1.at (F1.2 _ (by omega))
  have S1 := S.1.at (F1.2 _ (by omega))
  have T1 := S.2.2.1.at (F1.2 _ (by omega))
  have V1 := P.2.2.1.at (F1.2 _ (by omega))
  obtain ⟨h2, e2, V2, F2⟩ := cpI_ex T1 V1 (sp := 0) (dp := 0) (nn := n2) (by omega) (by omega) (by omega) (by omega) (by omega)
  have O2 := O1.at (F2.2 _ (by omega))
  have S2 := S1.at (F2.2 _ (by omega))
  have A2 := A1.at (F2.2 _ (by omega))
  obtain ⟨h3, e3, O3, F3⟩ := O2.set 2 (.int (I n2)) (by simp)
  refine ⟨h3, ?_, ⟨O3, A2.at (F3.2 _ (by omega)), V2.at (F3.2 _ (by omega)), fun i j g0 g1 g2 => ?_, fun i g0 g1 => ?_, b⟩, ((F1.mono (by omega) (by omega)).trans (F2.mono (by omega) (by omega))).trans (F3.mono (by omega) (by omega))⟩
  · simp (disch := omega) only [f2_copyFrom, P.o, P.k, P.v, S.s, S.k, P.2.1.n, P.2.2.1.n, S.2.1.n, Option.bind_some, I_lit, I_neg, I_add, I_sub, I_mul, I_lt, I_le, I_eq, if_pos, if_neg, if_true, if_false, decide_eq_true_eq, e1, S1.r 1 rfl, O1.r 1 rfl, S1.i 2 rfl, e2, S2.i 2 rfl, e3]
  · rw [cp0 g0 (by omega), cp0 (by omega) g2]; exact S.2.2.2.1 i j g0 g1 g2
  · rw [cp0 g0 g1, cp0 g0 g1]; exact S.2.2.2.2.1 i g0 g1
theorem ff_cong {K K' : Int → Int} {n : Int} (h : ∀ i, 0 ≤ i → i < n → K i = K' i) (key : Int) : ff K n key = ff K' n key := cn_cong _ _ fun j a b => by rw [h j a (by omega)]
theorem pof_cong {K K' Q Q' : Int → Int} {n : Int} (hn : 0 ≤ n) (s : so K n) (h : ∀ i, 0 ≤ i → i < n → K i = K' i) (g : ∀ i, 0 ≤ i → i < n → Q i = Q' i) (key : Int) : pof K Q n key = pof K' Q' n key := by
  have f := ff_spec key hn s
  unfold pof kh
  rw [← ff_cong h key]
  by_cases c : ff K n key < n
  · rw [h _ f.1 c, g _ f.1 c]
  · simp [c]
theorem kh_cong {K K' : Int → Int} {n : Int} (hn : 0 ≤ n) (s : so K n) (h : ∀ i, 0 ≤ i → i < n → K i = K' i) (key : Int) : kh K n key = kh K' n key := by
  have f := ff_spec key hn s
  unfold kh
  rw [← ff_cong h key]
  by_cases c : ff K n key < n
  · rw [h _ f.1 c]
  · simp [c]
end
