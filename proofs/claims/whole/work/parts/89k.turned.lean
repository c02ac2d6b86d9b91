/-! SOONEST: the reference's step from one order to the next, on its row -/
theorem pv_rng (od : Int → Int) : ∀ k : Nat, -1 ≤ pv od k ∧ pv od k < k ∧ (0 ≤ pv od k → od (pv od k) ≤ od (pv od k + 1))
  | 0 => by simp [pv]
  | k + 1 => by
    have := pv_rng od k
    unfold pv
    split
    · exact ⟨this.1, by omega, this.2.2⟩
    · exact ⟨by omega, by omega, fun _ => by omega⟩
theorem swj_rng (od : Int → Int) (p : Int) : ∀ k : Nat, 0 ≤ swj od p k ∧ (0 < k → swj od p k < k)
  | 0 => by simp [swj]
  | k + 1 => by
    have := swj_rng od p k
    unfold swj
    split
    · refine ⟨this.1, fun _ => ?_⟩
      by_cases c : 0 < k
      · have := this.2 c; omega
      · have : k = 0 := by omega
        subst this
        simp [swj]
    · exact ⟨by omega, fun _ => by omega⟩
/-- the same order, by other names -/
def RLn (n : Nat) (nn od p : Int → Int) : Prop := ∀ i : Int, 0 ≤ i → i < n → od i = nn (p i) ∧ 0 ≤ p i ∧ p i < n
section
variable {n : Nat} {nn od p : Int → Int}
theorem RLn.lt (R : RLn n nn od p) (mono : ∀ a b : Int, 0 ≤ a → a < b → b < n → nn a < nn b) {i j : Int} (i0 : 0 ≤ i) (i1 : i < n) (j0 : 0 ≤ j) (j1 : j < n) : (od i < od j) ↔ p i < p j := by
  have a := R i i0 i1
  have b := R j j0 j1
  rw [a.1, b.1]
  constructor
  · intro h
    by_cases c : p i < p j
    · exact c
    · by_cases d : p i = p j
      · rw [d] at h; omega
      · have := mono (p j) (p i) b.2.1 (by omega) a.2.2; omega
  · intro h; exact mono _ _ a.2.1 h b.2.2
end
section
variable {n : Nat} {nn od p : Int → Int}
theorem RLn.piv (R : RLn n nn od p) (mono : ∀ a b : Int, 0 ≤ a → a < b → b < n → nn a < nn b) : ∀ k : Nat, k + 1 ≤ n → pv od k = pv p k
  | 0, _ => rfl
  | k + 1, h => by
    have l := R.lt mono (i := (k : Int) + 1) (j := k) (by omega) (by omega) (by omega) (by omega)
    unfold pv
    by_cases c : p ((k : Int) + 1) < p k
    · rw [if_pos (l.mpr c), if_pos c, RLn.piv R mono k (by omega)]
    · rw [if_neg (fun z => c (l.mp z)), if_neg c]
theorem RLn.swi (R : RLn n nn od p) (mono : ∀ a b : Int, 0 ≤ a → a < b → b < n → nn a < nn b) {i : Int} (i0 : 0 ≤ i) (i1 : i < n) : ∀ k : Nat, k ≤ n → swj od (od i) k = swj p (p i) k
  | 0, _ => rfl
  | k + 1, h => by
    have l := R.lt mono (i := (k : Int)) (j := i) (by omega) (by omega) i0 i1
    unfold swj
    by_cases c : p k < p i
    · rw [if_pos (l.mpr c), if_pos c, RLn.swi R mono i0 i1 k (by omega)]
    · rw [if_neg (fun z => c (l.mp z)), if_neg c]
theorem RLn.swap (R : RLn n nn od p) {i j : Int} (i0 : 0 ≤ i) (i1 : i < n) (j0 : 0 ≤ j) (j1 : j < n) : RLn n nn (swap2 od i j) (swap2 p i j) := fun k k0 k1 => by
  unfold swap2
  by_cases a : k = j
  · subst a; rw [up_eq, up_eq]; exact R i i0 i1
  · rw [up_ne a, up_ne a]
    by_cases b : k = i
    · subst b; rw [up_eq, up_eq]; exact R j j0 j1
    · rw [up_ne b, up_ne b]; exact R k k0 k1
theorem RLn.rev : ∀ (f : Nat) (od p : Int → Int) (a b : Int), RLn n nn od p → 0 ≤ a → b < n → RLn n nn (rvf od f a b) (rvf p f a b)
  | 0, od, p, a, b, R, _, _ => R
  | f + 1, od, p, a, b, R, a0, b1 => by
    unfold rvf
    by_cases c : b ≤ a
    · rw [if_pos c, if_pos c]; exact R
    · rw [if_neg c, if_neg c]
      exact RLn.rev f _ _ _ _ (R.swap a0 (by omega) (by omega) b1) (by omega) (by omega)
theorem RLn.turn (R : RLn n nn od p) (mono : ∀ a b : Int, 0 ≤ a → a < b → b < n → nn a < nn b) (n1 : 1 ≤ n) : (tnf n od).1 = (tnf n p).1 ∧ RLn n nn (tnf n od).2 (tnf n p).2 := by
  have ep := R.piv mono (n - 1) (by omega)
  have pr := pv_rng p (n - 1)
  unfold tnf
  rw [ep]
  by_cases c : pv p (n - 1) < 0
  · rw [if_pos c, if_pos c]; exact ⟨rfl, R⟩
  · have es := R.swi mono (i := pv p (n - 1)) (by omega) (by omega) n (Nat.le_refl _)
    have sr := swj_rng p (p (pv p (n - 1))) n
    have s2 := sr.2 (by omega)
    rw [if_neg c, if_neg c, es]
    exact ⟨rfl, RLn.rev n _ _ _ _ (R.swap (by omega) (by omega) sr.1 s2) (by omega) (by omega)⟩
theorem toL_get {n : Nat} {f : Int → Int} {i : Int} (i0 : 0 ≤ i) (i1 : i < n) : fromL (toL n f) i = f i := by
  unfold fromL toL
  rw [List.getD_eq_getElem?_getD, List.getElem?_map, List.getElem?_range (by omega)]
  show f ((i.toNat : Nat) : Int) = f i
  rw [Int.toNat_of_nonneg i0]
theorem toL_len {n : Nat} {f : Int → Int} : (toL n f).length = n := by
  unfold toL
  rw [List.length_map, List.length_range]
end
section
variable {h h' : AH} {m : Nat} {v : Nat → Int} {se : Int64} {g : Nat → Int → Int} {gl : Nat → Int → Int64}
theorem rev_run : ∀ (f : Nat) (F : Nat) (h : AH) (g : Nat → Int → Int) (a b : Int), MO h m v se g gl → 0 ≤ a → b < 6 → -10 < b → a < 20 → b - a < f → f ≤ F → 0 < F → ∃ h', f9_turns_100 m F h (I a) (I b) = some (true, h') ∧ MO h' m v se (uf g 19 (rvf (g 19) f a b)) gl ∧ Fr m (m + 24) h h'
  | _, 0, _, _, _, _, _, _, _, _, _, _, _, hF => by omega
  | 0, F + 1, h, g, a, b, M, a0, b1, b0, a1, hf, _, _ => by
    have l : (I b ≤ I a) = (b ≤ a) := I_le (by omega) (by omega) (by omega) (by omega)
    refine ⟨h, ?_, ?_, Fr.refl _ _ _⟩
    · rw [f9_turns_100, if_pos (by rw [l]; omega)]
    · rw [show uf g 19 (rvf (g 19) 0 a b) = g from uf_same _ _]; exact M
  | f + 1, F + 1, h, g, a, b, M, a0, b1, b0, a1, hf, hF, _ => by
    have l : (I b ≤ I a) = (b ≤ a) := I_le (by omega) (by omega) (by omega) (by omega)
    unfold rvf
    rw [f9_turns_100]
    simp only [I_lit, I_neg]
    by_cases c : b ≤ a
    · rw [if_pos (by rw [l]; exact c), if_pos c]
      exact ⟨h, rfl, by rw [uf_same]; exact M, Fr.refl _ _ _⟩
    · obtain ⟨h1, e1, M1, F1⟩ := M.w19 (i := a) (g 19 b) a0 (by omega)
      obtain ⟨h2, e2, M2, F2⟩ := M1.w19 (i := b) (g 19 a) (by omega) b1
      rw [uf_eq, uf_uf] at M2
      obtain ⟨h3, e3, M3, F3⟩ := rev_run f F h2 _ (a + 1) (b - 1) M2 (by omega) (by omega) (by omega) (by omega) (by omega) (by omega) (by omega)
      rw [uf_eq, uf_uf] at M3
      refine ⟨h3, ?_, ?_, (F1.trans F2).trans F3⟩
      · rw [if_neg (by rw [l]; exact c), M.f31, Option.bind_some, M.r19 a0 (by omega), Option.bind_some, Option.bind_some, Option.bind_some, M.r19 (by omega) b1, Option.bind_some, e1, Option.bind_some, M1.f31, Option.bind_some, e2, Option.bind_some, Option.bind_some, Option.bind_some, I_add, I_add, show b + -1 = b - 1 by omega, e3]
      · rw [if_neg c]; exact M3
theorem MO.turns (M : MO h m v se g gl) {n : Nat} (n1 : 1 ≤ n) (n6 : n ≤ 6) (hr : ∀ i : Int, 0 ≤ i → i < n → 0 ≤ g 19 i ∧ g 19 i ≤ 100) : ∃ h', f9_turns h m (I (n : Int)) = some ((tnf n (g 19)).1, h') ∧ MO h' m v se (uf g 19 (tnf n (g 19)).2) gl ∧ Fr m (m + 24) h h' := by
  have fu := FU_big
  have r4 : ∀ (k f : Nat), k + 1 ≤ n → k < f → f9_turns_4 h m (I (n : Int)) f (I ((k : Int) - 1)) = if pv (g 19) k < 0 then some (false, h) else f9_turns_41 h m (I (n : Int)) (I (pv (g 19) k)) FU (I ((n : Int) - 1)) := by
    intro k
    induction k with
    | zero =>
      intro f h1 hf
      cases f with
      | zero => omega
      | succ f =>
        have l : (I (((0 : Nat) : Int) - 1) < I 0) = (((0 : Nat) : Int) - 1 < 0) := I_lt (by omega) (by omega) (by omega) (by omega)
        have l2 : (I 0 ≤ I (((0 : Nat) : Int) - 1)) = ((0 : Int) ≤ ((0 : Nat) : Int) - 1) := I_le (by omega) (by omega) (by omega) (by omega)
        rw [f9_turns_4]
        simp only [I_lit]
        rw [if_pos (by rw [l]; omega), if_neg (by rw [l2]; omega)]
        rfl
    | succ k ih =>
      intro f h1 hf
      cases f with
      | zero => omega
      | succ f =>
        have e : ((k + 1 : Nat) : Int) - 1 = k := by omega
        have l : (I (k : Int) < I 0) = ((k : Int) < 0) := I_lt (by omega) (by omega) (by omega) (by omega)
        have l2 : (I 0 ≤ I (k : Int)) = ((0 : Int) ≤ k) := I_le (by omega) (by omega) (by omega) (by omega)
        have q0 := hr k (by omega) (by omega)
        have q1 := hr (k + 1) (by omega) (by omega)
        have l3 : (I (g 19 k) ≤ I (g 19 ((k : Int) + 1))) = (g 19 k ≤ g 19 ((k : Int) + 1)) := I_le (by omega) (by omega) (by omega) (by omega)
        rw [f9_turns_4, e]
        simp only [I_lit, I_neg]
        rw [if_neg (by rw [l]; omega), M.f31, Option.bind_some, M.r19 (by omega) (by omega), Option.bind_some, Option.bind_some, I_add, M.r19 (by omega) (by omega), Option.bind_some]
        unfold pv
        by_cases c : g 19 ((k : Int) + 1) < g 19 k
        · rw [if_neg (by rw [l3]; omega), Option.bind_some, I_add, show (k : Int) + -1 = (k : Int) - 1 by omega, if_pos c]
          exact ih f (by omega) (by omega)
        · rw [if_pos (by rw [l3]; omega), if_pos (by rw [l2]; omega), Option.bind_some, I_sub, if_neg c, if_neg (by omega)]
  have r41 : ∀ {i : Int}, 0 ≤ i → i < n → ∀ (k f : Nat), k ≤ n → k < f → (∃ j : Nat, j < k ∧ g 19 i ≤ g 19 j) → f9_turns_41 h m (I (n : Int)) (I i) f (I ((k : Int) - 1)) = (sI 0 h (m + 19) (I i) (I (g 19 (swj (g 19) (g 19 i) k)))).bind fun h81 => (fR 9 31 h81 m).bind fun x83 => (sI 0 h81 x83 (I (swj (g 19) (g 19 i) k)) (I (g 19 i))).bind fun h89 => f9_turns_100 m FU h89 (I (i + 1)) (I ((n : Int) - 1)) := by
    intro i i0 i1 k
    induction k with
    | zero => intro f _ _ ⟨j, hj, _⟩; omega
    | succ k ih =>
      intro f h1 hf hj
      cases f with
      | zero => omega
      | succ f =>
        have e : ((k + 1 : Nat) : Int) - 1 = k := by omega
        have q0 := hr k (by omega) (by omega)
        have q1 := hr i i0 i1
        have l3 : (I (g 19 i) ≤ I (g 19 k)) = (g 19 i ≤ g 19 k) := I_le (by omega) (by omega) (by omega) (by omega)
        rw [f9_turns_41, e]
        simp only [I_lit, I_neg]
        rw [M.f31, Option.bind_some, M.r19 (by omega) (by omega), Option.bind_some, Option.bind_some, M.r19 i0 (by omega), Option.bind_some]
        unfold swj
        by_cases c : g 19 k < g 19 i
        · rw [if_neg (by rw [l3]; omega), Option.bind_some, I_add, show (k : Int) + -1 = (k : Int) - 1 by omega, if_pos c]
          refine ih f (by omega) (by omega) ?_
          obtain ⟨j, j1, j2⟩ := hj
          refine ⟨j, ?_, j2⟩
          by_cases y : j = k
          · subst y; omega
          · omega
        · rw [if_pos (by rw [l3]; omega), Option.bind_some, M.r19 i0 (by omega), Option.bind_some, Option.bind_some, Option.bind_some, M.r19 (by omega) (by omega), Option.bind_some, if_neg c]
          simp only [Option.bind_some, I_add, I_sub]
  have st := r4 (n - 1) FU (by omega) (by omega)
  rw [show (((n - 1 : Nat) : Int) - 1) = (n : Int) - 2 by omega] at st
  have pr := pv_rng (g 19) (n - 1)
  rw [f9_turns, M.o, Option.bind_some]
  simp only [I_lit]
  rw [Option.bind_some, I_sub, st]
  unfold tnf
  by_cases c : pv (g 19) (n - 1) < 0
  · rw [if_pos c, if_pos c]
    exact ⟨h, rfl, by rw [uf_same]; exact M, Fr.refl _ _ _⟩
  · rw [if_neg c, if_neg c]
    have i0 : 0 ≤ pv (g 19) (n - 1) := by omega
    have i1 : pv (g 19) (n - 1) + 1 < n := by omega
    have pp := pr.2.2 i0
    generalize pv (g 19) (n - 1) = i at *
    have s41 := r41 (i := i) i0 (by omega) n FU (Nat.le_refl _) (by omega) ⟨(i + 1).toNat, by omega, by rw [Int.toNat_of_nonneg (by omega)]; exact pp⟩
    have sr := swj_rng (g 19) (g 19 i) n
    have s2 := sr.2 (by omega)
    obtain ⟨h1, e1, M1, F1⟩ := M.w19 (i := i) (g 19 (swj (g 19) (g 19 i) n)) i0 (by omega)
    obtain ⟨h2, e2, M2, F2⟩ := M1.w19 (i := swj (g 19) (g 19 i) n) (g 19 i) sr.1 (by omega)
    rw [uf_eq, uf_uf] at M2
    obtain ⟨h3, e3, M3, F3⟩ := rev_run n FU h2 _ (i + 1) ((n : Int) - 1) M2 (by omega) (by omega) (by omega) (by omega) (by omega) (by omega) (by omega)
    rw [uf_eq, uf_uf] at M3
    refine ⟨h3, ?_, M3, (F1.trans F2).trans F3⟩
    rw [s41, e1, Option.bind_some, M1.f31, Option.bind_some, e2, Option.bind_some, e3]
end
theorem rvf_out {n : Nat} {i : Int} (hi : (n : Int) ≤ i) : ∀ (f : Nat) (od : Int → Int) (a b : Int), a < n → b < n → rvf od f a b i = od i
  | 0, _, _, _, _, _ => rfl
  | f + 1, od, a, b, ha, hb => by
    unfold rvf
    by_cases c : b ≤ a
    · rw [if_pos c]
    · rw [if_neg c, rvf_out hi f _ _ _ (by omega) (by omega)]
      unfold swap2
      rw [up_ne (by omega), up_ne (by omega)]
theorem tnf_out {n : Nat} {nn od p : Int → Int} {i : Int} (_R : RLn n nn od p) (n1 : 1 ≤ n) (i0 : 0 ≤ i) (hi : (n : Int) ≤ i) : (tnf n od).2 i = od i := by
  have pr := pv_rng od (n - 1)
  unfold tnf
  by_cases c : pv od (n - 1) < 0
  · rw [if_pos c]
  · have sr := (swj_rng od (od (pv od (n - 1))) n).2 (by omega)
    rw [if_neg c]
    show rvf (swap2 od (pv od (n - 1)) (swj od (od (pv od (n - 1))) n)) n (pv od (n - 1) + 1) (n - 1) i = od i
    rw [rvf_out hi n _ _ _ (by omega) (by omega)]
    unfold swap2
    rw [up_ne (by omega), up_ne (by omega)]
