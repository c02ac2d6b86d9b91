/-! WORDS: packed as numbers; the class's next token -/
def wc (p : Int) : Int := ([97, 112, 97, 114, 116, 32, 111, 119, 110, 32, 108, 97, 116, 101, 32, 119, 114, 111, 110, 103, 32, 115, 104, 97, 114, 101, 100, 32, 110, 111, 119, 104, 101, 114, 101, 32, 112, 97, 103, 101, 115, 32, 112, 114, 105, 99, 101, 32, 119, 101, 101, 107, 32, 118, 111, 108, 117, 109, 101, 115, 32, 121, 101, 115, 32, 116, 97, 107, 101, 115, 32, 99, 111, 105, 110, 115, 32, 112, 97, 99, 101, 32, 115, 108, 105, 112, 115, 32, 102, 114, 111, 109, 32, 111, 102, 32, 105, 102, 32, 111, 114, 32, 97, 110, 100, 32, 110, 111, 116, 32] : List Int).getD p.toNat 0
theorem chW_wc0 : ∀ q : Nat, q < 110 → chW (I (q : Int)) = some (I (wc (q : Int))) := by decide +kernel
theorem chW_wc {p : Int} (h0 : 0 ≤ p) (h1 : p < 110) : chW (I p) = some (I (wc p)) := by
  have := chW_wc0 p.toNat (by omega)
  rw [Int.toNat_of_nonneg h0] at this
  exact this
theorem wc_rng0 : ∀ q : Nat, q < 110 → 32 ≤ wc (q : Int) ∧ wc (q : Int) ≤ 122 := by decide +kernel
theorem wc_rng {p : Int} (h0 : 0 ≤ p) (h1 : p < 110) : 32 ≤ wc p ∧ wc p ≤ 122 := by
  have := wc_rng0 p.toNat (by omega)
  rw [Int.toNat_of_nonneg h0] at this
  exact this
def pkf (f : Int → Int) (s : Int) : Nat → Int
  | 0 => 0
  | k + 1 => 256 * pkf f s k + f (s + k)
theorem ipow10 {i j : Nat} (h : i ≤ j) : (10 : Int) ^ i ≤ 10 ^ j := by
  have a := Nat.pow_le_pow_right (show 0 < 10 by omega) h
  have e1 : ((10 ^ i : Nat) : Int) = 10 ^ i := by rw [Int.natCast_pow]; rfl
  have e2 : ((10 ^ j : Nat) : Int) = 10 ^ j := by rw [Int.natCast_pow]; rfl
  omega
theorem ipow256 {i j : Nat} (h : i ≤ j) : (256 : Int) ^ i ≤ 256 ^ j := by
  have a := Nat.pow_le_pow_right (show 0 < 256 by omega) h
  have e1 : ((256 ^ i : Nat) : Int) = 256 ^ i := by rw [Int.natCast_pow]; rfl
  have e2 : ((256 ^ j : Nat) : Int) = 256 ^ j := by rw [Int.natCast_pow]; rfl
  omega
theorem ite_some {c : Prop} [Decidable c] {a d : Int} {b : Option Int32} (e : b = some (I d)) : (if c then some (I a) else b) = some (I (if c then a else d)) := by
  by_cases z : c
  · rw [if_pos z, if_pos z]
  · rw [if_neg z, if_neg z, e]
theorem pkf_nn {f : Int → Int} {s : Int} : ∀ (L : Nat), (∀ i : Nat, i < L → 1 ≤ f (s + i) ∧ f (s + i) ≤ 255) → 0 ≤ pkf f s L ∧ (L ≠ 0 → 1 ≤ pkf f s L) ∧ pkf f s L < 256 ^ L
  | 0, _ => by simp [pkf]
  | L + 1, h => by
    obtain ⟨a, b, c⟩ := pkf_nn L (fun i hi => h i (by omega))
    have d := h L (by omega)
    unfold pkf
    rw [Int.pow_succ]
    refine ⟨by omega, fun _ => by omega, by omega⟩
theorem pkf_inj {f g : Int → Int} {s s' : Int} : ∀ (L L' : Nat), (∀ i : Nat, i < L → 1 ≤ f (s + i) ∧ f (s + i) ≤ 255) → (∀ i : Nat, i < L' → 1 ≤ g (s' + i) ∧ g (s' + i) ≤ 255) → pkf f s L = pkf g s' L' → L = L' ∧ ∀ i : Nat, i < L → f (s + i) = g (s' + i)
  | 0, 0, _, _, _ => ⟨rfl, fun i hi => by omega⟩
  | 0, L' + 1, _, h', e => by
    have := (pkf_nn (L' + 1) h').2.1 (by omega)
    rw [← e] at this
    simp [pkf] at this
  | L + 1, 0, h, _, e => by
    have := (pkf_nn (L + 1) h).2.1 (by omega)
    rw [e] at this
    simp [pkf] at this
  | L + 1, L' + 1, h, h', e => by
    unfold pkf at e
    have d := h L (by omega)
    have d' := h' L' (by omega)
    have q : pkf f s L = pkf g s' L' := by omega
    obtain ⟨a, b⟩ := pkf_inj L L' (fun i hi => h i (by omega)) (fun i hi => h' i (by omega)) q
    refine ⟨by omega, fun i hi => ?_⟩
    by_cases c : i = L
    · subst c; subst a; omega
    · exact b i (by omega)
theorem pkf_cong {f g : Int → Int} {s s' : Int} : ∀ (L : Nat), (∀ i : Nat, i < L → f (s + i) = g (s' + i)) → pkf f s L = pkf g s' L
  | 0, _ => rfl
  | L + 1, h => by
    unfold pkf
    rw [pkf_cong L (fun i hi => h i (by omega)), h L (by omega)]
/-- the word from s to e, packed; 0 where it is too long -/
def P8 (T : Int → Int) (s e : Int) : Int := if 1 ≤ e - s ∧ e - s < 8 then pkf T s (e - s).toNat else 0
def al (T : Int → Int) (s e p : Int) : Nat → Bool
  | 0 => true
  | q + 1 => al T s e p q && decide (s + q < e ∧ T (s + q) = wc (p + q))
theorem al_iff {T : Int → Int} {s e p : Int} : ∀ q : Nat, al T s e p q = true ↔ ∀ i : Nat, i < q → s + i < e ∧ T (s + i) = wc (p + i)
  | 0 => ⟨fun _ i hi => by omega, fun _ => rfl⟩
  | q + 1 => by
    unfold al
    rw [Bool.and_eq_true, al_iff q, decide_eq_true_eq]
    constructor
    · intro ⟨a, b⟩ i hi
      by_cases c : i = q
      · subst c; exact b
      · exact a i (by omega)
    · intro a
      exact ⟨fun i hi => a i (by omega), a q (by omega)⟩
theorem word_iff {T : Int → Int} {s e p : Int} {len : Nat} (se : s ≤ e) (hl : ∀ k, s ≤ k → k < e → 97 ≤ T k ∧ T k ≤ 122) (p0 : 0 ≤ p) (p1 : p + len < 110) (l0 : 1 ≤ len) (l1 : len < 8) (hw : ∀ q : Nat, q < len → 97 ≤ wc (p + q)) : (al T s e p len = true ∧ s + len = e) ↔ P8 T s e = pkf wc p len := by
  have hw' : ∀ q : Nat, q < len → 1 ≤ wc (p + q) ∧ wc (p + q) ≤ 255 := fun q hq => by
    have a := hw q hq
    have b := wc_rng (p := p + q) (by omega) (by omega)
    omega
  have hl' : ∀ q : Nat, q < (e - s).toNat → 1 ≤ T (s + q) ∧ T (s + q) ≤ 255 := fun q hq => by
    have a := hl (s + q) (by omega) (by omega)
    omega
  constructor
  · intro ⟨a, b⟩
    have n : (e - s).toNat = len := by omega
    unfold P8
    rw [if_pos (by omega), n]
    exact pkf_cong _ (fun i hi => ((al_iff len).mp a i hi).2)
  · intro a
    have pos := (pkf_nn len hw').2.1 (by omega)
    unfold P8 at a
    by_cases c : 1 ≤ e - s ∧ e - s < 8
    · rw [if_pos c] at a
      obtain ⟨x, y⟩ := pkf_inj _ _ hl' hw' a
      exact ⟨(al_iff len).mpr fun i hi => ⟨by omega, y i (by omega)⟩, by omega⟩
    · rw [if_neg c] at a
      omega
/-- runs -/
theorem skp_end {q : Int → Bool} {n : Int} : ∀ (f : Nat) (i : Int), i ≤ n → n - i < f → (∀ k, i ≤ k → k < skp q n f i → q k = true) ∧ ¬ (skp q n f i < n ∧ q (skp q n f i) = true)
  | 0, i, h, hf => by omega
  | f + 1, i, h, hf => by
    unfold skp
    by_cases c : i < n ∧ q i = true
    · rw [if_pos c]
      obtain ⟨a, b⟩ := skp_end (q := q) (n := n) f (i + 1) (by omega) (by omega)
      refine ⟨fun k k0 k1 => ?_, b⟩
      by_cases e : k = i
      · subst e; exact c.2
      · exact a k (by omega) k1
    · rw [if_neg c]
      exact ⟨fun k k0 k1 => by omega, c⟩
theorem skp_is {q : Int → Bool} {n e : Int} : ∀ (f : Nat) (i : Int), i ≤ e → e ≤ n → n - i < f → (∀ k, i ≤ k → k < e → q k = true) → ¬ (e < n ∧ q e = true) → skp q n f i = e
  | 0, i, _, _, hf, _, _ => by omega
  | f + 1, i, h0, h1, hf, a, b => by
    unfold skp
    by_cases c : i = e
    · subst c; rw [if_neg b]
    · rw [if_pos ⟨by omega, a i (by omega) (by omega)⟩]
      exact skp_is f (i + 1) (by omega) h1 (by omega) (fun k k0 k1 => a k (by omega) k1) b
def bl (T : Int → Int) (n i : Int) : Int := skp (fun k => decide (T k = 32)) n FU i
def lend (T : Int → Int) (n i : Int) : Int := skp (fun k => decide (97 ≤ T k ∧ T k ≤ 122)) n FU i
def dend (T : Int → Int) (n i : Int) : Int := skp (fun k => decide (48 ≤ T k ∧ T k ≤ 57)) n FU i
def byt (T : Int → Int) (n i : Int) : Int := if i < n then T i else -1
abbrev isd (T : Int → Int) (n s : Int) : Prop := s < n ∧ 48 ≤ T s ∧ T s ≤ 57
abbrev isl (T : Int → Int) (n s : Int) : Prop := s < n ∧ 97 ≤ T s ∧ T s ≤ 122
theorem bl_rng {T : Int → Int} {n i : Int} (h : i ≤ n) : i ≤ bl T n i ∧ bl T n i ≤ n := skp_rng _ _ _ _ h
theorem lend_rng {T : Int → Int} {n i : Int} (h : i ≤ n) : i ≤ lend T n i ∧ lend T n i ≤ n := skp_rng _ _ _ _ h
theorem dend_rng {T : Int → Int} {n i : Int} (h : i ≤ n) : i ≤ dend T n i ∧ dend T n i ≤ n := skp_rng _ _ _ _ h
theorem bl_end {T : Int → Int} {n i : Int} (i0 : 0 ≤ i) (h : i ≤ n) (hn : n ≤ 400) : (∀ k, i ≤ k → k < bl T n i → T k = 32) ∧ ¬ (bl T n i < n ∧ T (bl T n i) = 32) := by
  have fu := FU_big
  obtain ⟨a, b⟩ := skp_end (q := fun k => decide (T k = 32)) FU i h (by omega)
  exact ⟨fun k k0 k1 => of_decide_eq_true (a k k0 k1), fun z => b ⟨z.1, decide_eq_true z.2⟩⟩
theorem lend_end {T : Int → Int} {n i : Int} (i0 : 0 ≤ i) (h : i ≤ n) (hn : n ≤ 400) : (∀ k, i ≤ k → k < lend T n i → 97 ≤ T k ∧ T k ≤ 122) ∧ ¬ isl T n (lend T n i) := by
  have fu := FU_big
  obtain ⟨a, b⟩ := skp_end (q := fun k => decide (97 ≤ T k ∧ T k ≤ 122)) FU i h (by omega)
  exact ⟨fun k k0 k1 => of_decide_eq_true (a k k0 k1), fun z => b ⟨z.1, decide_eq_true z.2⟩⟩
theorem dend_end {T : Int → Int} {n i : Int} (i0 : 0 ≤ i) (h : i ≤ n) (hn : n ≤ 400) : (∀ k, i ≤ k → k < dend T n i → 48 ≤ T k ∧ T k ≤ 57) ∧ ¬ isd T n (dend T n i) := by
  have fu := FU_big
  obtain ⟨a, b⟩ := skp_end (q := fun k => decide (48 ≤ T k ∧ T k ≤ 57)) FU i h (by omega)
  exact ⟨fun k k0 k1 => of_decide_eq_true (a k k0 k1), fun z => b ⟨z.1, decide_eq_true z.2⟩⟩
theorem bl_bl {T : Int → Int} {n i : Int} (i0 : 0 ≤ i) (h : i ≤ n) (hn : n ≤ 400) : bl T n (bl T n i) = bl T n i := by
  have fu := FU_big
  have r := bl_rng (T := T) h
  exact skp_is _ _ (Int.le_refl _) r.2 (by omega) (fun k k0 k1 => by omega) (fun z => (bl_end i0 h hn).2 ⟨z.1, of_decide_eq_true z.2⟩)
theorem lend_gt {T : Int → Int} {n i : Int} (i0 : 0 ≤ i) (h : isl T n i) (hn : n ≤ 400) : i < lend T n i := by
  have r := lend_rng (T := T) (i := i) (n := n) (by have := h.1; omega)
  have e := (lend_end (T := T) i0 (by have := h.1; omega) hn).2
  by_cases c : i = lend T n i
  · rw [← c] at e; exact absurd h e
  · omega
theorem dend_gt {T : Int → Int} {n i : Int} (i0 : 0 ≤ i) (h : isd T n i) (hn : n ≤ 400) : i < dend T n i := by
  have r := dend_rng (T := T) (i := i) (n := n) (by have := h.1; omega)
  have e := (dend_end (T := T) i0 (by have := h.1; omega) hn).2
  by_cases c : i = dend T n i
  · rw [← c] at e; exact absurd h e
  · omega
def nvf (T : Int → Int) (s : Int) : Nat → Int
  | 0 => 0
  | q + 1 => if q < 5 then nvf T s q * 10 + T (s + q) - 48 else nvf T s q
theorem nvf_rng {T : Int → Int} {s : Int} : ∀ q : Nat, (∀ i : Nat, i < q → 48 ≤ T (s + i) ∧ T (s + i) ≤ 57) → 0 ≤ nvf T s q ∧ nvf T s q < 10 ^ (min q 5)
  | 0, _ => by simp [nvf]
  | q + 1, h => by
    obtain ⟨a, b⟩ := nvf_rng q (fun i hi => h i (by omega))
    have d := h q (by omega)
    unfold nvf
    by_cases c : q < 5
    · rw [if_pos c, show min (q + 1) 5 = q + 1 by omega, Int.pow_succ]
      rw [show min q 5 = q by omega] at b
      omega
    · rw [if_neg c, show min (q + 1) 5 = 5 by omega]
      rw [show min q 5 = 5 by omega] at b
      exact ⟨a, b⟩
theorem nvf_lt {T : Int → Int} {s : Int} (q : Nat) (h : ∀ i : Nat, i < q → 48 ≤ T (s + i) ∧ T (s + i) ≤ 57) : 0 ≤ nvf T s q ∧ nvf T s q < 100000 := by
  obtain ⟨a, b⟩ := nvf_rng q h
  have c : (10 : Int) ^ (min q 5) ≤ 10 ^ 5 := ipow10 (by omega)
  omega
theorem dgs_is {T : Int → Int} {n s e : Int} (en : e ≤ n) (hd : ∀ k, s ≤ k → k < e → 48 ≤ T k ∧ T k ≤ 57) (he : ¬ isd T n e) : ∀ (d q f : Nat), s + q + d = e → d < f → dgs T n f (s + q) (nvf T s q) q = (e, nvf T s (e - s).toNat, e - s)
  | _, _, 0, _, hf => by omega
  | 0, q, f + 1, h, hf => by
    have h' : s + q = e := by omega
    unfold dgs
    rw [h', if_neg he, show (e - s).toNat = q by omega, show (q : Int) = e - s by omega]
  | d + 1, q, f + 1, h, hf => by
    have x := hd (s + q) (by omega) (by omega)
    unfold dgs
    rw [if_pos ⟨by omega, x⟩]
    have ih := dgs_is en hd he d (q + 1) f (by omega) (by omega)
    rw [show (s + ((q + 1 : Nat) : Int)) = s + q + 1 by omega, show (((q + 1 : Nat) : Int)) = (q : Int) + 1 by omega] at ih
    rw [← ih]
    congr 1
    show _ = if q < 5 then _ else _
    by_cases c : q < 5
    · rw [if_neg (by omega), if_pos c]
    · rw [if_pos (by omega), if_neg c]
def wkn (P : Int) : Int := if P = 418497262196 then 0 else if P = 7305070 then 1 else if P = 1818326117 then 2 else if P = 513021013607 then 3 else if P = 126892148680036 then 4 else if P = 31084806081442405 then 5 else if P = 482670503283 then 6 else if P = 482955846501 then 7 else if P = 2003133803 then 8 else if P = 33336558869112179 then 9 else if P = 7955827 then 10 else if P = 499850634611 then 11 else if P = 427070942835 then 12 else if P = 1885430629 then 13 else if P = 495740088435 then 14 else if P = 1718775661 then 15 else if P = 28518 then 16 else if P = 26982 then 17 else if P = 28530 then 18 else if P = 6385252 then 19 else if P = 7237492 then 20 else 34
def wkm (P : Int) : Int := if P = 418497262196 then 0 else if P = 7305070 then 1 else if P = 1818326117 then 2 else if P = 513021013607 then 3 else if P = 126892148680036 then 4 else if P = 31084806081442405 then 5 else if P = 482670503283 then 6 else if P = 482955846501 then 7 else if P = 2003133803 then 8 else if P = 33336558869112179 then 9 else if P = 7955827 then 10 else if P = 499850634611 then 11 else if P = 427070942835 then 12 else if P = 1885430629 then 13 else if P = 495740088435 then 14 else if P = 1718775661 then 15 else if P = 28518 then 16 else if P = 26982 then 17 else if P = 28530 then 18 else if P = 6385252 then 19 else if P = 7237492 then 20 else -1
theorem W_apart : pkf wc 0 5 = 418497262196 := by decide +kernel
theorem W_own : pkf wc 6 3 = 7305070 := by decide +kernel
theorem W_late : pkf wc 10 4 = 1818326117 := by decide +kernel
theorem W_wrong : pkf wc 15 5 = 513021013607 := by decide +kernel
theorem W_shared : pkf wc 21 6 = 126892148680036 := by decide +kernel
theorem W_nowhere : pkf wc 28 7 = 31084806081442405 := by decide +kernel
theorem W_pages : pkf wc 36 5 = 482670503283 := by decide +kernel
theorem W_price : pkf wc 42 5 = 482955846501 := by decide +kernel
theorem W_week : pkf wc 48 4 = 2003133803 := by decide +kernel
theorem W_volumes : pkf wc 53 7 = 33336558869112179 := by decide +kernel
theorem W_yes : pkf wc 61 3 = 7955827 := by decide +kernel
theorem W_takes : pkf wc 65 5 = 499850634611 := by decide +kernel
theorem W_coins : pkf wc 71 5 = 427070942835 := by decide +kernel
theorem W_pace : pkf wc 77 4 = 1885430629 := by decide +kernel
theorem W_slips : pkf wc 82 5 = 495740088435 := by decide +kernel
theorem W_from : pkf wc 88 4 = 1718775661 := by decide +kernel
theorem W_of : pkf wc 93 2 = 28518 := by decide +kernel
theorem W_if : pkf wc 96 2 = 26982 := by decide +kernel
theorem W_or : pkf wc 99 2 = 28530 := by decide +kernel
theorem W_and : pkf wc 102 3 = 6385252 := by decide +kernel
theorem W_not : pkf wc 106 3 = 7237492 := by decide +kernel
theorem wkn_rng (P : Int) : (0 ≤ wkn P ∧ wkn P ≤ 20) ∨ wkn P = 34 := by
  unfold wkn
  repeat' split
  all_goals omega
theorem wkm_wkn (P : Int) : -1 ≤ wkm P ∧ wkm P ≤ 20 ∧ wkn P = (if wkm P = -1 then 34 else wkm P) := by
  unfold wkm wkn
  repeat' split
  all_goals omega
def wkv (k : Int) : Int := if k = 0 then 418497262196 else if k = 1 then 7305070 else if k = 2 then 1818326117 else if k = 3 then 513021013607 else if k = 4 then 126892148680036 else if k = 5 then 31084806081442405 else if k = 6 then 482670503283 else if k = 7 then 482955846501 else if k = 8 then 2003133803 else if k = 9 then 33336558869112179 else if k = 10 then 7955827 else if k = 11 then 499850634611 else if k = 12 then 427070942835 else if k = 13 then 1885430629 else if k = 14 then 495740088435 else if k = 15 then 1718775661 else if k = 16 then 28518 else if k = 17 then 26982 else if k = 18 then 28530 else if k = 19 then 6385252 else if k = 20 then 7237492 else 0
theorem wkn_inv (P : Int) (h : wkn P ≤ 20) : P = wkv (wkn P) := by
  unfold wkn at h ⊢
  by_cases e0 : P = 418497262196
  · rw [if_pos e0]; exact e0
  rw [if_neg e0] at h ⊢
  by_cases e1 : P = 7305070
  · rw [if_pos e1]; exact e1
  rw [if_neg e1] at h ⊢
  by_cases e2 : P = 1818326117
  · rw [if_pos e2]; exact e2
  rw [if_neg e2] at h ⊢
  by_cases e3 : P = 513021013607
  · rw [if_pos e3]; exact e3
  rw [if_neg e3] at h ⊢
  by_cases e4 : P = 126892148680036
  · rw [if_pos e4]; exact e4
  rw [if_neg e4] at h ⊢
  by_cases e5 : P = 31084806081442405
  · rw [if_pos e5]; exact e5
  rw [if_neg e5] at h ⊢
  by_cases e6 : P = 482670503283
  · rw [if_pos e6]; exact e6
  rw [if_neg e6] at h ⊢
  by_cases e7 : P = 482955846501
  · rw [if_pos e7]; exact e7
  rw [if_neg e7] at h ⊢
  by_cases e8 : P = 2003133803
  · rw [if_pos e8]; exact e8
  rw [if_neg e8] at h ⊢
  by_cases e9 : P = 33336558869112179
  · rw [if_pos e9]; exact e9
  rw [if_neg e9] at h ⊢
  by_cases e10 : P = 7955827
  · rw [if_pos e10]; exact e10
  rw [if_neg e10] at h ⊢
  by_cases e11 : P = 499850634611
  · rw [if_pos e11]; exact e11
  rw [if_neg e11] at h ⊢
  by_cases e12 : P = 427070942835
  · rw [if_pos e12]; exact e12
  rw [if_neg e12] at h ⊢
  by_cases e13 : P = 1885430629
  · rw [if_pos e13]; exact e13
  rw [if_neg e13] at h ⊢
  by_cases e14 : P = 495740088435
  · rw [if_pos e14]; exact e14
  rw [if_neg e14] at h ⊢
  by_cases e15 : P = 1718775661
  · rw [if_pos e15]; exact e15
  rw [if_neg e15] at h ⊢
  by_cases e16 : P = 28518
  · rw [if_pos e16]; exact e16
  rw [if_neg e16] at h ⊢
  by_cases e17 : P = 26982
  · rw [if_pos e17]; exact e17
  rw [if_neg e17] at h ⊢
  by_cases e18 : P = 28530
  · rw [if_pos e18]; exact e18
  rw [if_neg e18] at h ⊢
  by_cases e19 : P = 6385252
  · rw [if_pos e19]; exact e19
  rw [if_neg e19] at h ⊢
  by_cases e20 : P = 7237492
  · rw [if_pos e20]; exact e20
  rw [if_neg e20] at h ⊢
  omega
theorem wkn_apart (P : Int) : (P = 418497262196) = (wkn P = 0) := by
  apply propext
  constructor
  · intro h; subst h; decide
  · intro h
    have a := wkn_inv P (by omega)
    rw [h] at a
    exact a
theorem wkn_own (P : Int) : (P = 7305070) = (wkn P = 1) := by
  apply propext
  constructor
  · intro h; subst h; decide
  · intro h
    have a := wkn_inv P (by omega)
    rw [h] at a
    exact a
theorem wkn_late (P : Int) : (P = 1818326117) = (wkn P = 2) := by
  apply propext
  constructor
  · intro h; subst h; decide
  · intro h
    have a := wkn_inv P (by omega)
    rw [h] at a
    exact a
theorem wkn_wrong (P : Int) : (P = 513021013607) = (wkn P = 3) := by
  apply propext
  constructor
  · intro h; subst h; decide
  · intro h
    have a := wkn_inv P (by omega)
    rw [h] at a
    exact a
theorem wkn_shared (P : Int) : (P = 126892148680036) = (wkn P = 4) := by
  apply propext
  constructor
  · intro h; subst h; decide
  · intro h
    have a := wkn_inv P (by omega)
    rw [h] at a
    exact a
theorem wkn_nowhere (P : Int) : (P = 31084806081442405) = (wkn P = 5) := by
  apply propext
  constructor
  · intro h; subst h; decide
  · intro h
    have a := wkn_inv P (by omega)
    rw [h] at a
    exact a
theorem wkn_pages (P : Int) : (P = 482670503283) = (wkn P = 6) := by
  apply propext
  constructor
  · intro h; subst h; decide
  · intro h
    have a := wkn_inv P (by omega)
    rw [h] at a
    exact a
theorem wkn_price (P : Int) : (P = 482955846501) = (wkn P = 7) := by
  apply propext
  constructor
  · intro h; subst h; decide
  · intro h
    have a := wkn_inv P (by omega)
    rw [h] at a
    exact a
theorem wkn_week (P : Int) : (P = 2003133803) = (wkn P = 8) := by
  apply propext
  constructor
  · intro h; subst h; decide
  · intro h
    have a := wkn_inv P (by omega)
    rw [h] at a
    exact a
theorem wkn_volumes (P : Int) : (P = 33336558869112179) = (wkn P = 9) := by
  apply propext
  constructor
  · intro h; subst h; decide
  · intro h
    have a := wkn_inv P (by omega)
    rw [h] at a
    exact a
theorem wkn_yes (P : Int) : (P = 7955827) = (wkn P = 10) := by
  apply propext
  constructor
  · intro h; subst h; decide
  · intro h
    have a := wkn_inv P (by omega)
    rw [h] at a
    exact a
theorem wkn_takes (P : Int) : (P = 499850634611) = (wkn P = 11) := by
  apply propext
  constructor
  · intro h; subst h; decide
  · intro h
    have a := wkn_inv P (by omega)
    rw [h] at a
    exact a
theorem wkn_coins (P : Int) : (P = 427070942835) = (wkn P = 12) := by
  apply propext
  constructor
  · intro h; subst h; decide
  · intro h
    have a := wkn_inv P (by omega)
    rw [h] at a
    exact a
theorem wkn_pace (P : Int) : (P = 1885430629) = (wkn P = 13) := by
  apply propext
  constructor
  · intro h; subst h; decide
  · intro h
    have a := wkn_inv P (by omega)
    rw [h] at a
    exact a
theorem wkn_slips (P : Int) : (P = 495740088435) = (wkn P = 14) := by
  apply propext
  constructor
  · intro h; subst h; decide
  · intro h
    have a := wkn_inv P (by omega)
    rw [h] at a
    exact a
theorem wkn_from (P : Int) : (P = 1718775661) = (wkn P = 15) := by
  apply propext
  constructor
  · intro h; subst h; decide
  · intro h
    have a := wkn_inv P (by omega)
    rw [h] at a
    exact a
theorem wkn_of (P : Int) : (P = 28518) = (wkn P = 16) := by
  apply propext
  constructor
  · intro h; subst h; decide
  · intro h
    have a := wkn_inv P (by omega)
    rw [h] at a
    exact a
theorem wkn_if (P : Int) : (P = 26982) = (wkn P = 17) := by
  apply propext
  constructor
  · intro h; subst h; decide
  · intro h
    have a := wkn_inv P (by omega)
    rw [h] at a
    exact a
theorem wkn_or (P : Int) : (P = 28530) = (wkn P = 18) := by
  apply propext
  constructor
  · intro h; subst h; decide
  · intro h
    have a := wkn_inv P (by omega)
    rw [h] at a
    exact a
theorem wkn_and (P : Int) : (P = 6385252) = (wkn P = 19) := by
  apply propext
  constructor
  · intro h; subst h; decide
  · intro h
    have a := wkn_inv P (by omega)
    rw [h] at a
    exact a
theorem wkn_not (P : Int) : (P = 7237492) = (wkn P = 20) := by
  apply propext
  constructor
  · intro h; subst h; decide
  · intro h
    have a := wkn_inv P (by omega)
    rw [h] at a
    exact a
section
variable {h h' : AH} {a : Nat} {t : Nat → Int} {T : Int → Int}
theorem TP.wordCh (P : TP h a t T) (a2 : t 1 ≤ 400) (B : ∀ i, 0 ≤ i → i < t 1 → 0 ≤ T i ∧ T i ≤ 255) {s e p k : Int} (s0 : 0 ≤ s) (E0 : 0 ≤ e) (e1 : e ≤ t 1) (p0 : 0 ≤ p) (q f : Nat) (p1 : p + q < 110) (hw : 97 ≤ wc (p + q)) (sq : s + q ≤ 1000) : f6_wordNumber_11 h a (I s) (I e) (f + 1) (I k) (I (s + q)) (al T s e p q) (I (p + q)) = f6_wordNumber_11 h a (I s) (I e) f (I k) (I (s + ((q + 1 : Nat) : Int))) (al T s e p (q + 1)) (I (p + ((q + 1 : Nat) : Int))) := by
  have r := wc_rng (p := p + q) (by omega) p1
  have l1 : (I 110 ≤ I (p + q)) = (110 ≤ p + q) := I_le (by omega) (by omega) (by omega) (by omega)
  have l2 : (I (wc (p + q)) = I 32) = (wc (p + q) = 32) := I_eq (by omega) (by omega) (by omega) (by omega)
  have c1 : s + ((q + 1 : Nat) : Int) = s + q + 1 := by omega
  have c2 : p + ((q + 1 : Nat) : Int) = p + q + 1 := by omega
  rw [f6_wordNumber_11]
  simp only [I_lit, I_neg]
  rw [if_neg (by rw [l1]; omega), chW_wc (by omega) p1, Option.bind_some, if_neg (by rw [l2]; omega), c1, c2, show al T s e p (q + 1) = (al T s e p q && decide (s + q < e ∧ T (s + q) = wc (p + q))) from rfl]
  by_cases c : al T s e p q = true
  · rw [if_pos c, c]
    by_cases d : s + q < e
    · have l3 : (I e ≤ I (s + q)) = (e ≤ s + q) := I_le (by omega) (by omega) (by omega) (by omega)
      have b := B (s + q) (by omega) (by omega)
      have l4 : (I (T (s + q)) = I (wc (p + q))) = (T (s + q) = wc (p + q)) := I_eq (by omega) (by omega) (by omega) (by omega)
      rw [if_neg (by rw [l3]; omega), P.byteAt (by omega) (by omega) a2, Option.bind_some]
      by_cases x : T (s + q) = wc (p + q)
      · rw [if_pos (l4 ▸ x), decide_eq_true ⟨d, x⟩, Option.bind_some, Option.bind_some, I_add, I_add]
        rfl
      · rw [if_neg (fun z => x (l4 ▸ z)), decide_eq_false (fun z => x z.2), Option.bind_some, Option.bind_some, I_add, I_add]
        rfl
    · have l3 : (I e ≤ I (s + q)) = (e ≤ s + q) := I_le (by omega) (by omega) (by omega) (by omega)
      rw [if_pos (by rw [l3]; omega), decide_eq_false (fun z => d z.1), Option.bind_some, Option.bind_some, I_add, I_add]
      rfl
  · have c' : al T s e p q = false := by cases z : al T s e p q; rfl; exact absurd z c
    rw [if_neg c, c', Option.bind_some, Option.bind_some, I_add, I_add]
    rfl
theorem TP.wordRun (P : TP h a t T) (a2 : t 1 ≤ 400) (B : ∀ i, 0 ≤ i → i < t 1 → 0 ≤ T i ∧ T i ≤ 255) {s e p k : Int} (s0 : 0 ≤ s) (E0 : 0 ≤ e) (e1 : e ≤ t 1) (s1 : s ≤ 400) (p0 : 0 ≤ p) : ∀ (len f : Nat), p + len < 110 → (∀ q : Nat, q < len → 97 ≤ wc (p + q)) → f6_wordNumber_11 h a (I s) (I e) (f + len) (I k) (I s) true (I p) = f6_wordNumber_11 h a (I s) (I e) f (I k) (I (s + len)) (al T s e p len) (I (p + len))
  | 0, f, _, _ => by simp [al]
  | len + 1, f, h1, hw => by
    rw [← Nat.add_assoc, Nat.add_right_comm, TP.wordRun P a2 B s0 E0 e1 s1 p0 len (f + 1) (by omega) (fun q hq => hw q (by omega)), P.wordCh a2 B s0 E0 e1 p0 len f (by omega) (hw len (by omega)) (by omega)]
theorem TP.word1 (P : TP h a t T) (a2 : t 1 ≤ 400) (B : ∀ i, 0 ≤ i → i < t 1 → 0 ≤ T i ∧ T i ≤ 255) {s e p k : Int} (s0 : 0 ≤ s) (se : s ≤ e) (e1 : e ≤ t 1) (hl : ∀ k, s ≤ k → k < e → 97 ≤ T k ∧ T k ≤ 122) (p0 : 0 ≤ p) (len f F : Nat) (p1 : p + len < 110) (l0 : 1 ≤ len) (l1 : len < 8) (hw : ∀ q : Nat, q < len → 97 ≤ wc (p + q)) (hb : wc (p + len) = 32) {W : Int} (eW : pkf wc p len = W) (eF : F = f + 1 + len) : f6_wordNumber_11 h a (I s) (I e) F (I k) (I s) true (I p) = if P8 T s e = W then some (I k) else f6_wordNumber_11 h a (I s) (I e) f (I (k + 1)) (I s) true (I (p + len + 1)) := by
  subst eF
  have l2 : (I 110 ≤ I (p + len)) = (110 ≤ p + len) := I_le (by omega) (by omega) (by omega) (by omega)
  have l3 : (I (s + len) = I e) = (s + len = e) := I_eq (by omega) (by omega) (by omega) (by omega)
  have wi := word_iff se hl p0 p1 l0 l1 hw
  rw [P.wordRun a2 B s0 (by omega) e1 (by omega) p0 len (f + 1) p1 hw, f6_wordNumber_11]
  simp only [I_lit, I_neg]
  rw [if_neg (by rw [l2]; omega), chW_wc (by omega) p1, Option.bind_some, hb, if_pos rfl]
  by_cases c : al T s e p len = true
  · rw [if_pos c]
    by_cases d : s + len = e
    · rw [if_pos (l3 ▸ d), if_pos (eW ▸ wi.mp ⟨c, d⟩)]
    · rw [if_neg (fun z => d (l3 ▸ z)), if_neg (fun z => d (wi.mpr (eW ▸ z)).2), Option.bind_some, Option.bind_some, I_add, I_add]
  · rw [if_neg c, if_neg (fun z => c (wi.mpr (eW ▸ z)).1), Option.bind_some, Option.bind_some, I_add, I_add]
theorem TP.wordNumber (P : TP h a t T) (a2 : t 1 ≤ 400) (B : ∀ i, 0 ≤ i → i < t 1 → 0 ≤ T i ∧ T i ≤ 255) {s e : Int} (s0 : 0 ≤ s) (se : s ≤ e) (e1 : e ≤ t 1) (hl : ∀ k, s ≤ k → k < e → 97 ≤ T k ∧ T k ≤ 122) : f6_wordNumber h a (I s) (I e) = some (I (wkm (P8 T s e))) := by
  have fu := FU_big
  obtain ⟨f, hf⟩ : ∃ f, FU = f + 111 := ⟨FU - 111, by omega⟩
  rw [f6_wordNumber, P.o, Option.bind_some, hf]
  simp only [I_lit]
  rw [P.word1 a2 B s0 se e1 hl (p := 0) (k := 0) (by omega) 5 (f + 105) (f + 111) (by omega) (by omega) (by omega) (by decide +kernel) (by decide +kernel) W_apart (by omega), show ((0 : Int) + 1) = 1 from rfl, show ((0 : Int) + (5 : Nat) + 1) = 6 from rfl]
  rw [P.word1 a2 B s0 se e1 hl (p := 6) (k := 1) (by omega) 3 (f + 101) (f + 105) (by omega) (by omega) (by omega) (by decide +kernel) (by decide +kernel) W_own (by omega), show ((1 : Int) + 1) = 2 from rfl, show ((6 : Int) + (3 : Nat) + 1) = 10 from rfl]
  rw [P.word1 a2 B s0 se e1 hl (p := 10) (k := 2) (by omega) 4 (f + 96) (f + 101) (by omega) (by omega) (by omega) (by decide +kernel) (by decide +kernel) W_late (by omega), show ((2 : Int) + 1) = 3 from rfl, show ((10 : Int) + (4 : Nat) + 1) = 15 from rfl]
  rw [P.word1 a2 B s0 se e1 hl (p := 15) (k := 3) (by omega) 5 (f + 90) (f + 96) (by omega) (by omega) (by omega) (by decide +kernel) (by decide +kernel) W_wrong (by omega), show ((3 : Int) + 1) = 4 from rfl, show ((15 : Int) + (5 : Nat) + 1) = 21 from rfl]
  rw [P.word1 a2 B s0 se e1 hl (p := 21) (k := 4) (by omega) 6 (f + 83) (f + 90) (by omega) (by omega) (by omega) (by decide +kernel) (by decide +kernel) W_shared (by omega), show ((4 : Int) + 1) = 5 from rfl, show ((21 : Int) + (6 : Nat) + 1) = 28 from rfl]
  rw [P.word1 a2 B s0 se e1 hl (p := 28) (k := 5) (by omega) 7 (f + 75) (f + 83) (by omega) (by omega) (by omega) (by decide +kernel) (by decide +kernel) W_nowhere (by omega), show ((5 : Int) + 1) = 6 from rfl, show ((28 : Int) + (7 : Nat) + 1) = 36 from rfl]
  rw [P.word1 a2 B s0 se e1 hl (p := 36) (k := 6) (by omega) 5 (f + 69) (f + 75) (by omega) (by omega) (by omega) (by decide +kernel) (by decide +kernel) W_pages (by omega), show ((6 : Int) + 1) = 7 from rfl, show ((36 : Int) + (5 : Nat) + 1) = 42 from rfl]
  rw [P.word1 a2 B s0 se e1 hl (p := 42) (k := 7) (by omega) 5 (f + 63) (f + 69) (by omega) (by omega) (by omega) (by decide +kernel) (by decide +kernel) W_price (by omega), show ((7 : Int) + 1) = 8 from rfl, show ((42 : Int) + (5 : Nat) + 1) = 48 from rfl]
  rw [P.word1 a2 B s0 se e1 hl (p := 48) (k := 8) (by omega) 4 (f + 58) (f + 63) (by omega) (by omega) (by omega) (by decide +kernel) (by decide +kernel) W_week (by omega), show ((8 : Int) + 1) = 9 from rfl, show ((48 : Int) + (4 : Nat) + 1) = 53 from rfl]
  rw [P.word1 a2 B s0 se e1 hl (p := 53) (k := 9) (by omega) 7 (f + 50) (f + 58) (by omega) (by omega) (by omega) (by decide +kernel) (by decide +kernel) W_volumes (by omega), show ((9 : Int) + 1) = 10 from rfl, show ((53 : Int) + (7 : Nat) + 1) = 61 from rfl]
  rw [P.word1 a2 B s0 se e1 hl (p := 61) (k := 10) (by omega) 3 (f + 46) (f + 50) (by omega) (by omega) (by omega) (by decide +kernel) (by decide +kernel) W_yes (by omega), show ((10 : Int) + 1) = 11 from rfl, show ((61 : Int) + (3 : Nat) + 1) = 65 from rfl]
  rw [P.word1 a2 B s0 se e1 hl (p := 65) (k := 11) (by omega) 5 (f + 40) (f + 46) (by omega) (by omega) (by omega) (by decide +kernel) (by decide +kernel) W_takes (by omega), show ((11 : Int) + 1) = 12 from rfl, show ((65 : Int) + (5 : Nat) + 1) = 71 from rfl]
  rw [P.word1 a2 B s0 se e1 hl (p := 71) (k := 12) (by omega) 5 (f + 34) (f + 40) (by omega) (by omega) (by omega) (by decide +kernel) (by decide +kernel) W_coins (by omega), show ((12 : Int) + 1) = 13 from rfl, show ((71 : Int) + (5 : Nat) + 1) = 77 from rfl]
  rw [P.word1 a2 B s0 se e1 hl (p := 77) (k := 13) (by omega) 4 (f + 29) (f + 34) (by omega) (by omega) (by omega) (by decide +kernel) (by decide +kernel) W_pace (by omega), show ((13 : Int) + 1) = 14 from rfl, show ((77 : Int) + (4 : Nat) + 1) = 82 from rfl]
  rw [P.word1 a2 B s0 se e1 hl (p := 82) (k := 14) (by omega) 5 (f + 23) (f + 29) (by omega) (by omega) (by omega) (by decide +kernel) (by decide +kernel) W_slips (by omega), show ((14 : Int) + 1) = 15 from rfl, show ((82 : Int) + (5 : Nat) + 1) = 88 from rfl]
  rw [P.word1 a2 B s0 se e1 hl (p := 88) (k := 15) (by omega) 4 (f + 18) (f + 23) (by omega) (by omega) (by omega) (by decide +kernel) (by decide +kernel) W_from (by omega), show ((15 : Int) + 1) = 16 from rfl, show ((88 : Int) + (4 : Nat) + 1) = 93 from rfl]
  rw [P.word1 a2 B s0 se e1 hl (p := 93) (k := 16) (by omega) 2 (f + 15) (f + 18) (by omega) (by omega) (by omega) (by decide +kernel) (by decide +kernel) W_of (by omega), show ((16 : Int) + 1) = 17 from rfl, show ((93 : Int) + (2 : Nat) + 1) = 96 from rfl]
  rw [P.word1 a2 B s0 se e1 hl (p := 96) (k := 17) (by omega) 2 (f + 12) (f + 15) (by omega) (by omega) (by omega) (by decide +kernel) (by decide +kernel) W_if (by omega), show ((17 : Int) + 1) = 18 from rfl, show ((96 : Int) + (2 : Nat) + 1) = 99 from rfl]
  rw [P.word1 a2 B s0 se e1 hl (p := 99) (k := 18) (by omega) 2 (f + 9) (f + 12) (by omega) (by omega) (by omega) (by decide +kernel) (by decide +kernel) W_or (by omega), show ((18 : Int) + 1) = 19 from rfl, show ((99 : Int) + (2 : Nat) + 1) = 102 from rfl]
  rw [P.word1 a2 B s0 se e1 hl (p := 102) (k := 19) (by omega) 3 (f + 5) (f + 9) (by omega) (by omega) (by omega) (by decide +kernel) (by decide +kernel) W_and (by omega), show ((19 : Int) + 1) = 20 from rfl, show ((102 : Int) + (3 : Nat) + 1) = 106 from rfl]
  rw [P.word1 a2 B s0 se e1 hl (p := 106) (k := 20) (by omega) 3 (f + 1) (f + 5) (by omega) (by omega) (by omega) (by decide +kernel) (by decide +kernel) W_not (by omega), show ((20 : Int) + 1) = 21 from rfl, show ((106 : Int) + (3 : Nat) + 1) = 110 from rfl]
  have e : f6_wordNumber_11 h a (I s) (I e) (f + 1) (I 21) (I s) true (I 110) = some (I (-1)) := by
    rw [f6_wordNumber_11]
    simp only [I_lit, I_neg]
    exact if_pos (by rw [I_le (by omega) (by omega) (by omega) (by omega)]; omega)
  rw [e]
  unfold wkm
  iterate 21 refine ite_some ?_
  rfl
end
