/-! TESTS side by side: what is opened, settled, closed -/
theorem nb_c (a : Int) (L : List Int) : nb (a :: L) = nb L + if a = 11 ∨ a = 12 then 1 else 0 := rfl
def str (o : Int) : Int := if o = 12 then 1 else if o = 11 then 2 else if o = 10 then 3 else 0
def oo (o : Int) : Prop := o = 10 ∨ o = 11 ∨ o = 12 ∨ o = 91
theorem oo_v {o : Int} (h : oo o) : clos (mo o) = str o ∧ (o ≠ 91 → en o = mo o ∧ sgk o ∧ 10 ≤ en o ∧ 1 ≤ str o) ∧ (o = 91 → str o = 0) ∧ str o ≤ 3 ∧ 0 ≤ str o := by
  rcases h with q | q | q | q <;> subst q
  · exact ⟨rfl, fun _ => ⟨rfl, ⟨by omega, by omega, by decide, by decide⟩, by decide, by decide⟩, fun z => by omega, by decide, by decide⟩
  · exact ⟨rfl, fun _ => ⟨rfl, ⟨by omega, by omega, by decide, by decide⟩, by decide, by decide⟩, fun z => by omega, by decide, by decide⟩
  · exact ⟨rfl, fun _ => ⟨rfl, ⟨by omega, by omega, by decide, by decide⟩, by decide, by decide⟩, fun z => by omega, by decide, by decide⟩
  · exact ⟨rfl, fun z => absurd rfl z, fun _ => rfl, by decide, by decide⟩
theorem oo_tk {o : Int} (h : oo o) (h91 : o ≠ 91) {O : List Int} : tk (en o) (true :: List.replicate (nb (o :: O)) true) = some (true :: List.replicate (nb O) true) := by
  rcases h with q | q | q | q
  · subst q; rfl
  · subst q; rfl
  · subst q; rfl
  · exact absurd q h91
/-- signs one after the other -/
def gputs (g : Nat → Int → Int) (tx : Int) : List Int → Nat → Int → Int
  | [] => g
  | a :: A => gputs (gput g tx a) tx A
theorem gputs_ne {tx : Int} {j : Nat} (h3 : j ≠ 3) (h4 : j ≠ 4) : ∀ {A : List Int} {g : Nat → Int → Int}, gputs g tx A j = g j
  | [], _ => rfl
  | a :: A, g => by
    show gputs (gput g tx a) tx A j = g j
    rw [gputs_ne h3 h4, gput_ne h3 h4]
theorem gputs_len {tx : Int} : ∀ {A : List Int} {g : Nat → Int → Int}, gputs g tx A 4 tx = g 4 tx + A.length
  | [], _ => by simp [gputs]
  | a :: A, g => by
    show gputs (gput g tx a) tx A 4 tx = _
    rw [gputs_len, gput_len, List.length_cons]
    omega
theorem GB.puts {tx b : Int} {v0 v : Nat → Int} {g0 : Nat → Int → Int} : ∀ {A : List Int} {g : Nat → Int → Int}, GB tx b v0 v g0 g → b ≤ g 4 tx → g 4 tx + A.length ≤ 400 → GB tx b v0 v g0 (gputs g tx A)
  | [], _, G, _, _ => G
  | a :: A, g, G, l0, l1 => by
    rw [List.length_cons] at l1
    exact GB.puts (A := A) (G.put (y := a) l0 (by omega)) (by rw [gput_len]; omega) (by rw [gput_len]; omega)
theorem CD.puts {cd : Int → Int} {sz : Int} {W Y : List Int} {tx b nc : Int} : ∀ {A : List Int} {k : Nat} {g : Nat → Int → Int}, CD cd sz W k (sgt g tx) (g 4 tx) b nc → (∀ a ∈ A, oo a ∧ a ≠ 91) → W.drop k = A.map mo ++ Y → CD cd sz W (k + A.length) (sgt (gputs g tx A) tx) (gputs g tx A 4 tx) b nc
  | [], k, g, C, _, _ => C
  | a :: A, k, g, C, hA, hd => by
    have ha := hA a (List.mem_cons_self)
    have v := (oo_v ha.1).2.1 ha.2
    have w : W[k]? = some (en a) := by
      have q : (W.drop k)[0]? = W[k]? := by rw [List.getElem?_drop, Nat.add_zero]
      rw [← q, hd, v.1]
      rfl
    have C1 := C.put w
    rw [← sgt_put, ← gput_len (y := a)] at C1
    have d1 : W.drop (k + 1) = A.map mo ++ Y := by
      rw [← List.drop_drop, hd]
      rfl
    have := CD.puts (A := A) (g := gput g tx a) C1 (fun b hb => hA b (List.mem_cons_of_mem _ hb)) d1
    rw [List.length_cons, show k + (A.length + 1) = k + 1 + A.length by omega]
    exact this
theorem SGN.puts {tx bb it : Int} {O : List Int} : ∀ {A : List Int} {g : Nat → Int → Int}, SGN (sgt g tx) (g 4 tx) bb (true :: List.replicate (nb (A ++ O)) true) it → (∀ a ∈ A, oo a ∧ a ≠ 91) → SGN (sgt (gputs g tx A) tx) (gputs g tx A 4 tx) bb (true :: List.replicate (nb O) true) it
  | [], _, S, _ => S
  | a :: A, g, S, hA => by
    have ha := hA a (List.mem_cons_self)
    have v := (oo_v ha.1).2.1 ha.2
    have S1 := S.put (y := a) (oo_tk ha.1 ha.2) v.2.1 (it' := it) (by rw [if_neg (by simp; omega)]; omega)
    rw [← sgt_put, ← gput_len (y := a)] at S1
    exact SGN.puts (A := A) (g := gput g tx a) S1 (fun b hb => hA b (List.mem_cons_of_mem _ hb))
theorem strength_of {h : AH} {o : Int} (ho : oo o) : f9_strength h (I o) = some (I (str o)) := by
  rcases ho with q | q | q | q <;> subst q <;> rfl
theorem hi_mem {w : Int → Int} {y : Int} : ∀ {O : List Int}, hi w O → (y ∈ O ↔ ∃ k : Nat, k < O.length ∧ w k = y)
  | [], _ => by simp
  | a :: O, h => by
    rw [List.mem_cons, hi_mem h.2]
    constructor
    · intro z
      rcases z with z | ⟨k, k0, k1⟩
      · exact ⟨O.length, by simp, by rw [h.1, z]⟩
      · exact ⟨k, by simp; omega, k1⟩
    · intro ⟨k, k0, k1⟩
      rw [List.length_cons] at k0
      by_cases z : k = O.length
      · subst z; left; rw [← k1]; exact h.1
      · exact .inr ⟨k, by omega, k1⟩
section
variable {h h' : AH} {m : Nat} {v : Nat → Int} {se : Int64} {g : Nat → Int → Int} {gl : Nat → Int → Int64} {T : Int → Int}
theorem RF.opens (R : RF h m v se g gl T) (w : v 17 = 0) {O : List Int} (S : OS v g O) (L : (O.length : Int) < 400) {s : Int} (e16 : v 16 = s) {what : Int} (hw : what = 10 ∨ what = 91) : (dpo O = 10 → ∃ h', f9_opens h m (I what) = some (false, h') ∧ RF h' m (us v 17 (1 + 8 * s + 2)) se g gl T ∧ Fr m (m + 24) h h') ∧ (dpo O < 10 → ∃ h', f9_opens h m (I what) = some (true, h') ∧ RF h' m (us (us v 21 (dpo O + 1)) 24 (O.length + 1)) se (uf g 14 (up (g 14) O.length what)) gl T ∧ OS (us (us v 21 (dpo O + 1)) 24 (O.length + 1)) (uf g 14 (up (g 14) O.length what)) (what :: O) ∧ Fr m (m + 24) h h') := by
  obtain ⟨s24, s14, s21, s10, sO⟩ := S
  have dn : 0 ≤ dpo O := by rw [← dep_mo O sO]; exact (dep_nn _).1
  have l : (I (dpo O) = I 10) = (dpo O = 10) := I_eq (by omega) (by omega) (by omega) (by omega)
  rw [f9_opens, R.1.o, Option.bind_some, R.1.f21, Option.bind_some, s21]
  simp only [I_lit]
  refine ⟨fun z => ?_, fun z => ?_⟩
  · obtain ⟨h1, e1, R1, F1⟩ := R.fails w (k := 2) (i := s)
    rw [if_pos (by rw [l]; exact z), R.1.f16, Option.bind_some, e16, e1, Option.bind_some]
    exact ⟨h1, rfl, R1, F1⟩
  · obtain ⟨h1, e1, M1, F1⟩ := R.1.s21 (dpo O + 1)
    have R1 := R.set M1 (by omega) (by omega)
    obtain ⟨h2, e2, M2, F2⟩ := R1.1.w14 (i := (O.length : Int)) what (by omega) L
    have R2 := R1.setg M2 (by omega)
    obtain ⟨h3, e3, M3, F3⟩ := R2.1.s24 ((O.length : Int) + 1)
    have R3 := R2.set M3 (by omega) (by omega)
    have q24 : us v 21 (dpo O + 1) 24 = (O.length : Int) := by rw [us_ne (by omega)]; exact s24
    refine ⟨h3, ?_, R3, ⟨by rw [us_eq, List.length_cons]; omega, by rw [uf_eq]; exact hi_push s14, ?_, ?_, fun o ho => ?_⟩, (F1.trans F2).trans F3⟩
    · rw [if_neg (by rw [l]; omega), Option.bind_some, I_add, e1, Option.bind_some, R1.1.f23, Option.bind_some, R1.1.f24, Option.bind_some, q24, e2, Option.bind_some, R2.1.f24, Option.bind_some, q24, I_add, e3, Option.bind_some]
    · rw [us_ne (by omega), us_eq, dpo_c, if_pos hw]
    · rw [dpo_c, if_pos hw]; omega
    · rcases List.mem_cons.mp ho with q | q
      · subst q; rcases hw with q | q <;> omega
      · exact sO o q
theorem RF.settleLoop {tx l : Int} (l1 : 1 ≤ l) (l3 : l ≤ 3) (t0 : 0 ≤ tx) (t1 : tx < 14) {O2 : List Int} (hO : ∀ o O', O2 = o :: O' → str o < l) : ∀ (A : List Int) (f : Nat) (h : AH) (v : Nat → Int) (g : Nat → Int → Int), RF h m v se g gl T → v 19 = tx → OS v g (A ++ O2) → (∀ a ∈ A, l ≤ str a) → 0 ≤ g 4 tx → g 4 tx + A.length ≤ 400 → ((A ++ O2).length : Int) ≤ 400 → A.length < f → ∃ h' v', f9_settles_0 m (I l) f h = some h' ∧ RF h' m v' se (gputs g tx A) gl T ∧ (∀ k, k ≠ 21 → k ≠ 24 → v' k = v k) ∧ OS v' (gputs g tx A) O2 ∧ Fr m (m + 24) h h' := by
  intro A
  induction A with
  | nil =>
    intro f h v g R e19 S hA l0 l4 L hf
    cases f with
    | zero => exact absurd hf (Nat.not_lt_zero _)
    | succ f =>
      refine ⟨h, v, ?_, R, fun _ _ _ => rfl, S, Fr.refl _ _ _⟩
      obtain ⟨s24, s14, s21, s10, sO⟩ := S
      simp only [List.nil_append] at s24 s14 s21 s10 sO L
      have l0' : (I (O2.length : Int) ≤ I 0) = ((O2.length : Int) ≤ 0) := I_le (by omega) (by omega) (by omega) (by omega)
      rw [f9_settles_0, R.1.f24, Option.bind_some, s24]
      simp only [I_lit]
      cases O2 with
      | nil => rw [if_pos (by rw [l0']; simp)]
      | cons o O =>
        have ov := oo_v (sO o (List.mem_cons_self))
        have os := hO o O rfl
        rw [List.length_cons] at L l0' ⊢
        have e1 : g 14 ((O.length + 1 : Nat) - 1 : Int) = o := by rw [show ((O.length + 1 : Nat) - 1 : Int) = (O.length : Int) by omega]; exact s14.1
        have l5 : (I (str o) < I l) = (str o < l) := I_lt (by omega) (by omega) (by omega) (by omega)
        rw [if_neg (by rw [l0']; omega), R.1.f23, Option.bind_some, Option.bind_some, I_sub, R.1.r14 (by omega) (by omega), Option.bind_some, e1, strength_of (sO o (List.mem_cons_self)), Option.bind_some, if_pos (by rw [l5]; exact os)]
  | cons a A ih =>
    intro f h v g R e19 S hA l0 l4 L hf
    cases f with
    | zero => exact absurd hf (Nat.not_lt_zero _)
    | succ f =>
      obtain ⟨s24, s14, s21, s10, sO⟩ := S
      simp only [List.cons_append] at s24 s14 s21 s10 sO L
      have lc : ((a :: (A ++ O2)).length : Int) = ((A ++ O2).length : Int) + 1 := by rw [List.length_cons]; omega
      rw [lc] at s24 L
      rw [List.length_cons] at l4 hf
      have oa := sO a (List.mem_cons_self)
      have sa := hA a (List.mem_cons_self)
      have ov := oo_v oa
      have a91 : a ≠ 91 := fun z => by have := ov.2.2.1 z; omega
      have av := ov.2.1 a91
      have ar : 0 ≤ a ∧ a ≤ 91 := by rcases oa with q | q | q | q <;> omega
      have l0' : (I (((A ++ O2).length : Int) + 1) ≤ I 0) = (((A ++ O2).length : Int) + 1 ≤ 0) := I_le (by omega) (by omega) (by omega) (by omega)
      have l5 : (I (str a) < I l) = (str a < l) := I_lt (by omega) (by omega) (by omega) (by omega)
      have l10 : (I a = I 10) = (a = 10) := I_eq (by omega) (by omega) (by omega) (by omega)
      have e1 : g 14 ((A ++ O2).length : Int) = a := s14.1
      obtain ⟨h1, f1, M1, F1⟩ := R.1.s24 ((A ++ O2).length : Int)
      have R1 := R.set M1 (by omega) (by omega)
      obtain ⟨h2, f2, R2, F2⟩ := R1.puts (a := a) (y := 0) (tx := tx) (by rw [us_ne (by omega)]; exact e19) t0 t1 l0 (by omega)
      rw [show a + 16 * 0 = a by omega] at R2
      have q24 : us v 24 ((A ++ O2).length : Int) 24 = ((A ++ O2).length : Int) := us_eq
      have r1 := R1.1.r14 (i := ((A ++ O2).length : Int)) (by omega) (by omega)
      have r2 := R2.1.r14 (i := ((A ++ O2).length : Int)) (by omega) (by omega)
      rw [gput_ne (by omega) (by omega)] at r2
      rw [e1] at r1 r2
      rw [f9_settles_0, R.1.f24, Option.bind_some, s24]
      simp only [I_lit]
      rw [if_neg (by rw [l0']; omega), R.1.f23, Option.bind_some, Option.bind_some, I_sub, show ((A ++ O2).length : Int) + 1 - 1 = ((A ++ O2).length : Int) by omega, R.1.r14 (by omega) (by omega), Option.bind_some, e1, strength_of oa, Option.bind_some, if_neg (by rw [l5]; omega), Option.bind_some, I_sub, show ((A ++ O2).length : Int) + 1 - 1 = ((A ++ O2).length : Int) by omega, f1, Option.bind_some, R1.1.f23, Option.bind_some, R1.1.f24, Option.bind_some, q24, r1, Option.bind_some, f2, Option.bind_some, R2.1.f23, Option.bind_some, R2.1.f24, Option.bind_some, q24, r2, Option.bind_some]
      have ob : ∀ {v2 : Nat → Int}, v2 24 = ((A ++ O2).length : Int) → v2 21 = dpo (A ++ O2) → OS v2 (gput g tx a) (A ++ O2) := fun x24 x21 => ⟨x24, by rw [gput_ne (by omega) (by omega)]; exact s14.2, x21, by rw [dpo_c] at s10; split at s10 <;> omega, fun o ho => sO o (List.mem_cons_of_mem _ ho)⟩
      by_cases c : a = 10
      · obtain ⟨h3, f3, M3, F3⟩ := R2.1.s21 (dpo (A ++ O2))
        have R3 := R2.set M3 (by omega) (by omega)
        have q21 : us v 24 ((A ++ O2).length : Int) 21 = dpo (A ++ O2) + 1 := by rw [us_ne (by omega), s21, dpo_c, if_pos (.inl c)]
        obtain ⟨h4, v4, f4, R4, V4, S4, F4⟩ := ih f h3 _ _ R3 (by rw [us_ne (by omega), us_ne (by omega)]; exact e19) (ob (by rw [us_ne (by omega)]; exact us_eq) us_eq) (fun b hb => hA b (List.mem_cons_of_mem _ hb)) (by rw [gput_len]; omega) (by rw [gput_len]; omega) (by omega) (by omega)
        rw [if_pos (by rw [l10]; exact c), R2.1.f21, Option.bind_some, q21, I_sub, show dpo (A ++ O2) + 1 - 1 = dpo (A ++ O2) by omega, f3, Option.bind_some, f4]
        exact ⟨h4, v4, rfl, R4, fun k k0 k1 => by rw [V4 k k0 k1, us_ne k0, us_ne k1], S4, ((F1.trans F2).trans F3).trans F4⟩
      · have q21 : us v 24 ((A ++ O2).length : Int) 21 = dpo (A ++ O2) := by rw [us_ne (by omega), s21, dpo_c, if_neg (by omega)]; omega
        obtain ⟨h4, v4, f4, R4, V4, S4, F4⟩ := ih f h2 _ _ R2 (by rw [us_ne (by omega)]; exact e19) (ob us_eq q21) (fun b hb => hA b (List.mem_cons_of_mem _ hb)) (by rw [gput_len]; omega) (by rw [gput_len]; omega) (by omega) (by omega)
        rw [if_neg (by rw [l10]; exact c), f4]
        exact ⟨h4, v4, rfl, R4, fun k k0 k1 => by rw [V4 k k0 k1, us_ne k1], S4, (F1.trans F2).trans F4⟩
theorem RF.settle {tx l : Int} (l1 : 1 ≤ l) (l3 : l ≤ 3) (t0 : 0 ≤ tx) (t1 : tx < 14) {A O2 : List Int} (hO : ∀ o O', O2 = o :: O' → str o < l) (R : RF h m v se g gl T) (e19 : v 19 = tx) (S : OS v g (A ++ O2)) (hA : ∀ a ∈ A, l ≤ str a) (l0 : 0 ≤ g 4 tx) (l4 : g 4 tx + A.length ≤ 400) (L : ((A ++ O2).length : Int) ≤ 400) : ∃ h' v', f9_settles h m (I l) = some h' ∧ RF h' m v' se (gputs g tx A) gl T ∧ (∀ k, k ≠ 21 → k ≠ 24 → v' k = v k) ∧ OS v' (gputs g tx A) O2 ∧ Fr m (m + 24) h h' := by
  have fu := FU_big
  have la : ((A ++ O2).length : Int) = (A.length : Int) + O2.length := by rw [List.length_append]; omega
  obtain ⟨h1, v1, f1, R1, V1, S1, F1⟩ := RF.settleLoop l1 l3 t0 t1 hO A FU h v g R e19 S hA l0 l4 L (by omega)
  exact ⟨h1, v1, by rw [f9_settles, R.1.o, Option.bind_some, f1], R1, V1, S1, F1⟩
theorem RF.insideLoop (R : RF h m v se g gl T) {O : List Int} (S : OS v g O) (L : (O.length : Int) ≤ 400) : ∀ (d i f : Nat), i + d = O.length → d < f → ∃ b, f9_isInside_2 h m f (I (i : Int)) = some b ∧ (b = true ↔ ∃ k : Nat, i ≤ k ∧ k < O.length ∧ g 14 k = 91)
  | _, _, 0, _, hf => absurd hf (Nat.not_lt_zero _)
  | 0, i, f + 1, e, hf => by
    have l0 : (I (O.length : Int) ≤ I (i : Int)) = ((O.length : Int) ≤ i) := I_le (by omega) (by omega) (by omega) (by omega)
    rw [f9_isInside_2, R.1.f24, Option.bind_some, S.1, if_pos (by rw [l0]; omega)]
    exact ⟨false, rfl, ⟨fun z => by (cases z), fun ⟨k, k0, k1, _⟩ => by omega⟩⟩
  | d + 1, i, f + 1, e, hf => by
    have l0 : (I (O.length : Int) ≤ I (i : Int)) = ((O.length : Int) ≤ i) := I_le (by omega) (by omega) (by omega) (by omega)
    have mm := (hi_mem (y := g 14 (i : Int)) S.2.1).mpr ⟨i, by omega, rfl⟩
    have oo_ := S.2.2.2.2 _ mm
    have l91 : (I (g 14 (i : Int)) = I 91) = (g 14 (i : Int) = 91) := I_eq (by omega) (by omega) (by omega) (by omega)
    rw [f9_isInside_2, R.1.f24, Option.bind_some, S.1]
    simp only [I_lit]
    rw [if_neg (by rw [l0]; omega), R.1.f23, Option.bind_some, R.1.r14 (by omega) (by omega), Option.bind_some]
    by_cases c : g 14 (i : Int) = 91
    · rw [if_pos (by rw [l91]; exact c)]
      exact ⟨true, rfl, ⟨fun _ => ⟨i, Nat.le_refl _, by omega, c⟩, fun _ => rfl⟩⟩
    · rw [if_neg (by rw [l91]; exact c), Option.bind_some, I_add, show (i : Int) + 1 = ((i + 1 : Nat) : Int) by omega]
      obtain ⟨b, e1, e2⟩ := RF.insideLoop R S L d (i + 1) f (by omega) (by omega)
      refine ⟨b, e1, e2.trans ⟨fun ⟨k, k0, k1, k2⟩ => ⟨k, by omega, k1, k2⟩, fun ⟨k, k0, k1, k2⟩ => ⟨k, ?_, k1, k2⟩⟩⟩
      by_cases z : k = i
      · subst z; exact absurd k2 c
      · omega
theorem RF.inside (R : RF h m v se g gl T) {O : List Int} (S : OS v g O) (L : (O.length : Int) ≤ 400) : f9_isInside h m = some (decide (91 ∈ O)) := by
  have fu := FU_big
  obtain ⟨b, e1, e2⟩ := RF.insideLoop R S L O.length 0 FU (by omega) (by omega)
  have e1' : f9_isInside_2 h m FU (I 0) = some b := e1
  have e3 : b = true ↔ 91 ∈ O := by
    rw [hi_mem S.2.1]
    exact e2.trans ⟨fun ⟨k, k0, k1, k2⟩ => ⟨k, k1, k2⟩, fun ⟨k, k1, k2⟩ => ⟨k, Nat.zero_le _, k1, k2⟩⟩
  rw [f9_isInside, R.1.o, Option.bind_some]
  simp only [I_lit]
  rw [e1']
  congr 1
  by_cases z : 91 ∈ O
  · rw [decide_eq_true z]; exact e3.mpr z
  · rw [decide_eq_false z]
    cases b with
    | false => rfl
    | true => exact absurd (e3.mp rfl) z
end
