/-! the class's next token, whole -/
def two (T : Int → Int) (n s : Int) : Int := if byt T n (s + 1) = 61 ∧ (kos (byt T n s) = 22 ∨ kos (byt T n s) = 26) then (if kos (byt T n s) = 22 then 23 else 25) else kos (byt T n s)
def kd (T : Int → Int) (n s : Int) : Int := if isd T n s then 21 else if isl T n s then wkn (P8 T s (lend T n s)) else two T n s
def nx (T : Int → Int) (n s : Int) : Int := if isd T n s then dend T n s else if isl T n s then lend T n s else if kos (byt T n s) = 33 then s else if byt T n (s + 1) = 61 ∧ (kos (byt T n s) = 22 ∨ kos (byt T n s) = 26) then s + 2 else s + 1
theorem kos_33 {c : Int} (h : kos c = 33) : c = -1 := by
  unfold kos at h
  repeat' split at h
  all_goals omega
theorem two_rng (T : Int → Int) (n s : Int) : 22 ≤ two T n s ∧ two T n s ≤ 34 := by
  have := kos_rng (byt T n s)
  unfold two
  repeat' split
  all_goals omega
theorem kd_rng (T : Int → Int) (n s : Int) : 0 ≤ kd T n s ∧ kd T n s ≤ 34 := by
  have a := two_rng T n s
  have b := wkn_rng (P8 T s (lend T n s))
  unfold kd
  repeat' split
  all_goals omega
theorem kd_33 {T : Int → Int} {n s : Int} (h : kd T n s = 33) : byt T n s = -1 := by
  unfold kd at h
  split at h
  · omega
  · split at h
    · have := wkn_rng (P8 T s (lend T n s)); omega
    · unfold two at h
      split at h
      · split at h <;> omega
      · exact kos_33 h
theorem byt_end {T : Int → Int} {n s : Int} (B : ∀ i, 0 ≤ i → i < n → 0 ≤ T i ∧ T i ≤ 255) (s0 : 0 ≤ s) : byt T n s = -1 ↔ n ≤ s := by
  unfold byt
  by_cases c : s < n
  · have := B s s0 c
    rw [if_pos c]; omega
  · rw [if_neg c]; omega
theorem byt_rng {T : Int → Int} {n s : Int} (B : ∀ i, 0 ≤ i → i < n → 0 ≤ T i ∧ T i ≤ 255) (s0 : 0 ≤ s) : -1 ≤ byt T n s ∧ byt T n s ≤ 255 := by
  unfold byt
  by_cases c : s < n
  · have := B s s0 c
    rw [if_pos c]; omega
  · rw [if_neg c]; omega
theorem nx_rng {T : Int → Int} {n s : Int} (B : ∀ i, 0 ≤ i → i < n → 0 ≤ T i ∧ T i ≤ 255) (s0 : 0 ≤ s) (sn : s ≤ n) (hn : n ≤ 400) : s ≤ nx T n s ∧ nx T n s ≤ n ∧ (kd T n s ≠ 33 → s < nx T n s) := by
  have a := dend_rng (T := T) sn
  have b := lend_rng (T := T) sn
  unfold nx kd
  by_cases c : isd T n s
  · rw [if_pos c, if_pos c]; exact ⟨a.1, a.2, fun _ => dend_gt s0 c hn⟩
  · rw [if_neg c, if_neg c]
    by_cases d : isl T n s
    · rw [if_pos d, if_pos d]; exact ⟨b.1, b.2, fun _ => lend_gt s0 d hn⟩
    · rw [if_neg d, if_neg d]
      by_cases e : kos (byt T n s) = 33
      · rw [if_pos e]
        refine ⟨by omega, by omega, fun z => ?_⟩
        exfalso
        apply z
        unfold two
        rw [if_neg (by omega), e]
      · rw [if_neg e]
        have sn' : s < n := by
          by_cases q : s < n
          · exact q
          · exfalso; apply e; rw [(byt_end B s0).mpr (by omega)]; rfl
        by_cases f : byt T n (s + 1) = 61 ∧ (kos (byt T n s) = 22 ∨ kos (byt T n s) = 26)
        · rw [if_pos f]
          have : s + 1 < n := by
            by_cases q : s + 1 < n
            · exact q
            · have := (byt_end B (s := s + 1) (by omega)).mpr (by omega)
              omega
          exact ⟨by omega, by omega, fun _ => by omega⟩
        · rw [if_neg f]
          exact ⟨by omega, by omega, fun _ => by omega⟩
section
variable {h h' : AH} {a : Nat} {t : Nat → Int} {T : Int → Int}
theorem TP.bytAt (P : TP h a t T) {i : Int} (n0 : 0 ≤ t 1) (i0 : 0 ≤ i) (i2 : i < 2147483648) (n2 : t 1 ≤ 400) : f6_byteAt h a (I i) = some (I (byt T (t 1) i)) := by
  unfold byt
  by_cases c : i < t 1
  · rw [if_pos c, P.byteAt i0 c n2]
  · rw [if_neg c, P.byteOut n0 (by omega) n2 i2]
theorem TP.num (P : TP h a t T) (a0 : 0 ≤ t 2) (a1 : t 2 ≤ t 1) (a2 : t 1 ≤ 400) (B : ∀ i, 0 ≤ i → i < t 1 → 0 ≤ T i ∧ T i ≤ 255) : ∃ h' t', f6_goOverNumber h a = some h' ∧ TP h' a t' T ∧ Fr a (a + 2) h h' ∧ t' 1 = t 1 ∧ t' 2 = dend T (t 1) (t 2) ∧ t' 3 = t 3 ∧ t' 4 = 21 ∧ t' 5 = nvf T (t 2) (dend T (t 1) (t 2) - t 2).toNat ∧ t' 6 = dend T (t 1) (t 2) - t 2 := by
  have fu := FU_big
  obtain ⟨h1, e1, P1, F1⟩ := P.s4 21
  obtain ⟨h2, e2, P2, F2⟩ := P1.s5 0
  obtain ⟨h3, e3, P3, F3⟩ := P2.s6 0
  have p1 : us (us (us t 4 21) 5 0) 6 0 1 = t 1 := rfl
  have p2 : us (us (us t 4 21) 5 0) 6 0 2 = t 2 := rfl
  have p5 : us (us (us t 4 21) 5 0) 6 0 5 = 0 := rfl
  have p6 : us (us (us t 4 21) 5 0) 6 0 6 = 0 := rfl
  obtain ⟨h4, e4, P4, F4⟩ := TP.digits FU h3 _ P3 (by rw [p2]; exact a0) (by rw [p1, p2]; exact a1) (by rw [p1]; exact a2) (by rw [p1]; exact B) (by rw [p6]; omega) (by rw [p6, p2]; omega) (by rw [p5]; omega) (by rw [p5]; omega) (by rw [p6]; omega) (by rw [p6]; omega) (by rw [p6]; omega) (by rw [p6]; omega) (by rw [p5]; omega) (by rw [p1, p2]; omega)
  rw [p1, p2, p5, p6] at P4
  have dr := dend_rng (T := T) a1
  have de := dend_end (T := T) a0 a1 a2
  have dg := dgs_is (T := T) (n := t 1) (s := t 2) (e := dend T (t 1) (t 2)) dr.2 de.1 de.2 (dend T (t 1) (t 2) - t 2).toNat 0 FU (by omega) (by omega)
  rw [show t 2 + ((0 : Nat) : Int) = t 2 by omega] at dg
  have dg' : dgs T (t 1) FU (t 2) 0 0 = (dend T (t 1) (t 2), nvf T (t 2) (dend T (t 1) (t 2) - t 2).toNat, dend T (t 1) (t 2) - t 2) := dg
  rw [dg'] at P4
  refine ⟨h4, _, ?_, P4, ((F1.trans F2).trans F3).trans F4, rfl, rfl, rfl, rfl, rfl, rfl⟩
  rw [f6_goOverNumber, P.o, Option.bind_some]
  simp only [I_lit]
  rw [e1, Option.bind_some, e2, Option.bind_some, e3, Option.bind_some, e4]
theorem TP.wrd (P : TP h a t T) (a0 : 0 ≤ t 2) (a1 : t 2 ≤ t 1) (a2 : t 1 ≤ 400) (B : ∀ i, 0 ≤ i → i < t 1 → 0 ≤ T i ∧ T i ≤ 255) (a3 : t 3 = t 2) : ∃ h' t', f6_goOverWord h a = some h' ∧ TP h' a t' T ∧ Fr a (a + 2) h h' ∧ t' 1 = t 1 ∧ t' 2 = lend T (t 1) (t 2) ∧ t' 3 = t 3 ∧ t' 4 = wkn (P8 T (t 2) (lend T (t 1) (t 2))) := by
  have fu := FU_big
  obtain ⟨h1, e1, P1, F1⟩ := TP.letters FU h t P a0 a1 a2 B (by omega)
  have dr := lend_rng (T := T) a1
  have de := lend_end (T := T) a0 a1 a2
  have P1' : TP h1 a (us t 2 (lend T (t 1) (t 2))) T := P1
  have wn := P1'.wordNumber (s := t 2) (e := lend T (t 1) (t 2)) a2 B a0 dr.1 dr.2 de.1
  obtain ⟨m0, m1, m2⟩ := wkm_wkn (P8 T (t 2) (lend T (t 1) (t 2)))
  have l1 : (I (wkm (P8 T (t 2) (lend T (t 1) (t 2)))) = I (-1)) = (wkm (P8 T (t 2) (lend T (t 1) (t 2))) = -1) := I_eq (by omega) (by omega) (by omega) (by omega)
  have x3 : us t 2 (lend T (t 1) (t 2)) 3 = t 2 := a3
  obtain ⟨h2, e2, P2, F2⟩ := P1'.s4 (wkn (P8 T (t 2) (lend T (t 1) (t 2))))
  refine ⟨h2, _, ?_, P2, F1.trans F2, rfl, rfl, rfl, rfl⟩
  rw [f6_goOverWord, P.o, Option.bind_some, e1, f6_goOverWord_42, P1'.f3, Option.bind_some, P1'.f2, Option.bind_some, x3, us_eq, wn, Option.bind_some]
  simp only [I_lit, I_neg]
  by_cases c : wkm (P8 T (t 2) (lend T (t 1) (t 2))) = -1
  · rw [if_pos c] at m2
    rw [m2] at e2
    rw [if_pos (l1 ▸ c), e2, Option.bind_some]
  · rw [if_neg c] at m2
    rw [m2] at e2
    rw [if_neg (fun z => c (l1 ▸ z)), e2, Option.bind_some]
theorem TP.sgn (P : TP h a t T) (a0 : 0 ≤ t 2) (a1 : t 2 ≤ t 1) (a2 : t 1 ≤ 400) (B : ∀ i, 0 ≤ i → i < t 1 → 0 ≤ T i ∧ T i ≤ 255) : ∃ h' t', f6_goOverSign h a (I (byt T (t 1) (t 2))) = some h' ∧ TP h' a t' T ∧ Fr a (a + 2) h h' ∧ t' 1 = t 1 ∧ t' 2 = (if kos (byt T (t 1) (t 2)) = 33 then t 2 else if byt T (t 1) (t 2 + 1) = 61 ∧ (kos (byt T (t 1) (t 2)) = 22 ∨ kos (byt T (t 1) (t 2)) = 26) then t 2 + 2 else t 2 + 1) ∧ t' 3 = t 3 ∧ t' 4 = two T (t 1) (t 2) := by
  have br := byt_rng B a0
  have br2 := byt_rng (s := t 2 + 1) B (by omega)
  have kr := kos_rng (byt T (t 1) (t 2))
  unfold two
  generalize hb : byt T (t 1) (t 2) = b at *
  obtain ⟨h1, e1, P1, F1⟩ := P.s4 (kos b)
  have l33 : (I (kos b) = I 33) = (kos b = 33) := I_eq (by omega) (by omega) (by omega) (by omega)
  have l22 : (I (kos b) = I 22) = (kos b = 22) := I_eq (by omega) (by omega) (by omega) (by omega)
  have l26 : (I (kos b) = I 26) = (kos b = 26) := I_eq (by omega) (by omega) (by omega) (by omega)
  rw [f6_goOverSign, P.o, Option.bind_some, kindOfSign br.1 br.2, Option.bind_some, e1, Option.bind_some, P1.f4, us_eq, Option.bind_some]
  simp only [I_lit]
  by_cases c : kos b = 33
  · rw [if_pos (l33 ▸ c), if_pos c, if_neg (by omega)]
    exact ⟨h1, _, rfl, P1, F1, rfl, rfl, rfl, rfl⟩
  · rw [if_neg (fun z => c (l33 ▸ z)), if_neg c, P1.f2, Option.bind_some, us_ne (by omega), I_add]
    obtain ⟨h2, e2, P2, F2⟩ := P1.s2 (t 2 + 1)
    have q1 : us (us t 4 (kos b)) 2 (t 2 + 1) 1 = t 1 := rfl
    have q2 : us (us t 4 (kos b)) 2 (t 2 + 1) 2 = t 2 + 1 := rfl
    have q4 : us (us t 4 (kos b)) 2 (t 2 + 1) 4 = kos b := rfl
    have l61 : (I (byt T (t 1) (t 2 + 1)) = I 61) = (byt T (t 1) (t 2 + 1) = 61) := I_eq (by omega) (by omega) (by omega) (by omega)
    have pb := P2.bytAt (i := t 2 + 1) (by rw [q1]; omega) (by omega) (by omega) (by rw [q1]; exact a2)
    rw [q1] at pb
    rw [e2, Option.bind_some, P2.f2, Option.bind_some, q2, pb, Option.bind_some]
    by_cases d : byt T (t 1) (t 2 + 1) = 61
    · rw [if_pos (l61 ▸ d), P2.f4, Option.bind_some, q4]
      have go : ∀ w : Int, (kos b = 22 → w = 23) → (kos b ≠ 22 → w = 25) → ∃ h3, f6_goOverSign_59 h2 a = some h3 ∧ TP h3 a (us (us (us (us t 4 (kos b)) 2 (t 2 + 1)) 4 w) 2 (t 2 + 2)) T ∧ Fr a (a + 2) h2 h3 := fun w w1 w2 => by
        obtain ⟨h3, e3, P3, F3⟩ := P2.s4 w
        obtain ⟨h4, e4, P4, F4⟩ := P3.s2 (t 2 + 2)
        have q5 : us (us (us t 4 (kos b)) 2 (t 2 + 1)) 4 w 2 = t 2 + 1 := rfl
        refine ⟨h4, ?_, P4, F3.trans F4⟩
        rw [f6_goOverSign_59, P2.f4, Option.bind_some, q4]
        simp only [I_lit]
        by_cases y : kos b = 22
        · rw [w1 y] at e3
          rw [if_pos (l22 ▸ y), e3, Option.bind_some, P3.f2, Option.bind_some, q5, I_add, show t 2 + 1 + 1 = t 2 + 2 by omega, e4, Option.bind_some]
        · rw [w2 y] at e3
          rw [if_neg (fun z => y (l22 ▸ z)), e3, Option.bind_some, P3.f2, Option.bind_some, q5, I_add, show t 2 + 1 + 1 = t 2 + 2 by omega, e4, Option.bind_some]
      by_cases y : kos b = 22
      · obtain ⟨h3, e3, P3, F3⟩ := go 23 (fun _ => rfl) (fun z => absurd y z)
        rw [if_pos (l22 ▸ y), e3, if_pos ⟨d, .inl y⟩, if_pos ⟨d, .inl y⟩, if_pos y]
        exact ⟨h3, _, rfl, P3, (F1.trans F2).trans F3, rfl, rfl, rfl, rfl⟩
      · rw [if_neg (fun z => y (l22 ▸ z)), Option.bind_some]
        by_cases x : kos b = 26
        · obtain ⟨h3, e3, P3, F3⟩ := go 25 (fun z => absurd z y) (fun _ => rfl)
          rw [if_pos (l26 ▸ x), e3, if_pos ⟨d, .inr x⟩, if_pos ⟨d, .inr x⟩, if_neg y]
          exact ⟨h3, _, rfl, P3, (F1.trans F2).trans F3, rfl, rfl, rfl, rfl⟩
        · rw [if_neg (fun z => x (l26 ▸ z)), if_neg (by omega), if_neg (by omega)]
          exact ⟨h2, _, rfl, P2, F1.trans F2, rfl, rfl, rfl, rfl⟩
    · rw [if_neg (fun z => d (l61 ▸ z)), if_neg (fun z => d z.1), if_neg (fun z => d z.1)]
      exact ⟨h2, _, rfl, P2, F1.trans F2, rfl, rfl, rfl, rfl⟩
theorem TP.next (P : TP h a t T) (a0 : 0 ≤ t 2) (a1 : t 2 ≤ t 1) (a2 : t 1 ≤ 400) (B : ∀ i, 0 ≤ i → i < t 1 → 0 ≤ T i ∧ T i ≤ 255) : ∃ h' t', f6_nextToken h a = some h' ∧ TP h' a t' T ∧ Fr a (a + 2) h h' ∧ t' 1 = t 1 ∧ t' 2 = nx T (t 1) (bl T (t 1) (t 2)) ∧ t' 3 = bl T (t 1) (t 2) ∧ t' 4 = kd T (t 1) (bl T (t 1) (t 2)) ∧ (isd T (t 1) (bl T (t 1) (t 2)) → t' 5 = nvf T (bl T (t 1) (t 2)) (dend T (t 1) (bl T (t 1) (t 2)) - bl T (t 1) (t 2)).toNat ∧ t' 6 = dend T (t 1) (bl T (t 1) (t 2)) - bl T (t 1) (t 2)) := by
  have fu := FU_big
  obtain ⟨h1, e1, P1, F1⟩ := TP.blanks FU h t P a0 a1 a2 B (by omega)
  have P1' : TP h1 a (us t 2 (bl T (t 1) (t 2))) T := P1
  have br := bl_rng (T := T) a1
  generalize bl T (t 1) (t 2) = s at P1' br ⊢
  obtain ⟨h2, e2, P2, F2⟩ := P1'.s3 s
  have q1 : us (us t 2 s) 3 s 1 = t 1 := rfl
  have q2 : us (us t 2 s) 3 s 2 = s := rfl
  have q3 : us (us t 2 s) 3 s 3 = s := rfl
  have pb := P2.bytAt (i := s) (by rw [q1]; omega) (by omega) (by omega) (by rw [q1]; exact a2)
  have yr := byt_rng (s := s) B (by omega)
  rw [q1] at pb
  rw [f6_nextToken, P.o, Option.bind_some, e1, f6_nextToken_37, P1'.f2, Option.bind_some, us_eq, e2, Option.bind_some, P2.f2, Option.bind_some, q2, pb, Option.bind_some]
  simp only [I_lit]
  rw [isFrom_of (by omega) (by omega) (by omega) (by omega) (by omega) (by omega), Option.bind_some, isFrom_of (by omega) (by omega) (by omega) (by omega) (by omega) (by omega)]
  have id : (48 ≤ byt T (t 1) s ∧ byt T (t 1) s ≤ 57) = isd T (t 1) s := by
    unfold byt isd
    by_cases c : s < t 1
    · rw [if_pos c]; simp [c]
    · rw [if_neg c]; simp [c]
  have il : (97 ≤ byt T (t 1) s ∧ byt T (t 1) s ≤ 122) = isl T (t 1) s := by
    unfold byt isl
    by_cases c : s < t 1
    · rw [if_pos c]; simp [c]
    · rw [if_neg c]; simp [c]
  unfold nx kd
  by_cases c : isd T (t 1) s
  · obtain ⟨h3, t3, e3, P3, F3, r1, r2, r3, r4, r5, r6⟩ := P2.num (by rw [q2]; omega) (by rw [q1, q2]; omega) (by rw [q1]; exact a2) (by rw [q1]; exact B)
    rw [q1, q2] at r2 r5 r6
    rw [if_pos (decide_eq_true (id ▸ c)), e3, if_pos c, if_pos c]
    exact ⟨h3, t3, rfl, P3, (F1.trans F2).trans F3, r1, r2, r3, r4, fun _ => ⟨r5, r6⟩⟩
  · rw [if_neg (fun z => c (id ▸ of_decide_eq_true z)), if_neg c, if_neg c, Option.bind_some]
    by_cases d : isl T (t 1) s
    · obtain ⟨h3, t3, e3, P3, F3, r1, r2, r3, r4⟩ := P2.wrd (by rw [q2]; omega) (by rw [q1, q2]; omega) (by rw [q1]; exact a2) (by rw [q1]; exact B) rfl
      rw [q1, q2] at r2 r4
      rw [if_pos (decide_eq_true (il ▸ d)), e3, if_pos d, if_pos d]
      exact ⟨h3, t3, rfl, P3, (F1.trans F2).trans F3, r1, r2, r3, r4, fun z => absurd z c⟩
    · obtain ⟨h3, t3, e3, P3, F3, r1, r2, r3, r4⟩ := P2.sgn (by rw [q2]; omega) (by rw [q1, q2]; omega) (by rw [q1]; exact a2) (by rw [q1]; exact B)
      rw [q1, q2] at r2 r4 e3
      rw [if_neg (fun z => d (il ▸ of_decide_eq_true z)), e3, if_neg d, if_neg d]
      exact ⟨h3, t3, rfl, P3, (F1.trans F2).trans F3, r1, r2, r3, r4, fun z => absurd z c⟩
end
