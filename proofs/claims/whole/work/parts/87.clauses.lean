/-! the class's PARSER between CLAUSES: for a READER and for a MAKER alike -/
section
variable {h h' : AH} {x : Nat} {q1 q2 : Option Nat} {u : Nat → Int} {w : Int → Int} {t : Nat → Int} {T : Int → Int}
theorem PB.bgR {r : Nat} (P : PB h (x + 24) (some r) q2 u w) {k : Int} (k0 : 0 ≤ k) (k1 : k ≤ 40) : f1_beginsClause h (x + 24) (I k) = some (decide (k = 10 ∨ k = 11 ∨ k = 12)) := by
  have l : ∀ c : Int, 0 ≤ c → c ≤ 40 → (I k = I c) = (k = c) := fun c a b => Ik k0 k1 a b
  have l10 := l 10 (by omega) (by omega)
  have l11 := l 11 (by omega) (by omega)
  have l12 := l 12 (by omega) (by omega)
  rw [f1_beginsClause, P.o, Option.bind_some, P.f0, Option.bind_some]
  simp only [I_lit]
  show (if I k = I 10 then some true else if I k = I 11 then some true else if I k = I 12 then some true else some false) = _
  by_cases a : k = 10
  · rw [if_pos (by rw [l10]; exact a), decide_eq_true (.inl a)]
  rw [if_neg (by rw [l10]; exact a)]
  by_cases b : k = 11
  · rw [if_pos (by rw [l11]; exact b), decide_eq_true (.inr (.inl b))]
  rw [if_neg (by rw [l11]; exact b)]
  by_cases c : k = 12
  · rw [if_pos (by rw [l12]; exact c), decide_eq_true (.inr (.inr c))]
  rw [if_neg (by rw [l12]; exact c), decide_eq_false (by omega)]
theorem PB.bgM (P : PB h (x + 24) none q2 u w) {k : Int} (k0 : 0 ≤ k) (k1 : k ≤ 40) : f1_beginsClause h (x + 24) (I k) = some (decide (k = 13 ∨ k = 14 ∨ k = 15 ∨ k = 16)) := by
  have l : ∀ c : Int, 0 ≤ c → c ≤ 40 → (I k = I c) = (k = c) := fun c a b => Ik k0 k1 a b
  have l10 := l 13 (by omega) (by omega)
  have l11 := l 14 (by omega) (by omega)
  have l12 := l 15 (by omega) (by omega)
  have l13 := l 16 (by omega) (by omega)
  rw [f1_beginsClause, P.o, Option.bind_some, P.f0, Option.bind_some]
  simp only [I_lit]
  show (if I k = I 13 then some true else if I k = I 14 then some true else if I k = I 15 then some true else if I k = I 16 then some true else some false) = _
  by_cases a : k = 13
  · rw [if_pos (by rw [l10]; exact a), decide_eq_true (.inl a)]
  rw [if_neg (by rw [l10]; exact a)]
  by_cases b : k = 14
  · rw [if_pos (by rw [l11]; exact b), decide_eq_true (.inr (.inl b))]
  rw [if_neg (by rw [l11]; exact b)]
  by_cases c : k = 15
  · rw [if_pos (by rw [l12]; exact c), decide_eq_true (.inr (.inr (.inl c)))]
  rw [if_neg (by rw [l12]; exact c)]
  by_cases d : k = 16
  · rw [if_pos (by rw [l13]; exact d), decide_eq_true (.inr (.inr (.inr d)))]
  rw [if_neg (by rw [l13]; exact d), decide_eq_false (by omega)]
theorem PB.takeClause (P : PB h (x + 24) q1 q2 u w) (Q : TP h (x + 22) t T) {kk : Int} (e4 : t 4 = kk) (k0 : 0 ≤ kk) (k1 : kk ≤ 40) (n0 : 0 ≤ u 5) (n1 : u 5 ≤ 12) {bg bt : Bool} {o' : Int} (hbg : ∀ h', PB h' (x + 24) q1 q2 (us u 4 kk) w → f1_beginsClause h' (x + 24) (I kk) = some bg) (hbt : 11 ≤ kk → kk ≤ 14 → ∀ h' : AH, f8_hasBit h' (I (u 6)) (I kk) = some bt) (ho : I (u 6) ||| (I 1 <<< (I kk &&& I 31)) = I o') : ∃ h1, PB h1 (x + 24) q1 q2 (us u 4 kk) w ∧ Fr (x + 24) (x + 24 + 2) h h1 ∧ (bg = false → f1_takeClause h (x + 24) (x + 22) = (f1_fail h1 (x + 24) (x + 22) (I 0)).bind fun y => some y) ∧ (bg = true → (u 5 = 12 ∨ ((11 ≤ kk ∧ kk ≤ 14) ∧ bt = true)) → f1_takeClause h (x + 24) (x + 22) = (f1_fail h1 (x + 24) (x + 22) (I 4)).bind fun y => some y) ∧ (bg = true → u 5 < 12 → ¬ ((11 ≤ kk ∧ kk ≤ 14) ∧ bt = true) → ∃ h2 u2, f1_takeClause h (x + 24) (x + 22) = some h2 ∧ PB h2 (x + 24) q1 q2 u2 w ∧ Fr (x + 24) (x + 24 + 2) h h2 ∧ u2 2 = (if kk = 10 then 3 else 1) ∧ u2 3 = 0 ∧ u2 4 = kk ∧ u2 5 = u 5 + 1 ∧ u2 6 = (if 11 ≤ kk ∧ kk ≤ 14 then o' else u 6) ∧ u2 7 = u 7 ∧ u2 8 = u 8 ∧ u2 10 = 0 ∧ u2 11 = 0 ∧ u2 12 = 0) := by
  obtain ⟨h1, e1, P1, F1⟩ := P.s4 kk
  have l : ∀ c : Int, 0 ≤ c → c ≤ 40 → (I kk = I c) = (kk = c) := fun c a b => Ik k0 k1 a b
  have l10 := l 10 (by omega) (by omega)
  have l11 := l 11 (by omega) (by omega)
  have l12 := l 12 (by omega) (by omega)
  have l13 := l 13 (by omega) (by omega)
  have l14 := l 14 (by omega) (by omega)
  have f4 : fI 1 4 h1 (x + 24) = some (I kk) := by rw [P1.f4, us_eq]
  have e49 : f1_takeClause h (x + 24) (x + 22) = f1_takeClause_49 h1 (x + 24) (x + 22) (decide (11 ≤ kk ∧ kk ≤ 14)) := by
    rw [f1_takeClause, P.o, Option.bind_some, Q.f4, Option.bind_some, e4, e1, Option.bind_some, f4]
    simp only [I_lit, Option.bind_some]
    by_cases a : kk = 11
    · rw [if_pos (by rw [l11]; exact a), decide_eq_true (by omega)]
    rw [if_neg (by rw [l11]; exact a)]
    by_cases b : kk = 12
    · rw [if_pos (by rw [l12]; exact b), decide_eq_true (by omega)]
    rw [if_neg (by rw [l12]; exact b)]
    by_cases c : kk = 13
    · rw [if_pos (by rw [l13]; exact c), decide_eq_true (by omega)]
    rw [if_neg (by rw [l13]; exact c)]
    by_cases d : kk = 14
    · rw [if_pos (by rw [l14]; exact d), decide_eq_true (by omega)]
    rw [if_neg (by rw [l14]; exact d), decide_eq_false (by omega)]
  have l5 : (I 12 ≤ I (u 5)) = (12 ≤ u 5) := I_le (by omega) (by omega) (by omega) (by omega)
  have q5 : us u 4 kk 5 = u 5 := us_ne (by omega)
  have q6 : us u 4 kk 6 = u 6 := us_ne (by omega)
  refine ⟨h1, P1, F1, fun hb => ?_, fun hb hc => ?_, fun hb n2 hc => ?_⟩
  · rw [e49, f1_takeClause_49, f4, Option.bind_some, hbg h1 P1, Option.bind_some, hb]
    simp only [I_lit, Bool.false_eq_true, if_false]
  · rw [e49, f1_takeClause_49, f4, Option.bind_some, hbg h1 P1, Option.bind_some, hb]
    simp only [I_lit, if_true]
    rw [P1.f5, Option.bind_some, q5]
    by_cases a : u 5 = 12
    · rw [if_pos (by rw [l5]; omega)]
    · have c := hc.resolve_left a
      rw [if_neg (by rw [l5]; omega), if_pos (decide_eq_true c.1), P1.f6, Option.bind_some, Option.bind_some, q6, hbt c.1.1 c.1.2, Option.bind_some, if_pos c.2]
  · have e106 : f1_takeClause h (x + 24) (x + 22) = f1_takeClause_106 h1 (x + 24) (decide (11 ≤ kk ∧ kk ≤ 14)) := by
      rw [e49, f1_takeClause_49, f4, Option.bind_some, hbg h1 P1, Option.bind_some, hb]
      simp only [I_lit, if_true]
      rw [P1.f5, Option.bind_some, q5, if_neg (by rw [l5]; omega)]
      by_cases c : 11 ≤ kk ∧ kk ≤ 14
      · rw [if_pos (decide_eq_true c), P1.f6, Option.bind_some, Option.bind_some, q6, hbt c.1 c.2, Option.bind_some, if_neg (fun z => hc ⟨c, z⟩)]
      · rw [if_neg (by rw [decide_eq_true_eq]; exact c)]
    obtain ⟨h2, e2, P2, F2⟩ := P1.s5 (u 5 + 1)
    have g6 : us (us u 4 kk) 5 (u 5 + 1) 6 = u 6 := by rw [us_ne (by omega)]; exact q6
    have g4 : us (us u 4 kk) 5 (u 5 + 1) 4 = kk := by rw [us_ne (by omega), us_eq]
    have go : ∀ (z : Int32) (o2 : Int), I (u 6) ||| z = I o2 → ∃ h9 u2, f1_takeClause_135 h2 (x + 24) (x + 24) (I (u 6)) z = some h9 ∧ PB h9 (x + 24) q1 q2 u2 w ∧ Fr (x + 24) (x + 24 + 2) h2 h9 ∧ u2 2 = (if kk = 10 then 3 else 1) ∧ u2 3 = 0 ∧ u2 4 = kk ∧ u2 5 = u 5 + 1 ∧ u2 6 = o2 ∧ u2 7 = u 7 ∧ u2 8 = u 8 ∧ u2 10 = 0 ∧ u2 11 = 0 ∧ u2 12 = 0 := fun z o2 ez => by
      obtain ⟨h3, e3, P3, F3⟩ := P2.s6 o2
      obtain ⟨h4, e4, P4, F4⟩ := P3.s3 0
      obtain ⟨h5, e5, P5, F5⟩ := P4.s10 0
      obtain ⟨h6, e6, P6, F6⟩ := P5.s11 0
      obtain ⟨h7, e7, P7, F7⟩ := P6.s12 0
      have g4' : fI 1 4 h7 (x + 24) = some (I kk) := by
        rw [P7.f4, us_ne (by omega), us_ne (by omega), us_ne (by omega), us_ne (by omega), us_ne (by omega), g4]
      rw [f1_takeClause_135]
      simp only [I_lit]
      rw [ez, e3, Option.bind_some, e4, Option.bind_some, e5, Option.bind_some, e6, Option.bind_some, e7, Option.bind_some, g4', Option.bind_some]
      by_cases c : kk = 10
      · obtain ⟨h8, e8, P8, F8⟩ := P7.s2 3
        rw [if_pos (by rw [l10]; exact c), e8, Option.bind_some, if_pos c]
        exact ⟨h8, _, rfl, P8, ((((F3.trans F4).trans F5).trans F6).trans F7).trans F8, us_eq, rfl, g4, rfl, rfl, rfl, rfl, rfl, rfl, rfl⟩
      · obtain ⟨h8, e8, P8, F8⟩ := P7.s2 1
        rw [if_neg (by rw [l10]; exact c), e8, Option.bind_some, if_neg c]
        exact ⟨h8, _, rfl, P8, ((((F3.trans F4).trans F5).trans F6).trans F7).trans F8, us_eq, rfl, g4, rfl, rfl, rfl, rfl, rfl, rfl, rfl⟩
    rw [e106, f1_takeClause_106, P1.f5, Option.bind_some, q5]
    simp only [I_lit]
    rw [I_add, e2, Option.bind_some, P2.f6, Option.bind_some, g6]
    by_cases c : 11 ≤ kk ∧ kk ≤ 14
    · obtain ⟨h9, u2, a1, a2, a3, a4⟩ := go _ o' ho
      rw [if_pos (decide_eq_true c), P2.f4, Option.bind_some, g4, a1, if_pos c]
      exact ⟨h9, u2, rfl, a2, (F1.trans F2).trans a3, a4⟩
    · obtain ⟨h9, u2, a1, a2, a3, a4⟩ := go (I 0) (u 6) (by rw [← I_0]; exact Int32.or_zero)
      rw [if_neg (by rw [decide_eq_true_eq]; exact c), a1, if_neg c]
      exact ⟨h9, u2, rfl, a2, (F1.trans F2).trans a3, a4⟩
theorem PB.takeSetting (P : PB h (x + 24) q1 q2 u w) (Q : TP h (x + 22) t T) {kk : Int} (e4 : t 4 = kk) (k0 : 0 ≤ kk) (k1 : kk ≤ 40) (d0 : 0 ≤ t 6) (d1 : t 6 ≤ 400) : (kk ≠ 21 → f1_takeSetting h (x + 24) (x + 22) = (f1_fail h (x + 24) (x + 22) (I 0)).bind fun y => some y) ∧ (kk = 21 → 5 < t 6 → f1_takeSetting h (x + 24) (x + 22) = (f1_fail h (x + 24) (x + 22) (I 1)).bind fun y => some y) ∧ (kk = 21 → t 6 ≤ 5 → ∀ h1 ok, f1_set h (x + 24) (I (t 5)) = some (ok, h1) → f1_takeSetting h (x + 24) (x + 22) = if ok = true then (fS 1 2 h1 (x + 24) (.int (I 2))).bind fun h48 => some h48 else (f1_fail h1 (x + 24) (x + 22) (I 1)).bind fun y => some y) := by
  have l21 : (I kk = I 21) = (kk = 21) := Ik k0 k1 (by omega) (by omega)
  have l5 : (I 5 < I (t 6)) = (5 < t 6) := I_lt (by omega) (by omega) (by omega) (by omega)
  rw [f1_takeSetting, P.o, Option.bind_some, Q.f4, Option.bind_some, e4]
  simp only [I_lit]
  refine ⟨fun a => ?_, fun a b => ?_, fun a b h1 ok es => ?_⟩
  · rw [if_neg (by rw [l21]; exact a)]
  · rw [if_pos (by rw [l21]; exact a), Q.f6, Option.bind_some, if_pos (by rw [l5]; exact b)]
  · rw [if_pos (by rw [l21]; exact a), Q.f6, Option.bind_some, if_neg (by rw [l5]; omega), Q.f5, Option.bind_some, es, Option.bind_some]
theorem PB.behindSetting (P : PB h (x + 24) q1 q2 u w) (Q : TP h (x + 22) t T) {kk cl : Int} (e4 : t 4 = kk) (k0 : 0 ≤ kk) (k1 : kk ≤ 40) (ec : u 4 = cl) (c0 : 0 ≤ cl) (c1 : cl ≤ 40) (c10 : cl ≠ 10) (c17 : cl ≠ 17) : (kk ≠ 32 → kk ≠ 33 → f1_takeBehindClause h (x + 24) (x + 22) = (f1_fail h (x + 24) (x + 22) (I 0)).bind fun y => some y) ∧ (kk = 32 → f1_takeBehindClause h (x + 24) (x + 22) = (fS 1 2 h (x + 24) (.int (I 0))).bind fun y => some y) ∧ (kk = 33 → f1_takeBehindClause h (x + 24) (x + 22) = (fS 1 2 h (x + 24) (.int (I 7))).bind fun y => some y) := by
  have l32 : (I kk = I 32) = (kk = 32) := Ik k0 k1 (by omega) (by omega)
  have l33 : (I kk = I 33) = (kk = 33) := Ik k0 k1 (by omega) (by omega)
  have l10 : (I cl = I 10) = (cl = 10) := Ik c0 c1 (by omega) (by omega)
  have l17 : (I cl = I 17) = (cl = 17) := Ik c0 c1 (by omega) (by omega)
  have e25 : f1_takeBehindClause_25 h (x + 24) (x + 22) = if I kk = I 33 then (fS 1 2 h (x + 24) (.int (I 7))).bind fun h72 => some h72 else (fS 1 2 h (x + 24) (.int (I 0))).bind fun h72 => some h72 := by
    rw [f1_takeBehindClause_25, P.f4, Option.bind_some, ec]
    simp only [I_lit]
    rw [if_neg (by rw [l10]; exact c10), Option.bind_some, if_neg (by rw [l17]; exact c17), Q.f4, Option.bind_some, e4]
  rw [f1_takeBehindClause, P.o, Option.bind_some, Q.f4, Option.bind_some, e4]
  simp only [I_lit]
  refine ⟨fun a b => ?_, fun a => ?_, fun a => ?_⟩
  · rw [if_neg (by rw [l32]; exact a), Option.bind_some, if_neg (by rw [l33]; exact b)]
  · rw [if_pos (by rw [l32]; exact a), e25, if_neg (by rw [l33]; omega)]
  · rw [if_neg (by rw [l32]; omega), Option.bind_some, if_pos (by rw [l33]; exact a), e25, if_pos (by rw [l33]; exact a)]
end
/-! the reference's loop over CLAUSES, by what holds ahead of one (Q0), behind a good one (Q1), at a FAULT, at the end -/
theorem reads_loop {m : Nat} {tx : Int} {Q0 Q1 : Int → AH → Prop} {QF QE : AH → Prop} (hc : ∀ d hm, Q0 d hm → (∃ hm', f9_clauseHere hm m = some (false, hm') ∧ QF hm') ∨ (∃ hm', f9_clauseHere hm m = some (true, hm') ∧ Q1 d hm')) (hs : ∀ d hm, Q1 d hm → 0 ≤ d ∧ ((∃ hm1 hm2 p d', f9_see hm m = some (I 59, hm1) ∧ fI 9 16 hm1 m = some (I p) ∧ fS 9 16 hm1 m (.int (I (p + 1))) = some hm2 ∧ d' < d ∧ 0 ≤ d' ∧ Q0 d' hm2) ∨ (∃ hm1 hm2, f9_see hm m = some (I (-1), hm1) ∧ f9_see hm1 m = some (I (-1), hm2) ∧ QE hm2) ∨ (∃ cc hm1 hm2 hm3 p, f9_see hm m = some (I cc, hm1) ∧ I cc ≠ I 59 ∧ I cc ≠ I (-1) ∧ f9_see hm1 m = some (I cc, hm2) ∧ fI 9 16 hm2 m = some (I p) ∧ f9_fails hm2 m (I 0) (I p) = some (false, hm3) ∧ QF hm3))) : ∀ (f : Nat) (d : Int) (hm : AH) (b : Bool), (b = true → Q1 d hm) → (b = false → QF hm) → 0 ≤ d → d < f → ∃ hm', f9_reads_86 m (I tx) f hm b = f9_reads_139 hm' m (I tx) ∧ (QE hm' ∨ QF hm')
  | 0, d, hm, b, h1, h2, hd, hf => by omega
  | f + 1, d, hm, false, h1, h2, hd, hf => by
    refine ⟨hm, ?_, .inr (h2 rfl)⟩
    rw [f9_reads_86]
    simp only [Bool.false_eq_true, if_false]
    rw [f9_reads_117]
    simp only [Bool.false_eq_true, if_false]
  | f + 1, d, hm, true, h1, h2, hd, hf => by
    have n59 : I (-1) ≠ I 59 := by
      intro z
      rw [I_eq (by omega) (by omega) (by omega) (by omega)] at z
      omega
    rw [f9_reads_86, if_pos rfl]
    simp only [I_lit]
    rcases (hs d hm (h1 rfl)).2 with ⟨m1, m2, p, d', a1, a2, a3, a4, a5, a6⟩ | ⟨m1, m2, a1, a2, a3⟩ | ⟨cc, m1, m2, m3, p, a1, a2, a3, a4, a5, a6, a7⟩
    · rw [a1, Option.bind_some, if_pos rfl, a2, Option.bind_some, I_add, a3, Option.bind_some]
      rcases hc d' m2 a6 with ⟨m3, b1, b2⟩ | ⟨m3, b1, b2⟩
      · rw [b1, Option.bind_some]
        exact reads_loop hc hs f d' m3 false (fun z => by cases z) (fun _ => b2) a5 (by omega)
      · rw [b1, Option.bind_some]
        exact reads_loop hc hs f d' m3 true (fun _ => b2) (fun z => by cases z) a5 (by omega)
    · rw [a1, Option.bind_some, if_neg n59, f9_reads_117, if_pos rfl]
      simp only [I_lit, I_neg]
      rw [a2, Option.bind_some, if_pos rfl]
      exact ⟨m2, rfl, .inl a3⟩
    · rw [a1, Option.bind_some, if_neg a2, f9_reads_117, if_pos rfl]
      simp only [I_lit, I_neg]
      rw [a4, Option.bind_some, if_neg a3, a5, Option.bind_some, a6, Option.bind_some]
      exact ⟨m3, rfl, .inr a7⟩
