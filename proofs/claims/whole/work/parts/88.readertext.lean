/-! the class's READER between CLAUSES, token by token -/
def ro (a b : Bool) : Int := (if a = true then 2048 else 0) + (if b = true then 4096 else 0)
theorem ro_rng (a b : Bool) : 0 ≤ ro a b ∧ ro a b ≤ 6144 := by cases a <;> cases b <;> decide
theorem ro_bit (a b : Bool) : (bi (ro a b) 11 = 1 ↔ a = true) ∧ (bi (ro a b) 12 = 1 ↔ b = true) := by cases a <;> cases b <;> decide
theorem ro_or (a b : Bool) : I (ro a b) ||| (I 1 <<< (I 11 &&& I 31)) = I (ro true b) ∧ I (ro a b) ||| (I 1 <<< (I 12 &&& I 31)) = I (ro a true) := by cases a <;> cases b <;> decide
theorem or_ex (x : Int32) : ∃ o, x = I o := ⟨x.toInt, (Int32.ofInt_toInt x).symm⟩
section
variable {h : AH} {x r : Nat} {u : Nat → Int} {w : Int → Int} {t : Nat → Int} {T : Int → Int} {ru : Nat → Int} {cd : Int → Int} {sk : Int → Int64} {n c s due cl nl it k0 k1 sz : Int} {a b : Bool}
theorem KX.fo (K : KX h x r u w t T ru cd sk) (t1 : t 1 = n) (t3 : t 3 = s) (d0 : 0 ≤ u 2) (d1 : u 2 ≤ 7) (c0 : 0 ≤ c) (c1 : c ≤ 400) (s0 : 0 ≤ s) (s1 : s ≤ 400) {k : Int} (kk : 0 ≤ k ∧ k ≤ 7) : FO x r T n c s h ((f1_fail h (x + 24) (x + 22) (I k)).bind fun y => some y) k := by
  obtain ⟨h1, e1, P1, F1⟩ := K.1.fail K.2.1 (k := k)
  have K1 := K.ofP P1 F1
  rw [t3] at P1
  have st := P1.stop (c := c + 1) (by omega) (by omega) (by rw [us_ne (by omega)]; omega) (by rw [us_ne (by omega)]; omega) (by rw [us_eq]; omega) (by rw [us_eq]; omega) (.inl (by rw [us_eq]; omega))
  rw [us_eq] at st
  exact FO.b ⟨h1, e1, st, ⟨_, _, t, ru, cd, sk, K1.1, t1⟩, K1.2⟩ (Fc.refl _ _ _)
theorem KA0.first (K : KA0 h x r T n c s 0 cl nl (ro a b) it k0 k1 sz cd) (hn : n ≤ 400) (B : ∀ i, 0 ≤ i → i < n → 0 ≤ T i ∧ T i ≤ 255) (n0 : 0 ≤ nl) (n1 : nl ≤ 12) : ∃ h1, Fc x r h h1 ∧ PLo x h c = (disp 0 x h1).bind (fun h2 => PLo x h2 (c + 1)) ∧ (¬ (kd T n s = 10 ∨ kd T n s = 11 ∨ kd T n s = 12) → FO x r T n c s h1 (disp 0 x h1) 0) ∧ ((kd T n s = 10 ∨ kd T n s = 11 ∨ kd T n s = 12) → (nl = 12 ∨ (kd T n s = 11 ∧ a = true) ∨ (kd T n s = 12 ∧ b = true)) → FO x r T n c s h1 (disp 0 x h1) 4) ∧ (kd T n s = 10 → nl < 12 → ∃ h2, disp 0 x h1 = some h2 ∧ KA h2 x r T n (c + 1) (bl T n (nx T n s)) 3 0 10 (nl + 1) (ro a b) it [] k0 k1 sz cd ∧ Fc x r h1 h2) ∧ (kd T n s = 11 → nl < 12 → a = false → ∃ h2, disp 0 x h1 = some h2 ∧ KA0 h2 x r T n (c + 1) (bl T n (nx T n s)) 1 11 (nl + 1) (ro true b) it k0 k1 sz cd ∧ Fc x r h1 h2) ∧ (kd T n s = 12 → nl < 12 → b = false → ∃ h2, disp 0 x h1 = some h2 ∧ KA0 h2 x r T n (c + 1) (bl T n (nx T n s)) 1 12 (nl + 1) (ro a true) it k0 k1 sz cd ∧ Fc x r h1 h2) := by
  obtain ⟨u, w, t, ru, sk, K, ⟨t1, t2, t3, t4, t5⟩, ⟨u2, u4, u5, u6, u7, u8⟩, ⟨y0, y1, y2, y3, y4⟩⟩ := K
  have kr := kd_rng T n s
  have rr := ro_rng a b
  have rb := ro_bit a b
  have br := bl_rng (T := T) t5
  rw [t2] at br
  have nr := nx_rng B (s := s) (by omega) br.2 hn
  obtain ⟨h1, t', P1, Q1, F1, r1, r2, r3, r4, r5, e⟩ := PB.tok (c := c) K.1 K.2.1 (by omega) (by omega) (by omega) (by rw [t1]; exact B) t3 (by omega) (by omega) (by omega) u8
  have K1 := K.ofT Q1 F1
  rw [t1, t2] at r2 r3 r4
  rw [u2] at e
  obtain ⟨o', ho⟩ := or_ex (I (u 6) ||| (I 1 <<< (I (kd T n s) &&& I 31)))
  obtain ⟨h2, P2, F2, X, Y, Z⟩ := P1.takeClause Q1 r4 kr.1 (by omega) (by omega) (by omega) (bg := decide (kd T n s = 10 ∨ kd T n s = 11 ∨ kd T n s = 12)) (bt := decide (bi (u 6) (kd T n s) = 1)) (o' := o') (fun h' P' => P'.bgR kr.1 (by omega)) (fun _ _ h' => by rw [u6]; exact hasBit_of rr.1 (by omega) kr.1 (by omega)) ho
  have K2 := K1.1.ofP P2 F2
  have ed : disp 0 x h1 = f1_takeClause h1 (x + 24) (x + 22) := by simp [disp]
  have fo : ∀ k : Int, 0 ≤ k ∧ k ≤ 7 → FO x r T n c s h1 ((f1_fail h2 (x + 24) (x + 22) (I k)).bind fun y => some y) k := fun k kk => by
    obtain ⟨h3, a1, a2, a3, a4⟩ := K2.1.fo (n := n) (s := s) (c := c) (by rw [r1]; exact t1) r3 (by rw [us_ne (by omega)]; omega) (by rw [us_ne (by omega)]; omega) t3 (by omega) (by omega) (by omega) kk
    exact ⟨h3, a1, a2, a3, K2.2.trans a4⟩
  refine ⟨h1, K1.2, e, fun q => ?_, fun q p => ?_, fun q p => ?_, fun q p z => ?_, fun q p z => ?_⟩
  · rw [ed, X (decide_eq_false q)]; exact fo 0 (by omega)
  · rw [ed, Y (decide_eq_true q) (by
      rcases p with p | ⟨p, p'⟩ | ⟨p, p'⟩
      · exact .inl (by omega)
      · exact .inr ⟨by omega, by rw [p, u6]; exact decide_eq_true (rb.1.mpr p')⟩
      · exact .inr ⟨by omega, by rw [p, u6]; exact decide_eq_true (rb.2.mpr p')⟩)]
    exact fo 4 (by omega)
  · obtain ⟨h3, u3, a1, P3, F3, a2, a3, a4, a5, a6, a7, a8, a10, a11, a12⟩ := Z (decide_eq_true (.inl q)) (by omega) (by omega)
    have K3 := K1.1.ofP P3 F3
    have n2 := nr.2.2 (by omega)
    rw [if_pos q] at a2
    rw [if_neg (by omega)] at a6
    exact ⟨h3, by rw [ed]; exact a1, ⟨u3, w, t', ru, sk, K3.1, ⟨by rw [r1]; exact t1, by rw [r2], by omega, by omega, by omega⟩, ⟨a2, a3, by rw [a4]; exact q, by rw [a5, u5], by rw [a6, u6], by rw [a7, u7], by rw [a8, u8]⟩, ⟨a10, trivial, a11, a12⟩, ⟨y0, y1, y2, y3, by simp only [List.length_nil]; omega⟩⟩, K3.2⟩
  · obtain ⟨h3, u3, a1, P3, F3, a2, a3, a4, a5, a6, a7, a8, a10, a11, a12⟩ := Z (decide_eq_true (.inr (.inl q))) (by omega) (fun p => by
      have := rb.1.mp (by rw [← u6, ← q]; exact of_decide_eq_true p.2)
      rw [z] at this; cases this)
    have K3 := K1.1.ofP P3 F3
    have n2 := nr.2.2 (by omega)
    rw [if_neg (by omega)] at a2
    rw [if_pos (by omega)] at a6
    have oo' : I o' = I (ro true b) := by rw [← ho, q, u6]; exact (ro_or a b).1
    obtain ⟨h4, e4, P4, F4⟩ := P3.s6 (ro true b)
    have same : PB h3 (x + 24) (some r) none (us u3 6 (ro true b)) w := by
      refine ⟨?_, P3.2⟩
      have p := P3.1
      unfold PBL at p ⊢
      rw [a6] at p
      rw [oo'] at p
      exact p
    have K4 := K1.1.ofP same F3
    exact ⟨h3, by rw [ed]; exact a1, ⟨_, w, t', ru, sk, K4.1, ⟨by rw [r1]; exact t1, by rw [r2], by omega, by omega, by omega⟩, ⟨by rw [us_ne (by omega)]; exact a2, by rw [us_ne (by omega), a4]; exact q, by rw [us_ne (by omega), a5, u5], us_eq, by rw [us_ne (by omega), a7, u7], by rw [us_ne (by omega), a8, u8]⟩, ⟨y0, y1, y2, y3, by omega⟩⟩, K4.2⟩
  · obtain ⟨h3, u3, a1, P3, F3, a2, a3, a4, a5, a6, a7, a8, a10, a11, a12⟩ := Z (decide_eq_true (.inr (.inr q))) (by omega) (fun p => by
      have := rb.2.mp (by rw [← u6, ← q]; exact of_decide_eq_true p.2)
      rw [z] at this; cases this)
    have n2 := nr.2.2 (by omega)
    rw [if_neg (by omega)] at a2
    rw [if_pos (by omega)] at a6
    have oo' : I o' = I (ro a true) := by rw [← ho, q, u6]; exact (ro_or a b).2
    have same : PB h3 (x + 24) (some r) none (us u3 6 (ro a true)) w := by
      refine ⟨?_, P3.2⟩
      have p := P3.1
      unfold PBL at p ⊢
      rw [a6] at p
      rw [oo'] at p
      exact p
    have K4 := K1.1.ofP same F3
    exact ⟨h3, by rw [ed]; exact a1, ⟨_, w, t', ru, sk, K4.1, ⟨by rw [r1]; exact t1, by rw [r2], by omega, by omega, by omega⟩, ⟨by rw [us_ne (by omega)]; exact a2, by rw [us_ne (by omega), a4]; exact q, by rw [us_ne (by omega), a5, u5], us_eq, by rw [us_ne (by omega), a7, u7], by rw [us_ne (by omega), a8, u8]⟩, ⟨y0, y1, y2, y3, by omega⟩⟩, K4.2⟩
theorem KX.set (K : KX h x r u w t T ru cd sk) {z : Int} (u4 : u 4 = cl) (c12 : cl = 11 ∨ cl = 12) (z0 : 0 ≤ z) (z1 : z < 100000) : (1 ≤ z ∧ z ≤ (if cl = 11 then 99 else 999) → ∃ h' ru', f1_set h (x + 24) (I z) = some (true, h') ∧ KX h' x r u w t T ru' cd sk ∧ Fc x r h h' ∧ ru' 3 = ru 3 ∧ ru' 0 = (if cl = 11 then z else ru 0) ∧ ru' 1 = (if cl = 11 then ru 1 else z)) ∧ (¬ (1 ≤ z ∧ z ≤ (if cl = 11 then 99 else 999)) → f1_set h (x + 24) (I z) = some (false, h)) := by
  have l11 : (I cl = I 11) = (cl = 11) := Ik (by omega) (by omega) (by omega) (by omega)
  have l12 : (I cl = I 12) = (cl = 12) := Ik (by omega) (by omega) (by omega) (by omega)
  have D := K.2.2.1
  have e : f1_set h (x + 24) (I z) = (f3_set h r (I cl) (I z)).bind fun x16 => some (x16.1, x16.2) := by
    rw [f1_set, K.1.o, Option.bind_some, K.1.f0, Option.bind_some, K.1.f4, u4]
    rfl
  rw [e, f3_set, D.o, Option.bind_some]
  simp only [I_lit]
  rcases c12 with q | q
  · rw [if_pos q, if_pos q, if_pos (by rw [l11]; exact q), isFrom_of (by omega) (by omega) (by omega) (by omega) (by omega) (by omega), Option.bind_some]
    refine ⟨fun p => ?_, fun p => ?_⟩
    · obtain ⟨h1, e1, D1, F1⟩ := D.s0 z
      have K1 := K.ofR D1 F1
      rw [if_pos (decide_eq_true p), e1]
      exact ⟨h1, _, rfl, K1.1, K1.2, us_ne (by omega), us_eq, by rw [if_pos q]; exact us_ne (by omega)⟩
    · rw [if_neg (by rw [decide_eq_true_eq]; exact p), f3_set_23]
      simp only [I_lit]
      rw [if_neg (by rw [l12]; omega)]
      rfl
  · have q11 : cl ≠ 11 := by omega
    rw [if_neg q11, if_neg q11, if_neg (by rw [l11]; exact q11), f3_set_23]
    simp only [I_lit]
    rw [if_pos (by rw [l12]; exact q), isFrom_of (by omega) (by omega) (by omega) (by omega) (by omega) (by omega), Option.bind_some]
    refine ⟨fun p => ?_, fun p => ?_⟩
    · obtain ⟨h1, e1, D1, F1⟩ := D.s1 z
      have K1 := K.ofR D1 F1
      rw [if_pos (decide_eq_true p), e1]
      exact ⟨h1, _, rfl, K1.1, K1.2, us_ne (by omega), us_ne (by omega), by rw [if_neg q11]; exact us_eq⟩
    · rw [if_neg (by rw [decide_eq_true_eq]; exact p)]
      rfl
theorem KA0.setting {once : Int} (K : KA0 h x r T n c s 1 cl nl once it k0 k1 sz cd) (hn : n ≤ 400) (B : ∀ i, 0 ≤ i → i < n → 0 ≤ T i ∧ T i ≤ 255) (c12 : cl = 11 ∨ cl = 12) : ∃ h1, Fc x r h h1 ∧ PLo x h c = (disp 1 x h1).bind (fun h2 => PLo x h2 (c + 1)) ∧ (¬ isd T n s → FO x r T n c s h1 (disp 1 x h1) 0) ∧ (isd T n s → ¬ (dend T n s - s ≤ 5 ∧ 1 ≤ nvf T s (dend T n s - s).toNat ∧ nvf T s (dend T n s - s).toNat ≤ (if cl = 11 then 99 else 999)) → FO x r T n c s h1 (disp 1 x h1) 1) ∧ (isd T n s → (dend T n s - s ≤ 5 ∧ 1 ≤ nvf T s (dend T n s - s).toNat ∧ nvf T s (dend T n s - s).toNat ≤ (if cl = 11 then 99 else 999)) → ∃ h2, disp 1 x h1 = some h2 ∧ KA0 h2 x r T n (c + 1) (bl T n (nx T n s)) 2 cl nl once it (if cl = 11 then nvf T s (dend T n s - s).toNat else k0) (if cl = 11 then k1 else nvf T s (dend T n s - s).toNat) sz cd ∧ Fc x r h1 h2) := by
  obtain ⟨u, w, t, ru, sk, K, ⟨t1, t2, t3, t4, t5⟩, ⟨u2, u4, u5, u6, u7, u8⟩, ⟨y0, y1, y2, y3, y4⟩⟩ := K
  have kr := kd_rng T n s
  have br := bl_rng (T := T) t5
  rw [t2] at br
  have nr := nx_rng B (s := s) (by omega) br.2 hn
  have dr := dend_rng (T := T) br.2
  have de := dend_end (T := T) (i := s) (n := n) (by omega) br.2 hn
  have nv := nvf_lt (T := T) (s := s) (dend T n s - s).toNat (fun i hi => de.1 (s + i) (by omega) (by omega))
  obtain ⟨h1, t', P1, Q1, F1, r1, r2, r3, r4, r5, e⟩ := PB.tok (c := c) K.1 K.2.1 (by omega) (by omega) (by omega) (by rw [t1]; exact B) t3 (by omega) (by omega) (by omega) u8
  have K1 := K.ofT Q1 F1
  rw [t1, t2] at r2 r3 r4 r5
  rw [u2] at e
  have ed : disp 1 x h1 = f1_takeSetting h1 (x + 24) (x + 22) := by simp [disp]
  have fo : ∀ k : Int, 0 ≤ k ∧ k ≤ 7 → FO x r T n c s h1 ((f1_fail h1 (x + 24) (x + 22) (I k)).bind fun y => some y) k := fun k kk => K1.1.fo (n := n) (s := s) (c := c) (by rw [r1]; exact t1) r3 (by omega) (by omega) t3 (by omega) (by omega) (by omega) kk
  refine ⟨h1, K1.2, e, fun q => ?_, fun q p => ?_, fun q p => ?_⟩
  · have l21 : (I (kd T n s) = I 21) = (kd T n s = 21) := Ik kr.1 (by omega) (by omega) (by omega)
    have e0 : f1_takeSetting h1 (x + 24) (x + 22) = (f1_fail h1 (x + 24) (x + 22) (I 0)).bind fun y => some y := by
      rw [f1_takeSetting, P1.o, Option.bind_some, Q1.f4, Option.bind_some, r4]
      simp only [I_lit]
      rw [if_neg (by rw [l21]; exact fun z => q (kd_21.mp z))]
    rw [ed, e0]
    exact fo 0 (by omega)
  · obtain ⟨r5, r6⟩ := r5 q
    obtain ⟨-, X, Y⟩ := P1.takeSetting Q1 r4 kr.1 (by omega) (by omega) (by omega)
    by_cases d5 : dend T n s - s ≤ 5
    · rw [ed, Y (kd_21.mpr q) (by omega) h1 false (by rw [r5]; exact (K1.1.set u4 c12 nv.1 nv.2).2 (fun z => p ⟨d5, z⟩)), if_neg (by simp)]
      exact fo 1 (by omega)
    · rw [ed, X (kd_21.mpr q) (by omega)]
      exact fo 1 (by omega)
  · obtain ⟨r5, r6⟩ := r5 q
    obtain ⟨-, X, Y⟩ := P1.takeSetting Q1 r4 kr.1 (by omega) (by omega) (by omega)
    obtain ⟨h2, ru2, e2, K2, F2, v3, v0, v1⟩ := (K1.1.set u4 c12 nv.1 nv.2).1 p.2
    obtain ⟨h3, e3, P3, F3⟩ := K2.1.s2 2
    have K3 := K2.ofP P3 F3
    have n2 := nr.2.2 (by rw [kd_21.mpr q]; omega)
    refine ⟨h3, ?_, ⟨_, w, t', ru2, sk, K3.1, ⟨by rw [r1]; exact t1, by rw [r2], by omega, by omega, by omega⟩, ⟨us_eq, u4, u5, u6, u7, u8⟩, ⟨by rw [v0, y0], by rw [v1, y1], by rw [v3]; exact y2, y3, by omega⟩⟩, F2.trans K3.2⟩
    rw [ed, Y (kd_21.mpr q) (by omega) h2 true (by rw [r5]; exact e2), if_pos rfl, e3, Option.bind_some]
theorem KA0.behind {once : Int} (K : KA0 h x r T n c s 2 cl nl once it k0 k1 sz cd) (hn : n ≤ 400) (B : ∀ i, 0 ≤ i → i < n → 0 ≤ T i ∧ T i ≤ 255) (c12 : cl = 11 ∨ cl = 12) : ∃ h1, Fc x r h h1 ∧ PLo x h c = (disp 2 x h1).bind (fun h2 => PLo x h2 (c + 1)) ∧ (kd T n s ≠ 32 → kd T n s ≠ 33 → FO x r T n c s h1 (disp 2 x h1) 0) ∧ (kd T n s = 32 → ∃ h2, disp 2 x h1 = some h2 ∧ KA0 h2 x r T n (c + 1) (bl T n (nx T n s)) 0 cl nl once it k0 k1 sz cd ∧ Fc x r h1 h2) ∧ (kd T n s = 33 → ∃ h2, disp 2 x h1 = some h2 ∧ PLo x h2 (c + 1) = some (I 0, h2) ∧ KZ h2 x r T n k0 k1 sz cd ∧ Fc x r h1 h2) := by
  obtain ⟨u, w, t, ru, sk, K, ⟨t1, t2, t3, t4, t5⟩, ⟨u2, u4, u5, u6, u7, u8⟩, ⟨y0, y1, y2, y3, y4⟩⟩ := K
  have kr := kd_rng T n s
  have br := bl_rng (T := T) t5
  rw [t2] at br
  have nr := nx_rng B (s := s) (by omega) br.2 hn
  obtain ⟨h1, t', P1, Q1, F1, r1, r2, r3, r4, r5, e⟩ := PB.tok (c := c) K.1 K.2.1 (by omega) (by omega) (by omega) (by rw [t1]; exact B) t3 (by omega) (by omega) (by omega) u8
  have K1 := K.ofT Q1 F1
  rw [t1, t2] at r2 r3 r4
  rw [u2] at e
  have ed : disp 2 x h1 = f1_takeBehindClause h1 (x + 24) (x + 22) := by simp [disp]
  have fo : ∀ k : Int, 0 ≤ k ∧ k ≤ 7 → FO x r T n c s h1 ((f1_fail h1 (x + 24) (x + 22) (I k)).bind fun y => some y) k := fun k kk => K1.1.fo (n := n) (s := s) (c := c) (by rw [r1]; exact t1) r3 (by omega) (by omega) t3 (by omega) (by omega) (by omega) kk
  obtain ⟨X, Y, Z⟩ := P1.behindSetting Q1 r4 kr.1 (by omega) u4 (by omega) (by omega) (by omega) (by omega)
  refine ⟨h1, K1.2, e, fun q p => ?_, fun q => ?_, fun q => ?_⟩
  · rw [ed, X q p]; exact fo 0 (by omega)
  · obtain ⟨h3, e3, P3, F3⟩ := K1.1.1.s2 0
    have K3 := K1.1.ofP P3 F3
    have n2 := nr.2.2 (by omega)
    exact ⟨h3, by rw [ed, Y q, e3, Option.bind_some], ⟨_, w, t', ru, sk, K3.1, ⟨by rw [r1]; exact t1, by rw [r2], by omega, by omega, by omega⟩, ⟨us_eq, u4, u5, u6, u7, u8⟩, ⟨y0, y1, y2, y3, by omega⟩⟩, K3.2⟩
  · obtain ⟨h3, e3, P3, F3⟩ := K1.1.1.s2 7
    have K3 := K1.1.ofP P3 F3
    have st := P3.stop (c := c + 1) (by omega) (by omega) (by rw [us_eq]; omega) (by rw [us_eq]; omega) (by rw [us_ne (by omega)]; omega) (by rw [us_ne (by omega)]; omega) (.inr us_eq)
    rw [us_ne (by omega), u8] at st
    exact ⟨h3, by rw [ed, Z q, e3, Option.bind_some], st, ⟨_, w, t', ru, sk, K3.1, by rw [r1]; exact t1, y0, y1, y2⟩, K3.2⟩
end
